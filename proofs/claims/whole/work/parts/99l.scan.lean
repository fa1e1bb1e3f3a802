/-! a whole clause, the scan -/
theorem clFail {v2 : Int} {b : Nat → Int} {sz : Nat} {V0 U0 V U : VV} {m : Nat} (i : INVH v2 b sz V0 U0 V U m) {c : Int} (hc : c ≠ 0) : Two (lt_ (f_Tape_fail 16 17 400 V c) (fun q => some q)) (some (U, c)) (CPost v2 b sz V0 U0 m) := by
  obtain ⟨a, h, -, -, fh, fm, -⟩ := i
  obtain ⟨d1, d2⟩ := a.fail h hc
  exact Two.ok (cInr hc d1 (fh.cf d2) fm)
theorem worldS {v2 : Int} {b : Nat → Int} {sz : Nat} {V0 U0 W Y : VV} {m : Nat} {w : Int} (a : AT 16 17 400 b sz W Y) (h : W 16 4 = 0) (m1 : W 18 8 = m ∧ Y 62 50 = m ∧ m < 40) (w1 : W 18 9 = w ∧ Y 62 51 = w ∧ 0 ≤ w ∧ w ≤ 3) (fh : FHc v2 V0 W) (fm : FHm U0 Y) (e81 : Y 81 (40 + m) = 1) (rw_ : v2 ≠ 0 → ∀ i : Nat, i < m → ROWR W Y i) : Two (Option.bind (f_Tape_passNumber 16 17 400 W (W 18 9) (min (W 18 9) 2)) (fun q13 => f_Hours_passClause_26 q13.1 v2 0 0 0 0)) (if (if (Y 62 45) = 1 then (if (Y 62 51) = 3 then 2 else (if (Y 62 46) = (Y 62 51) then 0 else 2 : Int) : Int) else 1 : Int) = 0 then Option.bind (f_Mo_nextToken (up Y 62 51 (w32 ((Y 62 51) + 1)))) (fun q11 => f_Mo_clause_20 q11 (40 + (m : Int)) (if (Y 62 45) = 1 then (if (Y 62 51) = 3 then 2 else (if (Y 62 46) = (Y 62 51) then 0 else 2 : Int) : Int) else 1 : Int)) else f_Mo_clause_20 Y (40 + (m : Int)) (if (Y 62 45) = 1 then (if (Y 62 51) = 3 then 2 else (if (Y 62 46) = (Y 62 51) then 0 else 2 : Int) : Int) else 1 : Int)) (CPost v2 b sz V0 U0 m) := by
  obtain ⟨n1, n2⟩ := a.num
  rw [w1.1, w1.2.1, w32_id (x := w + 1) (by omega) (by omega)]
  unfold f_Tape_passNumber f_Tape_passNumber_6 lt_
  dsimp only
  have bad : ∀ c : Int, c ≠ 0 → Two (Option.bind (if f_Tape_isSound 16 17 400 (f_Tape_fail 16 17 400 W c) = 0 then some (f_Tape_fail 16 17 400 W c, w) else Option.bind (f_Tape_next 16 17 400 (f_Tape_fail 16 17 400 W c)) (fun q3 => some (q3, (f_Tape_fail 16 17 400 W c) 16 3))) (fun q13 => f_Hours_passClause_26 q13.1 v2 0 0 0 0)) (f_Mo_clause_20 Y (40 + (m : Int)) c) (CPost v2 b sz V0 U0 m) := by
    intro c hc
    obtain ⟨d1, d2⟩ := a.fail h hc
    rw [sound0 (V := f_Tape_fail 16 17 400 W c) (by rw [d1.1]; exact hc), if_pos rfl, obs]
    exact tail0 d1 (fh.cf d2) fm m1.2.2
  by_cases g : W 16 2 = 2
  · obtain ⟨n3, n4, n5⟩ := n2 g
    rw [if_pos g, if_pos (n1.mp g)]
    by_cases r : w ≠ 3 ∧ Y 62 46 = w
    · have e3 : W 16 3 = w := by omega
      rw [e3, if_neg (show ¬ isFromV w w (min w 2) = 0 by rw [isFromV_1 (by omega) (by omega)]; omega), if_neg r.1, if_pos r.2, if_pos rfl, sound1 h, if_neg (by omega), obb]
      have a2 : AT 16 17 400 b sz W (up Y 62 51 (w + 1)) := a.fr (fun _ _ => rfl) rfl (fun c hc => up_nf _ _ (by omega)) (up_na _ _ _ (by omega))
      have fm2 : FHm U0 (up Y 62 51 (w + 1)) := fm.c62 (by omega)
      have y51 : (up Y 62 51 (w + 1)) 62 51 = w + 1 := up_eq _ _ _ _
      have y50 : (up Y 62 51 (w + 1)) 62 50 = Y 62 50 := up_nf _ _ (by omega)
      have yr : ∀ r, r ≠ 62 → (up Y 62 51 (w + 1)) r = Y r := fun r hr => up_na _ _ _ hr
      generalize up Y 62 51 (w + 1) = Y2 at *
      refine Two.bind2 a2.next (fun W2 Z hW => ?_)
      obtain ⟨q1, q2, q3⟩ := hW
      rw [obs]
      dsimp only
      have w18 := q2.1 18 (by omega)
      have z81 : ∀ r, r ≠ 62 → Z r = Y r := fun r hr => (q3.1 r hr).trans (yr r hr)
      refine tail1 (w := w) q1 (by rw [q2.2 4 (by omega) (by omega) (by omega) (by omega)]; exact h) (by rw [w18]; exact m1.1) (by rw [q3.2 50 (by omega), y50]; exact m1.2.1) m1.2.2 (by rw [w18]; exact w1.1) ?_ ⟨w1.2.2.1, w1.2.2.2, ?_⟩ (fh.cf q2.cf) (fm2.mf2 q3.mf2) ?_ ⟨by omega, by omega⟩ (fun hv i hi => (rw_ hv i hi).fr (fun r x y => by rw [q2.1 r (by omega)]) (fun r x y => by rw [z81 r (by omega)]))
      · rw [q3.2 51 (by omega), y51, if_pos rfl]
      · rw [q3.2 51 (by omega), y51]; omega
      · unfold VALP
        rw [z81 81 (by omega), e81]
        exact ⟨by omega, fun x => by omega, fun x => by omega, fun x => by omega⟩
    · have e : (if w = 3 then 2 else (if (Y 62 46) = w then 0 else 2 : Int) : Int) = 2 := by
        by_cases w3 : w = 3
        · rw [if_pos w3]
        · rw [if_neg w3, if_neg (fun x => r ⟨w3, x⟩)]
      rw [e, if_neg (show ¬ (2 : Int) = 0 by omega), if_pos (isFromV_0.mpr (by omega))]
      exact bad 2 (by omega)
  · rw [if_neg g, if_neg (fun x => g (n1.mpr x)), if_neg (show ¬ (1 : Int) = 0 by omega)]
    exact bad 1 (by omega)
theorem clause2 {v2 : Int} {b : Nat → Int} {sz : Nat} {V0 U0 V U : VV} {m : Nat} (i : INVH v2 b sz V0 U0 V U m) : Two (f_Hours_passClause V v2) (f_Mo_clause U) (CPost v2 b sz V0 U0 m) := by
  obtain ⟨a, h, ⟨m1, m2, m3⟩, ⟨w1, w2, w3⟩, fh, fm, rw_⟩ := id i
  have w7 := AT.w7 (U := U)
  unfold f_Hours_passClause f_Mo_clause
  rw [kindOf_eq a, obs]
  by_cases g : 1 ≤ f_Mo_wordOf U ∧ f_Mo_wordOf U ≤ 5
  · rw [if_pos g, if_neg (show ¬ f_Mo_wordOf U - 1 = -1 by omega), if_neg (show ¬ f_Mo_wordOf U < 1 by omega), if_neg (show ¬ 5 < f_Mo_wordOf U by omega), m1, m2]
    by_cases m40 : m < 40
    · rw [if_pos (show (m : Int) < 40 by omega), if_neg (show ¬ (m : Int) = 40 by omega), w32_id (x := 40 + (m : Int)) (by omega) (by omega), if_pos (idx_ok m40), idx_n]
      have a2 : AT 16 17 400 b sz V (up U 81 (40 + m) (f_Mo_wordOf U)) := a.fr (fun _ _ => rfl) rfl (fun c hc => by rw [up_na _ _ _ (by omega)]) (up_na _ _ _ (by omega))
      have fm2 : FHm U0 (up U 81 (40 + m) (f_Mo_wordOf U)) := fm.row (by omega) (by omega)
      have y62 : (up U 81 (40 + m) (f_Mo_wordOf U)) 62 = U 62 := up_na _ _ _ (by omega)
      have y81 : (up U 81 (40 + m) (f_Mo_wordOf U)) 81 (40 + m) = f_Mo_wordOf U := up_eq _ _ _ _
      have yr : ∀ r i : Nat, i < m → (up U 81 (40 + m) (f_Mo_wordOf U)) r (40 + i) = U r (40 + i) := fun r i hi => by
        rw [up_ap]
        split
        · next hh => rw [if_neg (by omega), hh]
        · rfl
      generalize f_Mo_wordOf U = w at *
      generalize up U 81 (40 + m) w = U2 at *
      refine Two.bind2 a2.next (fun W Y hW => ?_)
      obtain ⟨q1, q2, q3⟩ := hW
      have w18 := q2.1 18 (by omega)
      have h4 : W 16 4 = 0 := by rw [q2.2 4 (by omega) (by omega) (by omega) (by omega)]; exact h
      have Y50 : Y 62 50 = m := by rw [q3.2 50 (by omega), y62]; exact m2
      have Y51 : Y 62 51 = U 62 51 := by rw [q3.2 51 (by omega), y62]
      have Y81 : Y 81 (40 + m) = w := by rw [q3.1 81 (by omega)]; exact y81
      have rwY : v2 ≠ 0 → ∀ i : Nat, i < m → ROWR W Y i := fun hv i hi => (rw_ hv i hi).fr (fun r x y => by rw [q2.1 r (by omega)]) (fun r x y => by rw [q3.1 r (by omega), yr r i hi])
      by_cases e1 : w = 1
      · subst e1
        rw [if_pos (show (1 : Int) - 1 = 0 by omega), if_pos rfl, show (1 : Int) - 1 = 0 by omega]
        exact worldS q1 h4 ⟨by rw [w18]; exact m1, Y50, m40⟩ ⟨by rw [w18], Y51.trans w1.symm, w2, w3⟩ (fh.cf q2.cf) (fm2.mf2 q3.mf2) Y81 rwY
      · rw [if_neg (show ¬ w - 1 = 0 by omega), if_neg e1]
        have c : CTXc v2 b sz V0 U0 W Y m (V 18 9) (w - 1) := ⟨q1, h4, ⟨by rw [w18]; exact m1, Y50, m40⟩, ⟨by rw [w18], Y51.trans w1.symm, w2, w3⟩, fh.cf q2.cf, fm2.mf2 q3.mf2, by omega, ⟨by omega, by omega⟩, rwY⟩
        show Two _ (tl20 m (f_Mo_inClause Y w (40 + (m : Int)))) _
        unfold f_Mo_inClause
        -- the plant of a haul or a shut
        have pl : ∀ {F : VV × Int → Option VV}, (∀ (W2 X2 : VV) (p4 : Int), CTXc v2 b sz V0 U0 W2 X2 m (V 18 9) (w - 1) → (p4 = X2 83 (40 + m) ∧ 0 ≤ p4 ∧ p4 ≤ 2) → Two (F (W2, p4)) (tl20 m (f_Mo_inClause_6 X2 w (40 + (m : Int)))) (CPost v2 b sz V0 U0 m)) → (∀ (W2 X2 : VV) (p4 c : Int), DEAD 16 c (X2 62 44) W2 → FHc v2 V0 W2 → FHm U0 X2 → Two (F (W2, p4)) (f_Mo_clause_20 X2 (40 + (m : Int)) c) (CPost v2 b sz V0 U0 m)) → Two (Option.bind (f_Tape_passNumber 16 17 400 W 0 2) F) (tl20 m (f_Mo_inClause_2 Y w (40 + (m : Int)))) (CPost v2 b sz V0 U0 m) := by
          intro F k1 k2
          unfold tl20 f_Mo_inClause_2
          rw [obb]
          refine Two.bind2 (numStep q1 h4 ⟨by omega, by omega⟩) (fun q z hq => ?_)
          obtain ⟨cf, mf, hq⟩ := hq
          rw [if_pos (idx_ok m40), idx_n]
          rcases hq with ⟨z0, a3, h3, e, l1, l2⟩ | ⟨z1, d⟩
          · rw [if_pos z0]
            exact k1 q.1 _ q.2 ((c.step cf mf a3 h3).row (by omega)) ⟨by rw [up_eq]; exact e, l1, l2⟩
          · rw [if_neg z1, obs]
            exact k2 q.1 (up z.1 83 (40 + m) (z.1 62 57)) q.2 z.2 ⟨d.1, d.2.1, by rw [dead_row (by omega)]; exact d.2.2⟩ ((fh.cf q2.cf).cf cf) (((fm2.mf2 q3.mf2).mf2 mf).row (by omega) (by omega))
        by_cases e2 : w = 2
        · subst e2
          rw [if_pos (show (2 : Int) - 1 = 1 by omega), if_pos rfl, show (2 : Int) - 1 = 1 by omega] at *
          refine pl (fun W2 X2 p4 c2 h4 => st6a c2 h4) (fun W2 X2 p4 c d f1 f2 => ?_)
          dsimp only
          have dn : W2 16 4 ≠ 0 := by rw [d.1]; exact d.2.1
          rw [numD dn, obs]
          dsimp only
          rw [wordD dn, obs]
          rw [numD dn, obs]
          exact tail0 d f1 f2 m40
        · rw [if_neg (show ¬ w - 1 = 1 by omega), if_neg e2]
          have d22 : ∀ (W2 X2 : VV) (p4 c : Int), DEAD 16 c (X2 62 44) W2 → FHc v2 V0 W2 → FHm U0 X2 → Two (f_Hours_passClause_22 W2 v2 (w - 1) p4) (f_Mo_clause_20 X2 (40 + (m : Int)) c) (CPost v2 b sz V0 U0 m) := by
            intro W2 X2 p4 c d f1 f2
            unfold f_Hours_passClause_22
            have dn : W2 16 4 ≠ 0 := by rw [d.1]; exact d.2.1
            rw [numD dn, obs]
            dsimp only
            rw [wordD dn, obs]
            rw [numD dn, obs]
            exact tail0 d f1 f2 m40
          by_cases e3 : w = 3
          · rw [if_pos (show w - 1 = 2 by omega), if_pos e3]
            refine pl (fun W2 X2 p4 c2 h4 => ?_) d22
            have := st6b c2 (by omega) (fun _ => h4)
            rw [show w - 1 + 1 = w by omega] at this
            exact this
          · rw [if_neg (show ¬ w - 1 = 2 by omega), if_neg e3]
            have := st6b (p4 := 0) c (by omega) (fun x => by omega)
            rw [show w - 1 + 1 = w by omega] at this
            exact this
    · rw [if_neg (show ¬ (m : Int) < 40 by omega), if_pos (show (m : Int) = 40 by omega)]
      exact clFail i (by omega)
  · rw [if_neg g, if_pos rfl]
    refine Two.iteR (fun _ => clFail i (by omega)) (fun _ => Two.iteR (fun _ => clFail i (by omega)) (fun _ => absurd ⟨by omega, by omega⟩ g))
