/-! one, whole -/
theorem beg17 {X : VV} {c : Int} (e : (if (X 62 45) = 2 then (if (lcmpI (X 62 47) (f_Mo_add X 109 105 110)) = 0 then 7 else (if (lcmpI (X 62 47) (f_Mo_add X 109 97 120)) = 0 then 8 else 0 : Int) : Int) else (if (X 62 45) = 40 then 20 else (if (X 62 45) = 45 then 2 else 0 : Int) : Int) : Int) = c) : f_Mo_beginOne_17 X = if c = 0 then some (X, 1) else if c = 7 then f_Mo_beginOne_34 X c else if c = 8 then f_Mo_beginOne_34 X c else f_Mo_beginOne_37 X c := by
  unfold f_Mo_beginOne_17
  rw [e]
theorem beg3 {X : VV} (h1 : X 62 45 ≠ 1) : f_Mo_beginOne X = if X 62 45 = 2 ∧ 0 ≤ f_Mo_letterOf X then f_Mo_beginOne_7 X else f_Mo_beginOne_17 X := by
  unfold f_Mo_beginOne f_Mo_beginOne_3
  rw [if_neg h1, if_neg h1]
  by_cases g : X 62 45 = 2
  · rw [if_pos g]
    by_cases g2 : f_Mo_letterOf X < 0
    · rw [if_pos g2, if_neg (by omega)]
    · rw [if_neg g2, if_pos ⟨g, by omega⟩]
  · rw [if_neg g, if_neg (fun x => g x.1)]
theorem oneL {o ob on : Nat} {b : Nat → Int} {sz : Nat} {bd : Prop} {V0 U0 : VV} {Q : QF} {M : Int} {kS kO : VV → Int → Option (VV × Int)} (ho : o ≠ 25) (hbd : bd → ∀ x, -1000000000 ≤ ltV V0 x ∧ ltV V0 x ≤ 1000000000) (hS : ManyP o ob on b sz bd (ltV V0) V0 U0 Q 3 kS (M + 1)) (hO : OneP o ob on b sz bd (ltV V0) V0 U0 Q kO (M + 1)) : OneP o ob on b sz bd (ltV V0) V0 U0 Q (f_Rate_one o ob on kS kO) M := by
  intro F V X L u rest d n hM hd8 hu hr r hD k
  obtain ⟨m, rfl⟩ := r.n2
  have h4 := r.1.2.1
  have a := r.1.1
  have e111 := r.1.2.2.2.2.2.1
  have e109 := r.1.2.2.2.2.1
  have lv : ltV V = ltV V0 := by funext x; unfold ltV; rw [r.2.1.1 25 (fun e => ho e.symm)]
  obtain ⟨nm1, nm2⟩ := a.num
  have en := a.end_
  obtain ⟨w7, w8, -⟩ := rate_words
  obtain ⟨x7, x8⟩ := rate_wordsM (U := X)
  unfold f_Rate_one
  show Two _ (if (X 62 45) = 0 then if (X 62 111) = 0 then some (X, 1) else _ else if (X 62 111) = 0 then Option.bind (f_Mo_beginOne X) (fun q7 => f_Mo_readRate_6 (f_Mo_readRate_1 m) q7.1 q7.2) else _) Q
  rw [e111, if_pos rfl, if_pos rfl]
  by_cases g1 : X 62 45 = 1
  · have g2 := nm1.mpr g1
    rw [if_neg (show ¬ X 62 45 = 0 by omega), if_pos g2]
    unfold f_Mo_beginOne
    rw [if_pos g1]
    rcases numP a h4 g2 with ⟨l1, l2, e⟩ | ⟨l1, v, e⟩
    · rw [e, if_neg (by omega), obb, obb]
      unfold f_Mo_beginOne_3
      rw [if_pos g1]
      exact operandL (lt := ltV V0) (c := 0) (x := X 62 46) (v := X 62 46) r (by omega) hr hu hd8 (by rw [if_pos g1]) (by rw [if_pos g1]) ⟨GC.one (by omega) (fun _ => by omega), fun _ h => (by cases h), fun _ => ⟨fun s => rfl, by omega, by omega⟩⟩ k (fun W => rfl)
    · rw [e, if_pos l1, obs, obs, obs]
      unfold f_Mo_readRate_6
      rw [if_neg (show ¬ (2 : Int) = 0 by omega)]
      exact deadL r hD (by omega) FX.rf rfl
  · rw [if_neg (fun x => g1 (nm1.mp x)), a.sign (x := 45) (by omega)]
    by_cases gm : X 62 45 = 45
    · rw [if_pos gm, if_neg (show ¬ (1 : Int) = 0 by omega), opensP a (by omega), if_pos gm, if_neg (show ¬ X 62 45 = 0 by omega), beg3 g1, if_neg (show ¬ (X 62 45 = 2 ∧ 0 ≤ f_Mo_letterOf X) by omega), beg17 (c := 2) (by rw [if_neg (show ¬ X 62 45 = 2 by omega), if_neg (show ¬ X 62 45 = 40 by omega), if_pos gm]), if_neg (show ¬ (2 : Int) = 0 by omega), if_neg (show ¬ (2 : Int) = 7 by omega), if_neg (show ¬ (2 : Int) = 8 by omega)]
      by_cases g : d < 8
      · rw [if_pos g, obb, obb]
        refine pushL (t := 2) r (by omega) (by omega) ⟨by omega, g⟩ (by rw [if_neg (by omega), if_neg (by omega)]) (fun W Y r2 hp => ?_)
        rw [obs]
        dsimp only
        rw [if_neg (show ¬ (1 : Int) = 0 by omega), w32_id (x := d + 1) (by omega) (by omega), obb]
        refine hO _ W Y L (u + 1) rest (d + 1) m (by omega) (by omega) (by omega) hr r2 ?_ ?_
        · intro W2 Y2 v c dd cf fx
          exact hD W2 Y2 _ c dd cf fx
        · intro W2 Y2 seg v n2 r3 vb hp2
          rw [show d + 1 - ((u + 1 : Nat) : Int) = d - u by omega] at r3
          have vb2 : VB bd (ltV V0) seg [] (ngs u (w64 (-v))) := by
            refine ⟨vb.1, vb.2.1, fun hb => ?_⟩
            obtain ⟨p1, p2, p3⟩ := vb.2.2 hb
            have ab := ngs_abs (u + 1) v
            rw [w64_id (x := -v) (by omega) (by omega), ngs_s]
            exact ⟨p1, p2, p3⟩
          exact k W2 Y2 seg (w64 (-v)) n2 r3 vb2 (by omega)
      · rw [if_neg g, obs]
        dsimp only
        rw [if_pos rfl, obs, deep (by omega)]
        exact deadL r hD (by omega) FX.rf rfl
    · rw [if_neg gm, if_pos rfl, a.anyw (j := 7) (by omega), obs, w7]
      by_cases g7 : X 62 45 = 2 ∧ X 62 47 = 7170414
      · have lt0 : ¬ (X 62 45 = 2 ∧ 0 ≤ f_Mo_letterOf X) := by
          rcases letterM (U := X) with ⟨e, h⟩ | ⟨e, h⟩ | ⟨e, h⟩ | ⟨e, h⟩ | ⟨e, h1, h2, h3, h4⟩ <;> omega
        rw [if_pos g7, if_neg (show ¬ (1 : Int) = 0 by omega), if_neg (show ¬ X 62 45 = 0 by omega), beg3 g1, if_neg lt0, beg17 (c := 7) (by rw [if_pos g7.1, x7, if_pos (lcmp0.mpr g7.2)]), if_neg (by omega), if_pos rfl]
        unfold f_Rate_one_15 f_Rate_one_17 f_Rate_one_22
        rw [if_neg (show ¬ (1 : Int) = 0 by omega), if_neg (show ¬ (1 : Int) = 0 by omega)]
        exact twoL hS r (by omega) hM hd8 hu hr (Or.inl ⟨rfl, rfl⟩) hD k
      · rw [if_neg g7, if_pos rfl, a.anyw (j := 8) (by omega), obs, w8]
        by_cases g8 : X 62 45 = 2 ∧ X 62 47 = 7168376
        · have lt0 : ¬ (X 62 45 = 2 ∧ 0 ≤ f_Mo_letterOf X) := by
            rcases letterM (U := X) with ⟨e, h⟩ | ⟨e, h⟩ | ⟨e, h⟩ | ⟨e, h⟩ | ⟨e, h1, h2, h3, h4⟩ <;> omega
          rw [if_pos g8, if_neg (show ¬ (1 : Int) = 0 by omega), if_neg (show ¬ X 62 45 = 0 by omega), beg3 g1, if_neg lt0, beg17 (c := 8) (by rw [if_pos g8.1, x7, x8, if_neg (fun x => by have := lcmp0.mp x; omega), if_pos (lcmp0.mpr g8.2)]), if_neg (by omega), if_neg (by omega), if_pos rfl]
          unfold f_Rate_one_15 f_Rate_one_17 f_Rate_one_22
          rw [if_neg (show ¬ (1 : Int) = 0 by omega), if_neg (show ¬ (1 : Int) = 0 by omega)]
          exact twoL hS r (by omega) hM hd8 hu hr (Or.inr ⟨rfl, rfl⟩) hD k
        · rw [if_neg g8, if_pos rfl]
          unfold f_Rate_one_17
          rw [if_pos rfl, a.sign (x := 40) (by omega)]
          by_cases g40 : X 62 45 = 40
          · rw [if_pos g40, if_neg (show ¬ (1 : Int) = 0 by omega), if_neg (show ¬ X 62 45 = 0 by omega), beg3 g1, if_neg (by omega), beg17 (c := 20) (by rw [if_neg (by omega), if_pos g40]), if_neg (by omega), if_neg (by omega), if_neg (by omega)]
            unfold f_Rate_one_22
            rw [if_pos rfl]
            exact parenL hS r (by omega) g40 hM hd8 hu hr hD k
          · rw [if_neg g40, if_pos rfl]
            rcases letterP a with ⟨p1, p2, e⟩ | ⟨p1, e⟩
            · rw [e, if_neg (show ¬ X 62 45 = 0 by omega), beg3 g1, if_pos ⟨p1, p2⟩, obb, obb, lv]
              refine operandL (lt := ltV V0) (c := 1) (x := f_Mo_letterOf X) (v := ltV V0 (f_Mo_letterOf X)) r (by omega) hr hu hd8 (by rw [if_neg g1]) (by rw [if_neg g1]) ⟨GC.one (by omega) (fun h => by omega), fun _ h => (by cases h), fun hb => ⟨fun s => ?_, hbd hb _⟩⟩ k (fun W => rfl)
              show runC (ltV V0) ((1, f_Mo_letterOf X) :: []) s = _
              unfold runC
              rw [if_neg (by omega), if_pos rfl]
              rfl
            · rw [e, obs, obs]
              have fin : Two (F (f_Tape_fail o ob on V 1, 0)) (some (X, 1)) Q := deadL r hD (by omega) FX.rf rfl
              by_cases g0 : X 62 45 = 0
              · rw [if_pos g0]; exact fin
              · have e17 : f_Mo_beginOne X = some (X, 1) := by
                  rw [beg3 g1, if_neg p1, beg17 (c := 0) ?_, if_pos rfl]
                  by_cases g2 : X 62 45 = 2
                  · rw [if_pos g2, x7, x8, if_neg (fun x => g7 ⟨g2, lcmp0.mp x⟩), if_neg (fun x => g8 ⟨g2, lcmp0.mp x⟩)]
                  · rw [if_neg g2, if_neg g40, if_neg gm]
                rw [if_neg g0, e17, obs]
                unfold f_Mo_readRate_6
                rw [if_neg (show ¬ (1 : Int) = 0 by omega)]
                exact fin
