/-! a clause -/
def CTXc (v2 : Int) (b : Nat → Int) (sz : Nat) (V0 U0 V X : VV) (m : Nat) (w k : Int) : Prop := AT 16 17 400 b sz V X ∧ V 16 4 = 0 ∧ (V 18 8 = m ∧ X 62 50 = m ∧ m < 40) ∧ (V 18 9 = w ∧ X 62 51 = w ∧ 0 ≤ w ∧ w ≤ 3) ∧ FHc v2 V0 V ∧ FHm U0 X ∧ X 81 (40 + m) = k + 1 ∧ (1 ≤ k ∧ k ≤ 4) ∧ (v2 ≠ 0 → ∀ i : Nat, i < m → ROWR V X i)
theorem CTXc.step {v2 : Int} {b : Nat → Int} {sz : Nat} {V0 U0 V X W Y : VV} {m : Nat} {w k : Int} (c : CTXc v2 b sz V0 U0 V X m w k) (cf : CF 16 V W) (mf : MF2 X Y) (a : AT 16 17 400 b sz W Y) (h : W 16 4 = 0) : CTXc v2 b sz V0 U0 W Y m w k := by
  obtain ⟨c1, c2, c3, c4, c5, c6, c7, c8, c9⟩ := c
  have w18 := cf.1 18 (by omega)
  refine ⟨a, h, ?_, ?_, c5.cf cf, c6.mf2 mf, ?_, c8, fun hv i hi => (c9 hv i hi).fr (fun r x y => by rw [cf.1 r (by omega)]) (fun r x y => by rw [mf.1 r (by omega)])⟩
  · rw [w18, mf.2 50 (by omega) (by omega)]; exact c3
  · rw [w18, mf.2 51 (by omega) (by omega)]; exact c4
  · rw [mf.1 81 (by omega)]; exact c7
theorem CTXc.row {v2 : Int} {b : Nat → Int} {sz : Nat} {V0 U0 V X : VV} {m : Nat} {w k : Int} (c : CTXc v2 b sz V0 U0 V X m w k) {r : Nat} {x : Int} (hr : 83 ≤ r ∧ r ≤ 85) : CTXc v2 b sz V0 U0 V (up X r (40 + m) x) m w k := by
  obtain ⟨c1, c2, c3, c4, c5, c6, c7, c8, c9⟩ := c
  have u62 : (up X r (40 + m) x) 62 = X 62 := up_na _ _ _ (by omega)
  refine ⟨c1.fr (fun _ _ => rfl) rfl (fun c _ => by rw [u62]) (up_na _ _ _ (by omega)), c2, by rw [u62]; exact c3, by rw [u62]; exact c4, c5, c6.row (by omega) (by omega), by rw [up_na _ _ _ (by omega)]; exact c7, c8, fun hv i hi => (c9 hv i hi).fr (fun _ _ _ => rfl) (fun r2 y z => ?_)⟩
  rw [up_ap]
  split
  · next h => rw [if_neg (by omega), h]
  · rfl
/-- the reference's end of a clause -/
def tl20 (m : Nat) (z : Option (VV × Int)) : Option (VV × Int) := Option.bind z (fun q8 => f_Mo_clause_20 q8.1 (40 + (m : Int)) q8.2)
theorem idx_ok {m : Nat} (h : m < 40) : 0 ≤ 40 + (m : Int) ∧ 40 + (m : Int) < (80 : Int) := by omega
theorem idx_n {m : Nat} : (40 + (m : Int)).toNat = 40 + m := by omega
theorem fin21 {v2 : Int} {b : Nat → Int} {sz : Nat} {V0 U0 V X : VV} {m : Nat} {w k p4 lo : Int} {A B : Int → Int} (c : CTXc v2 b sz V0 U0 V X m w k) (hlo : 0 ≤ lo) (hv : ∀ x, lo ≤ x → x ≤ 4319 → ∀ Y : VV, (∀ r, r = 81 ∨ r = 83 ∨ r = 84 → Y r (40 + m) = X r (40 + m)) → Y 85 (40 + m) = x → VALP k p4 (A x) (B x) Y m) : Two (Option.bind (f_Tape_passNumber 16 17 400 V lo 4319) (fun q => f_Hours_passClause_26 q.1 v2 k p4 (A q.2) (B q.2))) (tl20 m (f_Mo_inClause_21 X (40 + (m : Int)) lo)) (CPost v2 b sz V0 U0 m) := by
  have m40 := c.2.2.1.2.2
  unfold tl20 f_Mo_inClause_21
  rw [obb]
  refine Two.bind2 (numStep c.1 c.2.1 ⟨hlo, by omega⟩) (fun q z hq => ?_)
  obtain ⟨cf, mf, hq⟩ := hq
  unfold f_Mo_inClause_23
  rw [if_pos (idx_ok m40), obs, idx_n]
  dsimp only
  rcases hq with ⟨z0, a, h, e, l1, l2⟩ | ⟨z1, d⟩
  · rw [z0]
    have c2 := (c.step cf mf a h).row (r := 85) (x := z.1 62 57) (by omega)
    obtain ⟨d1, d2, d3, d4, d5, d6, d7, d8, d9⟩ := c2
    refine tail1 (w := w) d1 d2 d3.1 d3.2.1 m40 d4.1 ?_ ⟨d4.2.2.1, d4.2.2.2, by have := d4.2.1; omega⟩ d5 d6 ?_ ⟨by omega, d8.2⟩ d9
    · rw [if_neg (by omega)]
      have := d4.2.1
      omega
    · refine hv q.2 l1 l2 _ (fun r hr => ?_) ?_
      · rw [up_na _ _ _ (by omega), mf.1 r (by omega)]
      · rw [up_eq]; exact e.symm
  · refine tail0 ⟨d.1, d.2.1, ?_⟩ (c.2.2.2.2.1.cf cf) ((c.2.2.2.2.2.1.mf2 mf).row (by omega) (by omega)) m40
    rw [d.2.2, dead_row (by omega)]
theorem dead17 {v2 : Int} {b : Nat → Int} {sz : Nat} {V0 U0 V X : VV} {m : Nat} {w c k p4 p5 p6 : Int} (d : DEAD 16 c (X 62 44) V) (fh : FHc v2 V0 V) (fm : FHm U0 X) (m40 : m < 40) : Two (f_Hours_passClause_26 V v2 k p4 p5 p6) (tl20 m (f_Mo_inClause_17 X w (40 + (m : Int)) c)) (CPost v2 b sz V0 U0 m) := by
  unfold tl20 f_Mo_inClause_17 f_Mo_inClause_23
  rw [if_neg d.2.1, if_pos (idx_ok m40), obs, idx_n]
  dsimp only
  refine tail0 ⟨d.1, d.2.1, ?_⟩ fh (fm.row (by omega) (by omega)) m40
  rw [d.2.2, dead_row (by omega)]
theorem st17a {v2 : Int} {b : Nat → Int} {sz : Nat} {V0 U0 V X : VV} {m : Nat} {w p4 p6 : Int} (c : CTXc v2 b sz V0 U0 V X m w 1) (h4 : p4 = X 83 (40 + m) ∧ 0 ≤ p4 ∧ p4 ≤ 2) (h6 : p6 = X 84 (40 + m) ∧ 1 ≤ p6 ∧ p6 ≤ 120) : Two (Option.bind (f_Tape_passNumber 16 17 400 V 0 4319) (fun q => f_Hours_passClause_26 q.1 v2 1 p4 q.2 p6)) (tl20 m (f_Mo_inClause_17 X 2 (40 + (m : Int)) 0)) (CPost v2 b sz V0 U0 m) := by
  unfold f_Mo_inClause_17
  rw [if_pos rfl, if_pos rfl]
  refine fin21 (A := fun x => x) (B := fun _ => p6) c (by omega) (fun x l1 l2 Y hY e => ?_)
  unfold VALP
  rw [hY 81 (by omega), hY 83 (by omega), hY 84 (by omega), e]
  exact ⟨c.2.2.2.2.2.2.1, fun _ => h4, fun _ => ⟨rfl, h6.1, l1, l2, h6.2⟩, fun y => by omega⟩
theorem st17b {v2 : Int} {b : Nat → Int} {sz : Nat} {V0 U0 V X : VV} {m : Nat} {w k p4 lo : Int} (c : CTXc v2 b sz V0 U0 V X m w k) (hk : 2 ≤ k) (h4 : k = 2 → p4 = X 83 (40 + m) ∧ 0 ≤ p4 ∧ p4 ≤ 2) (hl : lo = X 84 (40 + m) ∧ 0 ≤ lo) : Two (Option.bind (f_Tape_passNumber 16 17 400 V lo 4319) (fun q => f_Hours_passClause_26 q.1 v2 k p4 lo q.2)) (tl20 m (f_Mo_inClause_17 X (k + 1) (40 + (m : Int)) 0)) (CPost v2 b sz V0 U0 m) := by
  unfold f_Mo_inClause_17
  rw [if_pos rfl, if_neg (by omega), if_pos (idx_ok c.2.2.1.2.2), idx_n, ← hl.1]
  refine fin21 (A := fun _ => lo) (B := fun x => x) c hl.2 (fun x l1 l2 Y hY e => ?_)
  unfold VALP
  rw [hY 81 (by omega), hY 83 (by omega), hY 84 (by omega), e]
  exact ⟨c.2.2.2.2.2.2.1, fun y => h4 (by omega), fun y => by omega, fun _ => ⟨hl.1, rfl, hl.2, l1, l2⟩⟩
theorem st6a {v2 : Int} {b : Nat → Int} {sz : Nat} {V0 U0 V X : VV} {m : Nat} {w p4 : Int} (c : CTXc v2 b sz V0 U0 V X m w 1) (h4 : p4 = X 83 (40 + m) ∧ 0 ≤ p4 ∧ p4 ≤ 2) : Two (Option.bind (f_Tape_passNumber 16 17 400 V 1 120) (fun q10 => Option.bind (f_Tape_passWord 16 17 400 5 q10.1) (fun q11 => Option.bind (f_Tape_passNumber 16 17 400 q11 0 4319) (fun q12 => f_Hours_passClause_26 q12.1 v2 1 p4 q12.2 q10.2)))) (tl20 m (f_Mo_inClause_6 X 2 (40 + (m : Int)))) (CPost v2 b sz V0 U0 m) := by
  have m40 := c.2.2.1.2.2
  unfold f_Mo_inClause_6
  rw [if_pos rfl]
  unfold tl20
  rw [obb]
  refine Two.bind2 (numStep c.1 c.2.1 ⟨by omega, by omega⟩) (fun q z hq => ?_)
  obtain ⟨cf, mf, hq⟩ := hq
  unfold f_Mo_inClause_10
  rw [if_pos (idx_ok m40), idx_n]
  rcases hq with ⟨z0, a, h, e, l1, l2⟩ | ⟨z1, d⟩
  · have c2 := (c.step cf mf a h).row (r := 84) (x := z.1 62 57) (by omega)
    rw [if_pos z0, obb, if_pos rfl]
    refine Two.bind2 (wordStep c2.1 c2.2.1 (j := 5) (by omega) (by omega)) (fun W y hy => ?_)
    obtain ⟨cf2, mf2, e57, hy⟩ := hy
    rcases hy with ⟨y0, a2, h2⟩ | ⟨y1, d⟩
    · rw [y0]
      refine st17a (c2.step cf2 mf2 a2 h2) ?_ ?_
      · rw [mf2.1 83 (by omega), up_na _ _ _ (by omega), mf.1 83 (by omega)]; exact h4
      · rw [mf2.1 84 (by omega), up_eq]; exact ⟨e, l1, l2⟩
    · rw [numD (by rw [d.1]; exact d.2.1), obs]
      exact dead17 d (c2.2.2.2.2.1.cf cf2) (c2.2.2.2.2.2.1.mf2 mf2) m40
  · rw [if_neg z1, wordD (by rw [d.1]; exact d.2.1), obs, numD (by rw [d.1]; exact d.2.1), obs]
    exact dead17 ⟨d.1, d.2.1, by rw [dead_row (by omega)]; exact d.2.2⟩ (c.2.2.2.2.1.cf cf) ((c.2.2.2.2.2.1.mf2 mf).row (by omega) (by omega)) m40
theorem st6b {v2 : Int} {b : Nat → Int} {sz : Nat} {V0 U0 V X : VV} {m : Nat} {w k p4 : Int} (c : CTXc v2 b sz V0 U0 V X m w k) (hk : 2 ≤ k) (h4 : k = 2 → p4 = X 83 (40 + m) ∧ 0 ≤ p4 ∧ p4 ≤ 2) : Two (f_Hours_passClause_22 V v2 k p4) (tl20 m (f_Mo_inClause_6 X (k + 1) (40 + (m : Int)))) (CPost v2 b sz V0 U0 m) := by
  have m40 := c.2.2.1.2.2
  unfold f_Hours_passClause_22 f_Mo_inClause_6
  rw [if_neg (by omega)]
  unfold tl20
  rw [obb]
  refine Two.bind2 (numStep c.1 c.2.1 ⟨by omega, by omega⟩) (fun q z hq => ?_)
  obtain ⟨cf, mf, hq⟩ := hq
  unfold f_Mo_inClause_10
  rw [if_pos (idx_ok m40), idx_n]
  rcases hq with ⟨z0, a, h, e, l1, l2⟩ | ⟨z1, d⟩
  · have c2 := (c.step cf mf a h).row (r := 84) (x := z.1 62 57) (by omega)
    rw [if_pos z0, obb, if_neg (show ¬ k + 1 = 2 by omega)]
    refine Two.bind2 (wordStep c2.1 c2.2.1 (j := 6) (by omega) (by omega)) (fun W y hy => ?_)
    obtain ⟨cf2, mf2, e57, hy⟩ := hy
    rcases hy with ⟨y0, a2, h2⟩ | ⟨y1, d⟩
    · rw [y0]
      refine st17b (c2.step cf2 mf2 a2 h2) hk ?_ ?_
      · rw [mf2.1 83 (by omega), up_na _ _ _ (by omega), mf.1 83 (by omega)]; exact h4
      · rw [mf2.1 84 (by omega), up_eq]; exact ⟨e, l1⟩
    · rw [numD (by rw [d.1]; exact d.2.1), obs]
      exact dead17 d (c2.2.2.2.2.1.cf cf2) (c2.2.2.2.2.2.1.mf2 mf2) m40
  · rw [if_neg z1, wordD (by rw [d.1]; exact d.2.1), obs, numD (by rw [d.1]; exact d.2.1), obs]
    exact dead17 ⟨d.1, d.2.1, by rw [dead_row (by omega)]; exact d.2.2⟩ (c.2.2.2.2.1.cf cf) ((c.2.2.2.2.2.1.mf2 mf).row (by omega) (by omega)) m40
theorem kindOf_eq {b : Nat → Int} {sz : Nat} {V U : VV} (a : AT 16 17 400 b sz V U) : f_Hours_kindOf V = some (if 1 ≤ f_Mo_wordOf U ∧ f_Mo_wordOf U ≤ 5 then f_Mo_wordOf U - 1 else -1) := by
  have w7 := AT.w7 (U := U)
  unfold f_Hours_kindOf
  rw [a.word 0 (by omega), a.word 1 (by omega), a.word 2 (by omega), a.word 3 (by omega), a.word 4 (by omega), obs, obs, obs, obs, obs]
  generalize f_Mo_wordOf U = w at *
  have : w = 0 ∨ w = 1 ∨ w = 2 ∨ w = 3 ∨ w = 4 ∨ w = 5 ∨ w = 6 ∨ w = 7 := by omega
  rcases this with rfl | rfl | rfl | rfl | rfl | rfl | rfl | rfl <;> decide
