/-! joints, passes that are missed, DENSE -/
/-- all that the answers behind a rolled run hang on -/
def LA (V U : VV) : Prop := RS V ∧ WmOK V ∧ (0 < nJ V ∧ nJ V ≤ 36 ∧ U 62 13 = nJ V ∧ U 62 0 = V 1 8) ∧ V 15 4 = U 62 28 ∧ (∀ s : Nat, s < 3 → V 54 s = U 79 s ∧ 0 ≤ U 79 s ∧ U 79 s ≤ 9) ∧ (∀ j : Nat, (j : Int) < nJ V → ∀ s : Nat, s < 3 → V 56 (3 * j + s) = U 112 (3 * j + s) ∧ 0 ≤ V 56 (3 * j + s) ∧ V 56 (3 * j + s) ≤ 9) ∧ ∀ j : Nat, (j : Int) < nJ V → CoolK V j ∧ (V 32 j = U 97 j ∧ 0 ≤ U 97 j ∧ U 97 j ≤ 4320) ∧ (V 33 j = U 98 j ∧ 0 ≤ U 98 j ∧ U 98 j ≤ 200) ∧ V 48 j = U 96 j ∧ (1 ≤ j → U 97 (j - 1) ≤ U 96 j ∧ U 96 j ≤ U 97 j) ∧ (20 ≤ V 8 j ∧ V 8 j ≤ 260) ∧ ∀ i : Nat, i ≤ 600 → U 109 (601 * j + i) = mnJ V (V 8 j) (V 33 j) i
theorem LA.kc {V U W : VV} (l : LA V U) (k : KC V W) : LA W U := by
  obtain ⟨a1, a2, a3, a4, a5, a6, a7⟩ := l
  have r := k.1
  have nj := kc_nJ k
  refine ⟨?_, ?_, ?_, ?_, ?_, ?_, fun j hj => ?_⟩
  · unfold RS; rw [r 1 (by omega) (by omega) (by omega), r 2 (by omega) (by omega) (by omega), r 3 (by omega) (by omega) (by omega), r 6 (by omega) (by omega) (by omega), r 7 (by omega) (by omega) (by omega)]; exact a1
  · unfold WmOK; rw [r 15 (by omega) (by omega) (by omega)]; exact a2
  · rw [nj, r 1 (by omega) (by omega) (by omega)]; exact a3
  · rw [r 15 (by omega) (by omega) (by omega)]; exact a4
  · rw [r 54 (by omega) (by omega) (by omega)]; exact a5
  · rw [nj, r 56 (by omega) (by omega) (by omega)]; exact a6
  · rw [nj] at hj
    obtain ⟨b1, b2⟩ := a7 j hj
    refine ⟨k.2 j hj, ?_⟩
    unfold mnJ at b2 ⊢
    rw [r 32 (by omega) (by omega) (by omega), r 33 (by omega) (by omega) (by omega), r 48 (by omega) (by omega) (by omega), r 8 (by omega) (by omega) (by omega), r 15 (by omega) (by omega) (by omega)]
    exact b2
theorem kc_tr {V W X : VV} (k : KC V W) (k2 : KC W X) : KC V X := ⟨fun i a b d => (k2.1 i a b d).trans (k.1 i a b d), fun j hj => k2.2 j (by rw [kc_nJ k]; exact hj)⟩
theorem cold2 {V U : VV} {j : Nat} (l : LA V U) (hj : (j : Int) < nJ V) : Two (f_Br_isColdJoint V (j : Int)) (f_Mo_isCold U (j : Int)) (fun q z => q.2 = z ∧ (z = 0 ∨ z = 1) ∧ KC V q.1) := by
  obtain ⟨a1, a2, a3, a4, a5, a6, a7⟩ := id l
  have kr : KC V V := KC.rf (fun j hj => (a7 j hj).1)
  obtain ⟨sp1, sp2, sp3, sp4, sp5⟩ := a1.split (j := (j : Int)) (by omega) hj
  unfold f_Br_isColdJoint f_Mo_isCold f_Br_isColdJoint_6 f_Mo_isCold_7
  rw [a1.sec (by omega) hj, a3.2.2.2, if_neg (show ¬ V 1 8 = 0 by omega), Int.tmod_eq_emod_of_nonneg (show 0 ≤ (j : Int) by omega)]
  refine Two.bindL (P := fun x => x = (j : Int) % V 1 8) (Sm.ok rfl) (fun x hx => ?_)
  rw [hx]
  by_cases g : 0 < (j : Int) % V 1 8
  · rw [if_pos g, if_pos g]
    have j1 : 1 ≤ j := by
      apply Classical.byContradiction
      intro y
      have : j = 0 := by omega
      subst this
      have : ((0 : Nat) : Int) % V 1 8 = 0 := Int.zero_emod _
      omega
    obtain ⟨b1, b2, b3, b4, b5, b6, b7⟩ := a7 (j - 1) (by omega)
    obtain ⟨c1, c2, c3, c4, c5, c6, c7⟩ := a7 j hj
    have c5' := c5 j1
    rw [w32_id (x := (j : Int) - 1) (by omega) (by omega), show (j : Int) - 1 = ((j - 1 : Nat) : Int) by omega, Int.toNat_natCast, Int.toNat_natCast, atV_in (by omega) (by omega), Int.toNat_natCast, c4]
    unfold f_Cooling_meanAt
    rw [atV_in (by omega) (by omega), Int.toNat_natCast, b2.1, w32_id (x := U 96 j - U 97 (j - 1)) (by omega) (by omega)]
    refine Two.bindL (Sm.bind (meanB a2 (by omega) b6.1 b6.2 (by omega) (by omega) b1 (U 96 j - U 97 (j - 1))) (fun q _ hq => Sm.ok (P := fun q : VV × Int => CO (j - 1) V q.1 ∧ CoolK q.1 (j - 1) ∧ q.2 = mnJ V (V 8 (j - 1 : Nat)) (V 33 (j - 1 : Nat)) (max 0 (min 600 (U 96 j - U 97 (j - 1)))).toNat) hq)) (fun q hq => ?_)
    obtain ⟨q1, q2, q3⟩ := hq
    have kq := kr.co q1 q2
    have mm_ : f_Mo_meanOf U ((j - 1 : Nat) : Int) (U 96 j - U 97 (j - 1)) = some q.2 := by
      unfold f_Mo_meanOf
      have em : (if 600 < U 96 j - U 97 (j - 1) then 600 else U 96 j - U 97 (j - 1) : Int) = min 600 (U 96 j - U 97 (j - 1)) := by split <;> omega
      rw [em, w32_id (x := 601 * ((j - 1 : Nat) : Int)) (by omega) (by omega), w32_id (by omega) (by omega), if_pos (by omega), show (601 * ((j - 1 : Nat) : Int) + min 600 (U 96 j - U 97 (j - 1))).toNat = 601 * (j - 1) + (max 0 (min 600 (U 96 j - U 97 (j - 1)))).toNat by omega, b7 _ (by omega), q3]
    refine Two.posR (by omega) (Two.posR (by omega) ?_)
    rw [mm_, q1.1 15 (by omega) (by omega) (by omega), a4]
    refine Two.bindR (P := fun x => x = q.2) (Sm.ok rfl) (fun x hx => ?_)
    rw [hx]
    by_cases z : q.2 < U 62 28
    · rw [if_pos z, if_pos z]; exact Two.ok ⟨rfl, Or.inr rfl, kq⟩
    · rw [if_neg z, if_neg z]; exact Two.ok ⟨rfl, Or.inl rfl, kq⟩
  · rw [if_neg g, if_neg g]; exact Two.ok ⟨rfl, Or.inl rfl, kr⟩
def mis (V : VV) (j s : Nat) : Int := V 54 s - V 56 (3 * j + s)
theorem misC {V U : VV} {j s : Nat} (l : LA V U) (hj : (j : Int) < nJ V) (hs : s < 3) : f_Rolling_missed V (j : Int) (s : Int) = mis V j s ∧ -9 ≤ mis V j s ∧ mis V j s ≤ 9 := by
  obtain ⟨a1, a2, a3, a4, a5, a6, a7⟩ := l
  have b := a5 s hs
  have c := a6 j hj s hs
  unfold f_Rolling_missed mis
  rw [atV_in (by omega) (by omega), w32_id (x := (j : Int) * 3) (by omega) (by omega), w32_id (x := (j : Int) * 3 + (s : Int)) (by omega) (by omega), atV_in (by omega) (by omega), Int.toNat_natCast, show ((j : Int) * 3 + (s : Int)).toNat = 3 * j + s by omega, w32_id (by omega) (by omega)]
  omega
def misS (V : VV) (j : Nat) : Int := mis V j 0 + mis V j 1 + mis V j 2
theorem missC {V U : VV} {j : Nat} (l : LA V U) (hj : (j : Int) < nJ V) : f_Rolling_missedOn V (j : Int) = some (misS V j) ∧ -27 ≤ misS V j ∧ misS V j ≤ 27 := by
  obtain ⟨m0, p0⟩ := misC l hj (s := 0) (by omega)
  obtain ⟨m1, p1⟩ := misC l hj (s := 1) (by omega)
  obtain ⟨m2, p2⟩ := misC l hj (s := 2) (by omega)
  refine ⟨?_, by unfold misS; omega, by unfold misS; omega⟩
  have e : ∀ (n : Nat) (v : Int) (s : Int), f_Rolling_missedOn_1 (n + 1) V (j : Int) v s = if s < 3 then f_Rolling_missedOn_1 n V (j : Int) (w32 (v + (f_Rolling_missed V (j : Int) s))) (w32 (s + 1)) else some v := fun _ _ _ => rfl
  have m0' : f_Rolling_missed V (j : Int) 0 = mis V j 0 := m0
  have m1' : f_Rolling_missed V (j : Int) 1 = mis V j 1 := m1
  have m2' : f_Rolling_missed V (j : Int) 2 = mis V j 2 := m2
  show f_Rolling_missedOn_1 (39999 + 1) V (j : Int) 0 0 = _
  rw [e, if_pos (by omega), m0', w32_id (x := 0 + mis V j 0) (by omega) (by omega), w32_id (x := (0 : Int) + 1) (by omega) (by omega)]
  rw [show (39999 : Nat) = 39998 + 1 from rfl, e, if_pos (by omega), show (0 : Int) + 1 = 1 by omega, m1', w32_id (x := 0 + mis V j 0 + mis V j 1) (by omega) (by omega), w32_id (x := (1 : Int) + 1) (by omega) (by omega)]
  rw [show (39998 : Nat) = 39997 + 1 from rfl, e, if_pos (by omega), show (1 : Int) + 1 = 2 by omega, m2', w32_id (x := 0 + mis V j 0 + mis V j 1 + mis V j 2) (by omega) (by omega), w32_id (x := (2 : Int) + 1) (by omega) (by omega)]
  rw [show (39997 : Nat) = 39996 + 1 from rfl, e, if_neg (by omega)]
  unfold misS
  rw [show 0 + mis V j 0 + mis V j 1 + mis V j 2 = mis V j 0 + mis V j 1 + mis V j 2 by omega]
theorem missM {V U : VV} {j : Nat} (l : LA V U) (hj : (j : Int) < nJ V) : f_Mo_missedOf U (j : Int) = some (misS V j) := by
  obtain ⟨m0, p0⟩ := misC l hj (s := 0) (by omega)
  obtain ⟨m1, p1⟩ := misC l hj (s := 1) (by omega)
  obtain ⟨m2, p2⟩ := misC l hj (s := 2) (by omega)
  obtain ⟨a1, a2, a3, a4, a5, a6, a7⟩ := l
  have e : ∀ (n : Nat) (v : Int) (s : Nat), s < 3 → -100 ≤ v ∧ v ≤ 100 → f_Mo_missedOf_1 (n + 1) U (j : Int) v (s : Int) = f_Mo_missedOf_1 n U (j : Int) (v + mis V j s) ((s : Int) + 1) := by
    intro n v s hs hv
    show (if (s : Int) < 3 then if 0 ≤ (s : Int) ∧ (s : Int) < (3 : Int) then if 0 ≤ (w32 ((w32 (3 * (j : Int))) + (s : Int))) ∧ (w32 ((w32 (3 * (j : Int))) + (s : Int))) < (108 : Int) then f_Mo_missedOf_1 n U (j : Int) (w32 (v + (w32 ((U 79 ((s : Int)).toNat) - (U 112 ((w32 ((w32 (3 * (j : Int))) + (s : Int))).toNat)))))) (w32 ((s : Int) + 1)) else none else none else some v) = _
    have b := a5 s hs
    have c := a6 j hj s hs
    have d : mis V j s = U 79 s - U 112 (3 * j + s) := by unfold mis; omega
    rw [if_pos (by omega), if_pos (by omega), w32_id (x := 3 * (j : Int)) (by omega) (by omega), w32_id (x := 3 * (j : Int) + (s : Int)) (by omega) (by omega), if_pos (by omega), Int.toNat_natCast, show (3 * (j : Int) + (s : Int)).toNat = 3 * j + s by omega, ← d, w32_id (x := mis V j s) (by omega) (by omega), w32_id (x := v + mis V j s) (by omega) (by omega), w32_id (by omega) (by omega)]
  show f_Mo_missedOf_1 (39999 + 1) U (j : Int) 0 ((0 : Nat) : Int) = _
  rw [e _ _ 0 (by omega) (by omega), show ((0 : Nat) : Int) + 1 = ((1 : Nat) : Int) by omega, show (39999 : Nat) = 39998 + 1 from rfl, e _ _ 1 (by omega) (by omega), show ((1 : Nat) : Int) + 1 = ((2 : Nat) : Int) by omega, show (39998 : Nat) = 39997 + 1 from rfl, e _ _ 2 (by omega) (by omega)]
  show (if ((2 : Nat) : Int) + 1 < 3 then _ else some (0 + mis V j 0 + mis V j 1 + mis V j 2)) = _
  rw [if_neg (by omega)]
  unfold misS
  rw [show 0 + mis V j 0 + mis V j 1 + mis V j 2 = mis V j 0 + mis V j 1 + mis V j 2 by omega]
theorem dens2 {V U : VV} {j : Nat} (l : LA V U) (hj : (j : Int) < nJ V) : Two (f_Br_denseOf V (j : Int)) (f_Mo_denseOf U (j : Int)) (fun q z => q.2 = z ∧ (0 ≤ z ∧ z ≤ 300) ∧ KC V q.1) := by
  obtain ⟨m1, m2⟩ := missC l hj
  unfold f_Br_denseOf f_Mo_denseOf
  rw [m1, missM l hj]
  refine Two.bindL (P := fun x => x = misS V j) (Sm.ok rfl) (fun x hx => Two.bindR (P := fun x => x = misS V j) (Sm.ok rfl) (fun y hy => ?_))
  rw [hx, hy]
  refine Two.bind2 (cold2 l hj) (fun q z hq => ?_)
  obtain ⟨a1, a2, a3⟩ := hq
  rw [a1]
  refine Two.ok ⟨?_, ?_, a3⟩
  · dsimp only
    rw [w32_id (x := 4 * misS V j) (by omega) (by omega)]
    rcases a2 with z0 | z1
    · rw [z0, if_pos rfl, w32_id (x := 4 * misS V j + 0) (by omega) (by omega), w32_id (x := 100 - 4 * misS V j) (by omega) (by omega), w32_id (x := 100 - 4 * misS V j - 0) (by omega) (by omega), w32_id (x := 100 - (4 * misS V j + 0)) (by omega) (by omega)]
      split <;> omega
    · rw [z1, if_neg (by omega), w32_id (x := 4 * misS V j + 6) (by omega) (by omega), w32_id (x := 100 - 4 * misS V j) (by omega) (by omega), w32_id (x := 100 - 4 * misS V j - 6) (by omega) (by omega), w32_id (x := 100 - (4 * misS V j + 6)) (by omega) (by omega)]
      split <;> omega
  · rw [w32_id (x := 4 * misS V j) (by omega) (by omega), w32_id (x := 100 - 4 * misS V j) (by omega) (by omega)]
    have : -6 ≤ -(if z = 0 then 0 else 6 : Int) ∧ -(if z = 0 then 0 else 6 : Int) ≤ 0 := by split <;> omega
    rw [w32_id (by omega) (by omega)]
    split <;> omega
