/-! (5) both lay the same tonnes -/
theorem FR.lay {V0 U0 V U V2 U2 : VV} {h : HP} {t tl v : Int} {hd : Nat} {τ ρ : Nat → Int} {β : Int} (ht : 0 ≤ t ∧ t ≤ 4319) (r : FR V0 U0 h t β tl τ ρ V U) (hhd : U 62 74 = (hd : Int)) (hj : (hd : Int) < U0 62 13) (hv : 1 ≤ v ∧ v ≤ U 62 75) (hT : V 46 13 + v < U0 70 hd) (cf : CFr V0 V2) (mf : MFr U0 U2)
    (v0 : ∀ i, i ≠ 46 → i ≠ 47 → i ≠ 48 → V2 i = V i) (v46 : ∀ x, V2 46 x = if x = 13 then V 46 13 + v else if x = 15 then U 62 75 - v else V 46 x) (v47 : ∀ x, V2 47 x = if x = 3 then (if V 47 3 = -1 then t else V 47 3) else V 47 x) (v48 : ∀ x, V2 48 x = if x = hd then (if V 46 13 = 0 then t else V 48 hd) else V 48 x)
    (u0 : ∀ i, i ≠ 62 → i ≠ 95 → i ≠ 96 → U2 i = U i) (u62 : ∀ x, U2 62 x = if x = 77 then t else if x = 73 then U 62 73 + v else if x = 75 then U 62 75 - v else if x = 78 then (if U 62 78 < 0 then t else U 62 78) else U 62 x) (u95 : ∀ x, U2 95 x = if x = hd then U 95 hd + v else U 95 x) (u96 : ∀ x, U2 96 x = if x = hd then (if U 95 hd = 0 then t else U 96 hd) else U 96 x) : FR V0 U0 h t β tl τ ρ V2 U2 := by
  obtain ⟨⟨cf0, mf0, hh⟩, rt, ⟨la, lo, jo, jl⟩, ⟨su, ca, ka⟩, l0, l1⟩ := r
  obtain ⟨i1, i2, i3⟩ := hh.lie
  have c : ∀ x, x ≠ 77 → x ≠ 73 → x ≠ 75 → x ≠ 78 → U2 62 x = U 62 x := fun x a b d e => by rw [u62, if_neg a, if_neg b, if_neg d, if_neg e]
  have c73 : U2 62 73 = U 62 73 + v := by rw [u62, if_neg (by omega), if_pos rfl]
  have c75 : U2 62 75 = U 62 75 - v := by rw [u62, if_neg (by omega), if_neg (by omega), if_pos rfl]
  have c74 := c 74 (by omega) (by omega) (by omega) (by omega)
  have d13 : V2 46 13 = V 46 13 + v := by rw [v46, if_pos rfl]
  have d15 : V2 46 15 = U 62 75 - v := by rw [v46, if_neg (by omega), if_pos rfl]
  have d : ∀ x, x ≠ 13 → x ≠ 15 → V2 46 x = V 46 x := fun x a b => by rw [v46, if_neg a, if_neg b]
  obtain ⟨j1, j2, j3, j4, j5, j6, j7, j8, j9⟩ := jl
  have e95 : U 95 hd = V 46 13 := by rw [j3 hd hj, hhd, if_neg (by omega), if_pos rfl]
  have pre : ∀ i, preL V2 h U2 i = preL V h U i := fun i => by unfold preL; rw [v0 _ (by omega) (by omega) (by omega), u0 100 (by omega) (by omega) (by omega)]
  have hb : sm (busy U2) (U0 62 22).toNat = sm (busy U) (U0 62 22).toNat := by unfold busy; rw [u0 86 (by omega) (by omega) (by omega)]
  have hp : ∀ j, sm (pend U2 j) (U0 62 22).toNat = sm (pend U j) (U0 62 22).toNat := fun j => by unfold pend; rw [u0 86 (by omega) (by omega) (by omega), u0 90 (by omega) (by omega) (by omega), u0 99 (by omega) (by omega) (by omega), u0 100 (by omega) (by omega) (by omega)]
  refine ⟨⟨cf, mf, hh⟩, rt.frame (fun i a b => v0 i (by omega) (by omega) (by omega)) (fun i a => u0 i (by omega) (by omega) (by omega)) (c 63 (by omega) (by omega) (by omega) (by omega)) (c 72 (by omega) (by omega) (by omega) (by omega)), ⟨?_, ?_, ?_, ?_⟩, ⟨?_, ?_, ?_⟩, by rw [c 63 (by omega) (by omega) (by omega) (by omega)]; exact l0, by rw [c 63 (by omega) (by omega) (by omega) (by omega)]; exact l1.1, by unfold BGN; rw [c 72 (by omega) (by omega) (by omega) (by omega), u0 104 (by omega) (by omega) (by omega), u0 107 (by omega) (by omega) (by omega)]; exact l1.2⟩
  · unfold gLA
    rw [v0 28 (by omega) (by omega) (by omega), v0 h.1 (by omega) (by omega) (by omega), c 72 (by omega) (by omega) (by omega) (by omega), u0 99 (by omega) (by omega) (by omega), u0 100 (by omega) (by omega) (by omega), u0 104 (by omega) (by omega) (by omega)]
    refine ⟨la.1, la.2.1, fun l hl => ⟨fun f hf => ?_, (la.2.2 l hl).2⟩⟩
    rw [u0 _ (by omega) (by omega) (by omega)]
    exact (la.2.2 l hl).1 f hf
  · obtain ⟨o1, o2, o3, o4, o5, o6, o7⟩ := lo
    unfold gLO
    rw [v0 28 (by omega) (by omega) (by omega), v0 h.2.1 (by omega) (by omega) (by omega), c 72 (by omega) (by omega) (by omega) (by omega), c 79 (by omega) (by omega) (by omega) (by omega), hb, u0 108 (by omega) (by omega) (by omega), pre, c73, c75]
    exact ⟨o1, o2, o3, fun i hi => by rw [pre]; exact o4 i hi, o5, by omega, by omega⟩
  · obtain ⟨o1, o2, o3⟩ := jo
    unfold gJO
    rw [v0 37 (by omega) (by omega) (by omega), v0 45 (by omega) (by omega) (by omega), u0 94 (by omega) (by omega) (by omega), c74, c75]
    refine ⟨o1, o2, fun j hj' => ?_⟩
    obtain ⟨z1, z2, z3⟩ := o3 j hj'
    rw [hp, u95]
    refine ⟨z1, ?_, z3⟩
    by_cases e : j = hd
    · subst e
      rw [if_pos rfl, if_pos (by omega)]
      rw [if_pos (by omega)] at z2
      omega
    · rw [if_neg e, if_neg (by omega)]
      rw [if_neg (by omega)] at z2
      exact z2
  · unfold gJL
    rw [d 12 (by omega) (by omega), d13, d15, d 8 (by omega) (by omega), c74, c75]
    refine ⟨j1, j2, fun j hj' => ?_, by omega, fun _ => by rw [hhd, Int.toNat_natCast]; omega, rfl, by omega, fun z => by omega, j9⟩
    rw [u95]
    by_cases e : j = hd
    · subst e
      rw [if_pos rfl, if_neg (by omega), if_pos (by omega)]; omega
    · rw [if_neg e, j3 j hj']
      by_cases e2 : (j : Int) < U 62 74
      · rw [if_pos e2, if_pos e2]
      · rw [if_neg e2, if_neg e2, if_neg (by omega), if_neg (by omega)]
  · obtain ⟨s1, s2, s3, s4, s5, s6, s7, s8, s9⟩ := su
    unfold gSU
    rw [v47, v47, v47, v47, v47, d13, c73, c74, c 76 (by omega) (by omega) (by omega) (by omega), c 79 (by omega) (by omega) (by omega) (by omega), c 80 (by omega) (by omega) (by omega) (by omega), u62 78]
    simp only [Nat.reduceEqDiff, reduceIte]
    refine ⟨s1, s2, ?_, ?_, s5, s6, s7, by omega, fun z => by omega⟩
    · rw [s3]
      by_cases e : U 62 78 = -1
      · rw [if_pos e, if_pos (by omega)]
      · rw [if_neg e, if_neg (by omega)]
    · split <;> omega
  · obtain ⟨a1, a2, a3⟩ := ca
    unfold gCA
    rw [d13, d 14 (by omega) (by omega), c74, c75, v0 32 (by omega) (by omega) (by omega), v0 33 (by omega) (by omega) (by omega), u0 97 (by omega) (by omega) (by omega), u0 98 (by omega) (by omega) (by omega)]
    rw [hhd, Int.toNat_natCast] at a2 a3 ⊢
    rw [v48, u96, if_pos rfl, if_pos rfl]
    refine ⟨fun j hj' => ?_, fun _ => ?_, fun _ => a3 (Or.inr (by omega))⟩
    · rw [v48, u96, if_neg (by omega), if_neg (by omega)]; exact a1 j (by omega)
    · rw [e95]
      by_cases e : V 46 13 = 0
      · rw [if_pos e, if_pos e]
        refine ⟨rfl, by omega, fun h1 => ?_⟩
        have := (a1 (hd - 1) (by omega)).2.1
        rw [show ((hd : Int) - 1).toNat = hd - 1 by omega]
        exact this.2
      · rw [if_neg e, if_neg e]
        exact a2 e
  · unfold gKA CoolK shJ mnJ
    rw [c74, v0 8 (by omega) (by omega) (by omega), v0 15 (by omega) (by omega) (by omega), v0 33 (by omega) (by omega) (by omega), v0 34 (by omega) (by omega) (by omega), v0 35 (by omega) (by omega) (by omega), v0 36 (by omega) (by omega) (by omega), u0 98 (by omega) (by omega) (by omega), u0 109 (by omega) (by omega) (by omega)]
    exact ka
theorem FR.layF {V0 U0 V U V2 U2 : VV} {h : HP} {t tl v : Int} {hd : Nat} {τ ρ : Nat → Int} {β : Int} (ht : 0 ≤ t ∧ t ≤ 4319) (r : FR V0 U0 h t β tl τ ρ V U) (hhd : U 62 74 = (hd : Int)) (hj : (hd : Int) < U0 62 13) (hv : 1 ≤ v ∧ v ≤ U 62 75) (hT : V 46 13 + v = U0 70 hd) (hton : ∀ j : Nat, (j : Int) < U0 62 13 → 1 ≤ U0 70 j ∧ U0 70 j ≤ 3744) (cf : CFr V0 V2) (mf : MFr U0 U2)
    (v0 : ∀ i, i ≠ 46 → i ≠ 47 → i ≠ 48 → ¬ (32 ≤ i ∧ i ≤ 36) → V2 i = V i) (v46 : ∀ x, V2 46 x = if x = 12 then (hd : Int) + 1 else if x = 13 then 0 else if x = 15 then U 62 75 - v else if x = 8 then (if (hd : Int) + 1 < U0 62 13 then V 46 8 else 1) else V 46 x) (v47 : ∀ x, V2 47 x = if x = 3 then (if V 47 3 = -1 then t else V 47 3) else if x = 1 then (if (hd : Int) + 1 < U0 62 13 then V 47 1 else t) else V 47 x) (v48 : ∀ x, V2 48 x = if x = hd then (if V 46 13 = 0 then t else V 48 hd) else V 48 x) (v32 : ∀ x, V2 32 x = if x = hd then t else V 32 x) (v33 : ∀ x, V2 33 x = if x = hd then V 46 14 else V 33 x) (vk : ∀ j : Nat, j ≤ hd → CoolK V2 j)
    (u0 : ∀ i, i ≠ 62 → i ≠ 95 → i ≠ 96 → i ≠ 97 → i ≠ 109 → i ≠ 110 → i ≠ 111 → U2 i = U i) (u62 : ∀ x, U2 62 x = if x = 74 then (hd : Int) + 1 else if x = 77 then t else if x = 73 then U 62 73 + v else if x = 75 then U 62 75 - v else if x = 78 then (if U 62 78 < 0 then t else U 62 78) else U 62 x) (u95 : ∀ x, U2 95 x = if x = hd then U 95 hd + v else U 95 x) (u96 : ∀ x, U2 96 x = if x = hd then (if U 95 hd = 0 then t else U 96 hd) else U 96 x) (u97 : ∀ x, U2 97 x = if x = hd then t else U 97 x) (u109 : ∀ m, m < 601 * hd ∨ 601 * hd + 601 ≤ m → U2 109 m = U 109 m) (u109b : ∀ i : Nat, i ≤ 600 → U2 109 (601 * hd + i) = mnU U0 (U0 69 hd) (U 98 hd) i) : FR V0 U0 h t β tl τ ρ V2 U2 ∧ U 62 75 = v := by
  obtain ⟨⟨cf0, mf0, hh⟩, rt, ⟨la, lo, jo, jl⟩, ⟨su, ca, ka⟩, l0, l1⟩ := r
  obtain ⟨i1, i2, i3⟩ := hh.lie
  have c : ∀ x, x ≠ 74 → x ≠ 77 → x ≠ 73 → x ≠ 75 → x ≠ 78 → U2 62 x = U 62 x := fun x f a b d e => by rw [u62, if_neg f, if_neg a, if_neg b, if_neg d, if_neg e]
  have c74 : U2 62 74 = (hd : Int) + 1 := by rw [u62, if_pos rfl]
  have c73 : U2 62 73 = U 62 73 + v := by rw [u62, if_neg (by omega), if_neg (by omega), if_pos rfl]
  have c75 : U2 62 75 = U 62 75 - v := by rw [u62, if_neg (by omega), if_neg (by omega), if_neg (by omega), if_pos rfl]
  have c77 : U2 62 77 = t := by rw [u62, if_neg (by omega), if_pos rfl]
  have c78 : U2 62 78 = if U 62 78 < 0 then t else U 62 78 := by rw [u62]; simp only [Nat.reduceEqDiff, reduceIte]
  have d12 : V2 46 12 = (hd : Int) + 1 := by rw [v46, if_pos rfl]
  have d13 : V2 46 13 = 0 := by rw [v46, if_neg (by omega), if_pos rfl]
  have d15 : V2 46 15 = U 62 75 - v := by rw [v46]; simp only [Nat.reduceEqDiff, reduceIte]
  have d8 : V2 46 8 = if (hd : Int) + 1 < U0 62 13 then V 46 8 else 1 := by rw [v46]; simp only [Nat.reduceEqDiff, reduceIte]
  obtain ⟨j1, j2, j3, j4, j5, j6, j7, j8, j9⟩ := jl
  have e95 : U 95 hd = V 46 13 := by rw [j3 hd hj, hhd, if_neg (by omega), if_pos rfl]
  have pre : ∀ i, preL V2 h U2 i = preL V h U i := fun i => by unfold preL; rw [v0 _ (by omega) (by omega) (by omega) (by omega), u0 100 (by omega) (by omega) (by omega) (by omega) (by omega) (by omega) (by omega)]
  have hb : sm (busy U2) (U0 62 22).toNat = sm (busy U) (U0 62 22).toNat := by unfold busy; rw [u0 86 (by omega) (by omega) (by omega) (by omega) (by omega) (by omega) (by omega)]
  have hp : ∀ j, sm (pend U2 j) (U0 62 22).toNat = sm (pend U j) (U0 62 22).toNat := fun j => by unfold pend; rw [u0 86 (by omega) (by omega) (by omega) (by omega) (by omega) (by omega) (by omega), u0 90 (by omega) (by omega) (by omega) (by omega) (by omega) (by omega) (by omega), u0 99 (by omega) (by omega) (by omega) (by omega) (by omega) (by omega) (by omega), u0 100 (by omega) (by omega) (by omega) (by omega) (by omega) (by omega) (by omega)]
  -- nothing is held and nothing is under way for a job that is laid
  have held : U 62 75 = v := by
    obtain ⟨z1, z2, z3⟩ := jo.2.2 hd hj
    rw [if_pos (by omega)] at z2
    have pn := sm_nn (f := pend U hd) (n := (U0 62 22).toNat) (fun k hk => by
      unfold pend
      split
      · next y =>
        have := rt.2.1 k (by omega) y.1
        have := (la.2.2 (U 90 k).toNat (by omega)).2.2.1
        omega
      · omega)
    omega
  refine ⟨⟨⟨cf, mf, hh⟩, rt.frame (fun i a b => v0 i (by omega) (by omega) (by omega) (by omega)) (fun i a => u0 i (by omega) (by omega) (by omega) (by omega) (by omega) (by omega) (by omega)) (c 63 (by omega) (by omega) (by omega) (by omega) (by omega)) (c 72 (by omega) (by omega) (by omega) (by omega) (by omega)), ⟨?_, ?_, ?_, ?_⟩, ⟨?_, ?_, ?_⟩, by rw [c 63 (by omega) (by omega) (by omega) (by omega) (by omega)]; exact l0, by rw [c 63 (by omega) (by omega) (by omega) (by omega) (by omega)]; exact l1.1, by unfold BGN; rw [c 72 (by omega) (by omega) (by omega) (by omega) (by omega), u0 104 (by omega) (by omega) (by omega) (by omega) (by omega) (by omega) (by omega), u0 107 (by omega) (by omega) (by omega) (by omega) (by omega) (by omega) (by omega)]; exact l1.2⟩, held⟩
  · unfold gLA
    rw [v0 28 (by omega) (by omega) (by omega) (by omega), v0 h.1 (by omega) (by omega) (by omega) (by omega), c 72 (by omega) (by omega) (by omega) (by omega) (by omega), u0 99 (by omega) (by omega) (by omega) (by omega) (by omega) (by omega) (by omega), u0 100 (by omega) (by omega) (by omega) (by omega) (by omega) (by omega) (by omega), u0 104 (by omega) (by omega) (by omega) (by omega) (by omega) (by omega) (by omega)]
    refine ⟨la.1, la.2.1, fun l hl => ⟨fun f hf => ?_, (la.2.2 l hl).2⟩⟩
    rw [u0 _ (by omega) (by omega) (by omega) (by omega) (by omega) (by omega) (by omega)]
    exact (la.2.2 l hl).1 f hf
  · obtain ⟨o1, o2, o3, o4, o5, o6, o7⟩ := lo
    unfold gLO
    rw [v0 28 (by omega) (by omega) (by omega) (by omega), v0 h.2.1 (by omega) (by omega) (by omega) (by omega), c 72 (by omega) (by omega) (by omega) (by omega) (by omega), c 79 (by omega) (by omega) (by omega) (by omega) (by omega), hb, u0 108 (by omega) (by omega) (by omega) (by omega) (by omega) (by omega) (by omega), pre, c73, c75]
    exact ⟨o1, o2, o3, fun i hi => by rw [pre]; exact o4 i hi, o5, by omega, by omega⟩
  · obtain ⟨o1, o2, o3⟩ := jo
    unfold gJO
    rw [v0 37 (by omega) (by omega) (by omega) (by omega), v0 45 (by omega) (by omega) (by omega) (by omega), u0 94 (by omega) (by omega) (by omega) (by omega) (by omega) (by omega) (by omega), c74, c75]
    refine ⟨o1, o2, fun j hj' => ?_⟩
    obtain ⟨z1, z2, z3⟩ := o3 j hj'
    rw [hp, u95]
    refine ⟨z1, ?_, z3⟩
    by_cases e : j = hd
    · subst e
      rw [if_pos rfl, if_neg (by omega)]
      rw [if_pos (by omega)] at z2
      omega
    · rw [if_neg e]
      rw [if_neg (by omega)] at z2
      rw [z2]
      split <;> omega
  · unfold gJL
    rw [d12, d13, d15, d8, c74, c75]
    refine ⟨rfl, by omega, fun j hj' => ?_, by omega, fun z => ?_, rfl, by omega, fun z => ⟨by omega, rfl⟩, ?_⟩
    · rw [u95]
      by_cases e : j = hd
      · subst e
        rw [if_pos rfl, if_pos (by omega)]; omega
      · rw [if_neg e, j3 j hj']
        by_cases e2 : (j : Int) < U 62 74
        · rw [if_pos e2, if_pos (by omega)]
        · rw [if_neg e2, if_neg (by omega), if_neg (by omega)]
          split <;> rfl
    · have := hton (hd + 1) (by omega)
      rw [show ((hd : Int) + 1).toNat = hd + 1 by omega]; omega
    · by_cases e : (hd : Int) + 1 < U0 62 13
      · rw [if_pos e, if_neg (by omega), j9, if_neg (by omega)]
      · rw [if_neg e, if_pos (by omega)]
  · obtain ⟨s1, s2, s3, s4, s5, s6, s7, s8, s9⟩ := su
    have ht1 := hton hd hj
    unfold gSU
    rw [v47, v47, v47, v47, v47, d13, c73, c74, c77, c78, c 76 (by omega) (by omega) (by omega) (by omega) (by omega), c 79 (by omega) (by omega) (by omega) (by omega) (by omega), c 80 (by omega) (by omega) (by omega) (by omega) (by omega), u97]
    simp only [Nat.reduceEqDiff, reduceIte]
    refine ⟨s1, s2, ?_, ?_, s5, s6, s7, by omega, fun z => ⟨by rw [if_neg (by omega)], by rw [if_pos (by omega)]⟩⟩
    · rw [s3]
      by_cases e : U 62 78 = -1
      · rw [if_pos e, if_pos (by omega)]
      · rw [if_neg e, if_neg (by omega)]
    · split <;> omega
  · obtain ⟨a1, a2, a3⟩ := ca
    have a3' := a3 (Or.inr (by omega))
    unfold gCA
    rw [d13, d12.symm.trans d12 |> fun _ => c74, c75]
    rw [hhd, Int.toNat_natCast] at a2 a3'
    have k48 : (if V 46 13 = 0 then t else V 48 hd) = (if U 95 hd = 0 then t else U 96 hd) ∧ (if U 95 hd = 0 then t else U 96 hd) ≤ t ∧ (1 ≤ (hd : Int) → U 97 ((hd : Int) - 1).toNat ≤ if U 95 hd = 0 then t else U 96 hd) := by
      rw [e95]
      by_cases e : V 46 13 = 0
      · rw [if_pos e, if_pos e]
        refine ⟨rfl, by omega, fun h1 => ?_⟩
        have := (a1 (hd - 1) (by omega)).2.1
        rw [show ((hd : Int) - 1).toNat = hd - 1 by omega]
        exact this.2
      · rw [if_neg e, if_neg e]
        exact a2 e
    refine ⟨fun j hj' => ?_, fun z => absurd rfl z, fun z => by omega⟩
    rw [v32, u97, v33, v48, u96, u97, u0 98 (by omega) (by omega) (by omega) (by omega) (by omega) (by omega) (by omega)]
    by_cases e : j = hd
    · subst e
      simp only [reduceIte]
      refine ⟨trivial, by omega, a3'.1, a3'.2, k48.1, fun h1 => ?_⟩
      rw [if_neg (by omega)]
      have := k48.2.2 (by omega)
      rw [show ((j : Int) - 1).toNat = j - 1 by omega] at this
      exact ⟨this, k48.2.1⟩
    · rw [if_neg e, if_neg e, if_neg e, if_neg e, if_neg e, if_neg (by omega)]
      exact a1 j (by omega)
  · intro j hj'
    rw [c74] at hj'
    rw [u0 98 (by omega) (by omega) (by omega) (by omega) (by omega) (by omega) (by omega)]
    refine ⟨vk j (by omega), fun i hi => ?_⟩
    by_cases e : j = hd
    · subst e; exact u109b i hi
    · rw [u109 _ (by omega)]
      exact (ka j (by omega)).2 i hi
