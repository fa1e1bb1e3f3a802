/-! shallow functions of the program (printed by wip/tools/gen20.py) -/
def f_Rate_held (V : VV) (v0 : Int) : Int := max (-1000000000) (min 1000000000 v0)
set_option maxRecDepth 20000 in
set_option maxHeartbeats 4000000 in
theorem s_Rate_held {X : Xs} {d : Nat} {V : VV} {h : HP} {v0 : Int} {q : Int} (hf : f_Rate_held V v0 = q) : Ok X (d + 2) 85 0 ([some (.inr (.inl v0)), none], [], mm V h) (fun M r => M = mm V h ∧ r = some (.inr (.inl q))) := by
  let QQ : Mm → Option AV → Prop := fun M r => M = mm V h ∧ r = some (.inr (.inl q))
  show Ok X (d + 2) 85 0 ([some (.inr (.inl v0)), none], [], mm V h) QQ
  refine ok_lmin (u := 1000000000) (v := v0) (L := [some (.inr (.inl v0)), none]) (S := [.inr (.inl (-1000000000))]) (M := mm V h) rfl rfl rfl (Nat.le_of_ble_eq_true rfl) ?_
  refine ok_lmax (u := (-1000000000)) (v := min 1000000000 v0) (L := [some (.inr (.inl v0)), none]) (S := []) (M := mm V h) rfl rfl rfl (Nat.le_of_ble_eq_true rfl) ?_
  have hq : (max (-1000000000) (min 1000000000 v0)) = q := hf
  subst hq
  refine ok_lreturn (L := [some (.inr (.inl v0)), none]) (M := mm V h) (x := max (-1000000000) (min 1000000000 v0)) rfl rfl ?_
  exact ⟨rfl, rfl⟩
def f_Tape_copyFrom_1 : Nat → VV → Int → (Option (VV))
  | 0, _, _ => none
  | n + 1, V, v2 => if v2 < (V 16 1) then lt_ (setV V 27 100 v2 (atV V 17 400 v2)) (fun q3 => f_Tape_copyFrom_1 n q3 (w32 (v2 + 1))) else some (up V 26 1 (V 16 1))
set_option maxRecDepth 20000 in
set_option maxHeartbeats 4000000 in
theorem s_Tape_copyFrom_1_n {X : Xs} {d : Nat} {h : HP} {q : VV} : ∀ (n : Nat) (V : VV) (v2 : Int), f_Tape_copyFrom_1 n V v2 = some q → Ok X (d + 2) 86 1 ([some (.inr (.inr (.inl 27))), some (.inr (.inr (.inl 17))), some (.inl v2)], [], mm V h) (fun M r => M = mm q h ∧ r = none) := by
  intro n
  induction n with
  | zero => intro V v2 hf; cases hf
  | succ n ih =>
    intro V v2 hf
    let QQ : Mm → Option AV → Prop := fun M r => M = mm q h ∧ r = none
    show Ok X (d + 2) 86 1 ([some (.inr (.inr (.inl 27))), some (.inr (.inr (.inl 17))), some (.inl v2)], [], mm V h) QQ
    refine ok_ic_ge (x := v2) (u := V 16 1) (L := [some (.inr (.inr (.inl 27))), some (.inr (.inr (.inl 17))), some (.inl v2)]) (S := []) (M := mm V h) rfl rfl (fun c1 => ?_) (fun c1 => ?_)
    ·
      replace hf := (if_neg (Int.not_lt.mpr c1)).symm.trans hf
      obtain rfl := Option.some.inj hf
      refine ok_return (L := [some (.inr (.inr (.inl 27))), some (.inr (.inr (.inl 17))), some (.inl v2)]) (M := mm (up V 26 1 (V 16 1)) h) rfl rfl ?_
      exact ⟨rfl, rfl⟩
    ·
      replace hf := (if_pos c1).symm.trans hf
      refine ok_callA (L := [some (.inr (.inr (.inl 27))), some (.inr (.inr (.inl 17))), some (.inl v2)]) (M := mm V h) (args := [.inr (.inr (.inl 18)), .inl v2]) (rest := [.inl v2, .inr (.inr (.inl 28))]) (y2 := 21) rfl rfl rfl (Or.inr (Or.inl rfl)) rfl rfl (Nat.le_of_ble_eq_true rfl) rfl rfl (Nat.le_of_ble_eq_true rfl) (Nat.le_of_ble_eq_true rfl) (w_at rfl rfl) ?_
      rintro _ _ ⟨rfl, rfl⟩
      obtain ⟨q3, e3, hf⟩ := lt_x hf
      refine ok_callA (L := [some (.inr (.inr (.inl 27))), some (.inr (.inr (.inl 17))), some (.inl v2)]) (M := mm V h) (args := [.inr (.inr (.inl 28)), .inl v2, .inl (atV V 17 400 v2)]) (rest := []) (y2 := 9) rfl rfl rfl (Or.inr (Or.inl rfl)) rfl rfl (Nat.le_of_ble_eq_true rfl) rfl rfl (Nat.le_of_ble_eq_true rfl) (Nat.le_of_ble_eq_true rfl) (w_set rfl e3) ?_
      rintro _ _ ⟨rfl, rfl⟩
      refine ok_goto (L := [some (.inr (.inr (.inl 27))), some (.inr (.inr (.inl 17))), some (.inl (w32 (v2 + 1)))]) (S := []) (M := mm q3 h) rfl rfl ?_
      exact ih q3 (w32 (v2 + 1)) hf
theorem s_Tape_copyFrom_1 {X : Xs} {d : Nat} {h : HP} {V : VV} {v2 : Int} {n : Nat} {q : VV} (hf : f_Tape_copyFrom_1 n V v2 = some q) : Ok X (d + 2) 86 1 ([some (.inr (.inr (.inl 27))), some (.inr (.inr (.inl 17))), some (.inl v2)], [], mm V h) (fun M r => M = mm q h ∧ r = none) :=
  s_Tape_copyFrom_1_n n V v2 hf
def f_Tape_copyFrom (V : VV)  : Option (VV) := f_Tape_copyFrom_1 FU V 0
set_option maxRecDepth 20000 in
set_option maxHeartbeats 4000000 in
theorem s_Tape_copyFrom {X : Xs} {d : Nat} {V : VV} {h : HP} {q : VV} (hf : f_Tape_copyFrom V = some q) : Ok X (d + 2) 86 0 ([some (.inr (.inr (.inl 27))), some (.inr (.inr (.inl 17))), none], [], mm V h) (fun M r => M = mm q h ∧ r = none) := by
  let QQ : Mm → Option AV → Prop := fun M r => M = mm q h ∧ r = none
  show Ok X (d + 2) 86 0 ([some (.inr (.inr (.inl 27))), some (.inr (.inr (.inl 17))), none], [], mm V h) QQ
  refine ok_thru (L := [some (.inr (.inr (.inl 27))), some (.inr (.inr (.inl 17))), some (.inl 0)]) (S := []) (M := mm V h) rfl rfl ?_
  exact s_Tape_copyFrom_1 hf
def f_Br_fault (V : VV) (v1 : Int) : Int := if v1 = 0 then V 0 16 else if v1 = 1 then V 0 17 else (-1)
set_option maxRecDepth 20000 in
set_option maxHeartbeats 4000000 in
theorem s_Br_fault {X : Xs} {d : Nat} {V : VV} {h : HP} {v1 : Int} {q : Int} (hf : f_Br_fault V v1 = q) : Ok X (d + 1) 87 0 ([some (.inr (.inr (.inl 1))), some (.inl v1)], [], mm V h) (fun M r => M = mm V h ∧ r = some (.inl q)) := by
  let QQ : Mm → Option AV → Prop := fun M r => M = mm V h ∧ r = some (.inl q)
  show Ok X (d + 1) 87 0 ([some (.inr (.inr (.inl 1))), some (.inl v1)], [], mm V h) QQ
  by_cases c1 : v1 = 0
  ·
    replace hf := (if_pos c1).symm.trans hf
    refine ok_lsw (x := v1) (b1 := 1) (L := [some (.inr (.inr (.inl 1))), some (.inl v1)]) (S := []) (M := mm V h) rfl rfl (by rw [c1]; rfl) ?_
    have hq : (V 0 16) = q := hf
    subst hq
    refine ok_ireturn (L := [some (.inr (.inr (.inl 1))), some (.inl v1)]) (M := mm V h) (x := V 0 16) rfl rfl ?_
    exact ⟨rfl, rfl⟩
  replace hf := (if_neg c1).symm.trans hf
  by_cases c2 : v1 = 1
  ·
    replace hf := (if_pos c2).symm.trans hf
    refine ok_lsw (x := v1) (b1 := 2) (L := [some (.inr (.inr (.inl 1))), some (.inl v1)]) (S := []) (M := mm V h) rfl rfl (by rw [c2]; rfl) ?_
    have hq : (V 0 17) = q := hf
    subst hq
    refine ok_ireturn (L := [some (.inr (.inr (.inl 1))), some (.inl v1)]) (M := mm V h) (x := V 0 17) rfl rfl ?_
    exact ⟨rfl, rfl⟩
  replace hf := (if_neg c2).symm.trans hf
  refine ok_lsw (x := v1) (b1 := 3) (L := [some (.inr (.inr (.inl 1))), some (.inl v1)]) (S := []) (M := mm V h) rfl rfl (by simp only [luk]; simp [c1, c2]) ?_
  have hq : ((-1)) = q := hf
  subst hq
  refine ok_ireturn (L := [some (.inr (.inr (.inl 1))), some (.inl v1)]) (M := mm V h) (x := (-1)) rfl rfl ?_
  exact ⟨rfl, rfl⟩
def f_Hours_isOpen (V : VV) (v1 : Int) (v2 : Int) : Int := (if (iandI (atV V 24 12960 (w32 ((w32 (v1 * 4320)) + v2))) 1) = 0 then 0 else 1 : Int)
set_option maxRecDepth 20000 in
set_option maxHeartbeats 4000000 in
theorem s_Hours_isOpen {X : Xs} {d : Nat} {V : VV} {h : HP} {v1 : Int} {v2 : Int} {q : Int} (hf : f_Hours_isOpen V v1 v2 = q) : Ok X (d + 2) 89 0 ([some (.inr (.inr (.inl 19))), some (.inl v1), some (.inl v2)], [], mm V h) (fun M r => M = mm V h ∧ r = some (.inl q) ∧ (q = 0 ∨ q = 1)) := by
  let QQ : Mm → Option AV → Prop := fun M r => M = mm V h ∧ r = some (.inl q) ∧ (q = 0 ∨ q = 1)
  show Ok X (d + 2) 89 0 ([some (.inr (.inr (.inl 19))), some (.inl v1), some (.inl v2)], [], mm V h) QQ
  refine ok_callA (L := [some (.inr (.inr (.inl 19))), some (.inl v1), some (.inl v2)]) (M := mm V h) (args := [.inr (.inr (.inl 25)), .inl (w32 ((w32 (v1 * 4320)) + v2))]) (rest := []) (y2 := 21) rfl rfl rfl (Or.inr (Or.inl rfl)) rfl rfl (Nat.le_of_ble_eq_true rfl) rfl rfl (Nat.le_of_ble_eq_true rfl) (Nat.le_of_ble_eq_true rfl) (w_at rfl rfl) ?_
  rintro _ _ ⟨rfl, rfl⟩
  have JN2 : Ok X (d + 2) 89 4 ([some (.inr (.inr (.inl 19))), some (.inl v1), some (.inl v2)], [.inl (if (iandI (atV V 24 12960 (w32 ((w32 (v1 * 4320)) + v2))) 1) = 0 then 0 else 1 : Int)], mm V h) QQ := by
    have hq : ((if (iandI (atV V 24 12960 (w32 ((w32 (v1 * 4320)) + v2))) 1) = 0 then 0 else 1 : Int)) = q := hf
    subst hq
    have hz : ((if (iandI (atV V 24 12960 (w32 ((w32 (v1 * 4320)) + v2))) 1) = 0 then 0 else 1 : Int) : Int) = 0 ∨ ((if (iandI (atV V 24 12960 (w32 ((w32 (v1 * 4320)) + v2))) 1) = 0 then 0 else 1 : Int) : Int) = 1 := by
      first | exact Or.inl rfl | exact Or.inr rfl | assumption | (repeat' split) <;> first | exact Or.inl rfl | exact Or.inr rfl | assumption
    refine ok_zreturn (L := [some (.inr (.inr (.inl 19))), some (.inl v1), some (.inl v2)]) (M := mm V h) (x := (if (iandI (atV V 24 12960 (w32 ((w32 (v1 * 4320)) + v2))) 1) = 0 then 0 else 1 : Int)) rfl rfl hz ?_
    exact ⟨rfl, rfl, hz⟩
  clear hf
  refine ok_if_eq (x := iandI (atV V 24 12960 (w32 ((w32 (v1 * 4320)) + v2))) 1) (L := [some (.inr (.inr (.inl 19))), some (.inl v1), some (.inl v2)]) (S := []) (M := mm V h) rfl rfl (fun c3 => ?_) (fun c3 => ?_)
  ·
    simp only [if_pos c3] at JN2
    refine ok_thru (L := [some (.inr (.inr (.inl 19))), some (.inl v1), some (.inl v2)]) (S := [.inl 0]) (M := mm V h) rfl rfl ?_
    first | exact JN2 | (simp only [if_pos c3]; exact JN2)
  ·
    simp only [if_neg c3] at JN2
    refine ok_goto (L := [some (.inr (.inr (.inl 19))), some (.inl v1), some (.inl v2)]) (S := [.inl 1]) (M := mm V h) rfl rfl ?_
    first | exact JN2 | (simp only [if_neg c3]; exact JN2)
def f_Hours_haul_1 : Nat → VV → Int → Int → Int → Int → Int → Int → (Option (Int))
  | 0, _, _, _, _, _, _, _ => none
  | n + 1, V, v1, v2, v3, v4, v5, v6 => if v6 < (V 18 6) then f_Hours_haul_1 n V v1 v2 v3 (if (atV V 19 40 v6) = 1 then (if (atV V 21 40 v6) = v2 then (if (f_Hours_holds V v6 v1) = 0 then v4 else (if v3 < (atV V 22 40 v6) then v4 else (if (atV V 22 40 v6) < v5 then v4 else atV V 23 40 v6 : Int) : Int) : Int) else v4 : Int) else v4 : Int) (if (atV V 19 40 v6) = 1 then (if (atV V 21 40 v6) = v2 then (if (f_Hours_holds V v6 v1) = 0 then v5 else (if v3 < (atV V 22 40 v6) then v5 else (if (atV V 22 40 v6) < v5 then v5 else atV V 22 40 v6 : Int) : Int) : Int) else v5 : Int) else v5 : Int) (w32 (v6 + 1)) else some v4
set_option maxRecDepth 20000 in
set_option maxHeartbeats 4000000 in
theorem s_Hours_haul_1_n {X : Xs} {d : Nat} {V : VV} {h : HP} {q : Int} : ∀ (n : Nat) (v1 : Int) (v2 : Int) (v3 : Int) (v4 : Int) (v5 : Int) (v6 : Int) (z7 : Option AV), f_Hours_haul_1 n V v1 v2 v3 v4 v5 v6 = some q → Ok X (d + 3) 90 1 ([some (.inr (.inr (.inl 19))), some (.inl v1), some (.inl v2), some (.inl v3), some (.inl v4), some (.inl v5), some (.inl v6), z7], [], mm V h) (fun M r => M = mm V h ∧ r = some (.inl q)) := by
  intro n
  induction n with
  | zero => intro v1 v2 v3 v4 v5 v6 z7 hf; cases hf
  | succ n ih =>
    intro v1 v2 v3 v4 v5 v6 z7 hf
    let QQ : Mm → Option AV → Prop := fun M r => M = mm V h ∧ r = some (.inl q)
    show Ok X (d + 3) 90 1 ([some (.inr (.inr (.inl 19))), some (.inl v1), some (.inl v2), some (.inl v3), some (.inl v4), some (.inl v5), some (.inl v6), z7], [], mm V h) QQ
    refine ok_ic_ge (x := v6) (u := V 18 6) (L := [some (.inr (.inr (.inl 19))), some (.inl v1), some (.inl v2), some (.inl v3), some (.inl v4), some (.inl v5), some (.inl v6), z7]) (S := []) (M := mm V h) rfl rfl (fun c1 => ?_) (fun c1 => ?_)
    ·
      replace hf := (if_neg (Int.not_lt.mpr c1)).symm.trans hf
      obtain rfl := Option.some.inj hf
      refine ok_ireturn (L := [some (.inr (.inr (.inl 19))), some (.inl v1), some (.inl v2), some (.inl v3), some (.inl v4), some (.inl v5), some (.inl v6), z7]) (M := mm V h) (x := v4) rfl rfl ?_
      exact ⟨rfl, rfl⟩
    ·
      replace hf := (if_pos c1).symm.trans hf
      refine ok_callA (L := [some (.inr (.inr (.inl 19))), some (.inl v1), some (.inl v2), some (.inl v3), some (.inl v4), some (.inl v5), some (.inl v6), z7]) (M := mm V h) (args := [.inr (.inr (.inl 23)), .inl v6]) (rest := []) (y2 := 21) rfl rfl rfl (Or.inr (Or.inl rfl)) rfl rfl (Nat.le_of_ble_eq_true rfl) rfl rfl (Nat.le_of_ble_eq_true rfl) (Nat.le_of_ble_eq_true rfl) (w_at rfl rfl) ?_
      rintro _ _ ⟨rfl, rfl⟩
      refine ok_callA (L := [some (.inr (.inr (.inl 19))), some (.inl v1), some (.inl v2), some (.inl v3), some (.inl v4), some (.inl v5), some (.inl v6), some (.inl (atV V 22 40 v6))]) (M := mm V h) (args := [.inr (.inr (.inl 20)), .inl v6]) (rest := []) (y2 := 21) rfl rfl rfl (Or.inr (Or.inl rfl)) rfl rfl (Nat.le_of_ble_eq_true rfl) rfl rfl (Nat.le_of_ble_eq_true rfl) (Nat.le_of_ble_eq_true rfl) (w_at rfl rfl) ?_
      rintro _ _ ⟨rfl, rfl⟩
      have JN4 : Ok X (d + 3) 90 13 ([some (.inr (.inr (.inl 19))), some (.inl v1), some (.inl v2), some (.inl v3), some (.inl (if (atV V 19 40 v6) = 1 then (if (atV V 21 40 v6) = v2 then (if (f_Hours_holds V v6 v1) = 0 then v4 else (if v3 < (atV V 22 40 v6) then v4 else (if (atV V 22 40 v6) < v5 then v4 else atV V 23 40 v6 : Int) : Int) : Int) else v4 : Int) else v4 : Int)), some (.inl (if (atV V 19 40 v6) = 1 then (if (atV V 21 40 v6) = v2 then (if (f_Hours_holds V v6 v1) = 0 then v5 else (if v3 < (atV V 22 40 v6) then v5 else (if (atV V 22 40 v6) < v5 then v5 else atV V 22 40 v6 : Int) : Int) : Int) else v5 : Int) else v5 : Int)), some (.inl v6), some (.inl (atV V 22 40 v6))], [], mm V h) QQ := by
        refine ok_goto (L := [some (.inr (.inr (.inl 19))), some (.inl v1), some (.inl v2), some (.inl v3), some (.inl (if (atV V 19 40 v6) = 1 then (if (atV V 21 40 v6) = v2 then (if (f_Hours_holds V v6 v1) = 0 then v4 else (if v3 < (atV V 22 40 v6) then v4 else (if (atV V 22 40 v6) < v5 then v4 else atV V 23 40 v6 : Int) : Int) : Int) else v4 : Int) else v4 : Int)), some (.inl (if (atV V 19 40 v6) = 1 then (if (atV V 21 40 v6) = v2 then (if (f_Hours_holds V v6 v1) = 0 then v5 else (if v3 < (atV V 22 40 v6) then v5 else (if (atV V 22 40 v6) < v5 then v5 else atV V 22 40 v6 : Int) : Int) : Int) else v5 : Int) else v5 : Int)), some (.inl (w32 (v6 + 1))), some (.inl (atV V 22 40 v6))]) (S := []) (M := mm V h) rfl rfl ?_
        exact ih v1 v2 v3 (if (atV V 19 40 v6) = 1 then (if (atV V 21 40 v6) = v2 then (if (f_Hours_holds V v6 v1) = 0 then v4 else (if v3 < (atV V 22 40 v6) then v4 else (if (atV V 22 40 v6) < v5 then v4 else atV V 23 40 v6 : Int) : Int) : Int) else v4 : Int) else v4 : Int) (if (atV V 19 40 v6) = 1 then (if (atV V 21 40 v6) = v2 then (if (f_Hours_holds V v6 v1) = 0 then v5 else (if v3 < (atV V 22 40 v6) then v5 else (if (atV V 22 40 v6) < v5 then v5 else atV V 22 40 v6 : Int) : Int) : Int) else v5 : Int) else v5 : Int) (w32 (v6 + 1)) (some (.inl (atV V 22 40 v6))) hf
      clear hf
      refine ok_ic_ne (x := atV V 19 40 v6) (u := 1) (L := [some (.inr (.inr (.inl 19))), some (.inl v1), some (.inl v2), some (.inl v3), some (.inl v4), some (.inl v5), some (.inl v6), some (.inl (atV V 22 40 v6))]) (S := []) (M := mm V h) rfl rfl (fun c5 => ?_) (fun c5 => ?_)
      ·
        simp only [if_neg c5] at JN4
        first | exact JN4 | (simp only [if_neg c5]; exact JN4)
      ·
        simp only [if_pos c5] at JN4
        refine ok_callA (L := [some (.inr (.inr (.inl 19))), some (.inl v1), some (.inl v2), some (.inl v3), some (.inl v4), some (.inl v5), some (.inl v6), some (.inl (atV V 22 40 v6))]) (M := mm V h) (args := [.inr (.inr (.inl 22)), .inl v6]) (rest := []) (y2 := 21) rfl rfl rfl (Or.inr (Or.inl rfl)) rfl rfl (Nat.le_of_ble_eq_true rfl) rfl rfl (Nat.le_of_ble_eq_true rfl) (Nat.le_of_ble_eq_true rfl) (w_at rfl rfl) ?_
        rintro _ _ ⟨rfl, rfl⟩
        refine ok_ic_ne (x := atV V 21 40 v6) (u := v2) (L := [some (.inr (.inr (.inl 19))), some (.inl v1), some (.inl v2), some (.inl v3), some (.inl v4), some (.inl v5), some (.inl v6), some (.inl (atV V 22 40 v6))]) (S := []) (M := mm V h) rfl rfl (fun c7 => ?_) (fun c7 => ?_)
        ·
          simp only [if_neg c7] at JN4
          first | exact JN4 | (simp only [if_pos c5, if_neg c7]; exact JN4)
        ·
          simp only [if_pos c7] at JN4
          refine ok_callA (L := [some (.inr (.inr (.inl 19))), some (.inl v1), some (.inl v2), some (.inl v3), some (.inl v4), some (.inl v5), some (.inl v6), some (.inl (atV V 22 40 v6))]) (M := mm V h) (args := [.inr (.inr (.inl 19)), .inl v6, .inl v1]) (rest := []) (y2 := 73) rfl rfl rfl (Or.inl rfl) rfl rfl (Nat.le_of_ble_eq_true rfl) rfl rfl (Nat.le_of_ble_eq_true rfl) (Nat.le_of_ble_eq_true rfl) (s_Hours_holds rfl) ?_
          rintro _ _ ⟨rfl, rfl, hz8⟩
          refine ok_if_eq (x := f_Hours_holds V v6 v1) (L := [some (.inr (.inr (.inl 19))), some (.inl v1), some (.inl v2), some (.inl v3), some (.inl v4), some (.inl v5), some (.inl v6), some (.inl (atV V 22 40 v6))]) (S := []) (M := mm V h) rfl rfl (fun c9 => ?_) (fun c9 => ?_)
          ·
            simp only [if_pos c9] at JN4
            first | exact JN4 | (simp only [if_pos c5, if_pos c7, if_pos c9]; exact JN4)
          ·
            simp only [if_neg c9] at JN4
            refine ok_ic_gt (x := atV V 22 40 v6) (u := v3) (L := [some (.inr (.inr (.inl 19))), some (.inl v1), some (.inl v2), some (.inl v3), some (.inl v4), some (.inl v5), some (.inl v6), some (.inl (atV V 22 40 v6))]) (S := []) (M := mm V h) rfl rfl (fun c10 => ?_) (fun c10 => ?_)
            ·
              simp only [if_pos c10] at JN4
              first | exact JN4 | (simp only [if_pos c5, if_pos c7, if_neg c9, if_pos c10]; exact JN4)
            ·
              simp only [if_neg (Int.not_lt.mpr c10)] at JN4
              refine ok_ic_lt (x := atV V 22 40 v6) (u := v5) (L := [some (.inr (.inr (.inl 19))), some (.inl v1), some (.inl v2), some (.inl v3), some (.inl v4), some (.inl v5), some (.inl v6), some (.inl (atV V 22 40 v6))]) (S := []) (M := mm V h) rfl rfl (fun c11 => ?_) (fun c11 => ?_)
              ·
                simp only [if_pos c11] at JN4
                first | exact JN4 | (simp only [if_pos c5, if_pos c7, if_neg c9, if_neg (Int.not_lt.mpr c10), if_pos c11]; exact JN4)
              ·
                simp only [if_neg (Int.not_lt.mpr c11)] at JN4
                refine ok_callA (L := [some (.inr (.inr (.inl 19))), some (.inl v1), some (.inl v2), some (.inl v3), some (.inl v4), some (.inl (atV V 22 40 v6)), some (.inl v6), some (.inl (atV V 22 40 v6))]) (M := mm V h) (args := [.inr (.inr (.inl 24)), .inl v6]) (rest := []) (y2 := 21) rfl rfl rfl (Or.inr (Or.inl rfl)) rfl rfl (Nat.le_of_ble_eq_true rfl) rfl rfl (Nat.le_of_ble_eq_true rfl) (Nat.le_of_ble_eq_true rfl) (w_at rfl rfl) ?_
                rintro _ _ ⟨rfl, rfl⟩
                refine ok_thru (L := [some (.inr (.inr (.inl 19))), some (.inl v1), some (.inl v2), some (.inl v3), some (.inl (atV V 23 40 v6)), some (.inl (atV V 22 40 v6)), some (.inl v6), some (.inl (atV V 22 40 v6))]) (S := []) (M := mm V h) rfl rfl ?_
                first | exact JN4 | (simp only [if_pos c5, if_pos c7, if_neg c9, if_neg (Int.not_lt.mpr c10), if_neg (Int.not_lt.mpr c11)]; exact JN4)
theorem s_Hours_haul_1 {X : Xs} {d : Nat} {V : VV} {h : HP} {v1 : Int} {v2 : Int} {v3 : Int} {v4 : Int} {v5 : Int} {v6 : Int} {z7 : Option AV} {n : Nat} {q : Int} (hf : f_Hours_haul_1 n V v1 v2 v3 v4 v5 v6 = some q) : Ok X (d + 3) 90 1 ([some (.inr (.inr (.inl 19))), some (.inl v1), some (.inl v2), some (.inl v3), some (.inl v4), some (.inl v5), some (.inl v6), z7], [], mm V h) (fun M r => M = mm V h ∧ r = some (.inl q)) :=
  s_Hours_haul_1_n n v1 v2 v3 v4 v5 v6 z7 hf
def f_Hours_haul (V : VV) (v1 : Int) (v2 : Int) (v3 : Int) : Option (Int) := f_Hours_haul_1 FU V v1 v2 v3 20 (-1) 0
set_option maxRecDepth 20000 in
set_option maxHeartbeats 4000000 in
theorem s_Hours_haul {X : Xs} {d : Nat} {V : VV} {h : HP} {v1 : Int} {v2 : Int} {v3 : Int} {q : Int} (hf : f_Hours_haul V v1 v2 v3 = some q) : Ok X (d + 3) 90 0 ([some (.inr (.inr (.inl 19))), some (.inl v1), some (.inl v2), some (.inl v3), none, none, none, none], [], mm V h) (fun M r => M = mm V h ∧ r = some (.inl q)) := by
  let QQ : Mm → Option AV → Prop := fun M r => M = mm V h ∧ r = some (.inl q)
  show Ok X (d + 3) 90 0 ([some (.inr (.inr (.inl 19))), some (.inl v1), some (.inl v2), some (.inl v3), none, none, none, none], [], mm V h) QQ
  refine ok_thru (L := [some (.inr (.inr (.inl 19))), some (.inl v1), some (.inl v2), some (.inl v3), some (.inl 20), some (.inl (-1)), some (.inl 0), none]) (S := []) (M := mm V h) rfl rfl ?_
  exact s_Hours_haul_1 hf
def f_Hours_isShut (V : VV) (v1 : Int) (v2 : Int) (v3 : Int) : Int := (if (iandI (atV V 24 12960 (w32 ((w32 (v1 * 4320)) + v3))) (f_Hours_shutBit V v2)) = 0 then 0 else 1 : Int)
set_option maxRecDepth 20000 in
set_option maxHeartbeats 4000000 in
theorem s_Hours_isShut {X : Xs} {d : Nat} {V : VV} {h : HP} {v1 : Int} {v2 : Int} {v3 : Int} {q : Int} (hf : f_Hours_isShut V v1 v2 v3 = q) : Ok X (d + 2) 91 0 ([some (.inr (.inr (.inl 19))), some (.inl v1), some (.inl v2), some (.inl v3)], [], mm V h) (fun M r => M = mm V h ∧ r = some (.inl q) ∧ (q = 0 ∨ q = 1)) := by
  let QQ : Mm → Option AV → Prop := fun M r => M = mm V h ∧ r = some (.inl q) ∧ (q = 0 ∨ q = 1)
  show Ok X (d + 2) 91 0 ([some (.inr (.inr (.inl 19))), some (.inl v1), some (.inl v2), some (.inl v3)], [], mm V h) QQ
  refine ok_callA (L := [some (.inr (.inr (.inl 19))), some (.inl v1), some (.inl v2), some (.inl v3)]) (M := mm V h) (args := [.inr (.inr (.inl 25)), .inl (w32 ((w32 (v1 * 4320)) + v3))]) (rest := []) (y2 := 21) rfl rfl rfl (Or.inr (Or.inl rfl)) rfl rfl (Nat.le_of_ble_eq_true rfl) rfl rfl (Nat.le_of_ble_eq_true rfl) (Nat.le_of_ble_eq_true rfl) (w_at rfl rfl) ?_
  rintro _ _ ⟨rfl, rfl⟩
  refine ok_callA (L := [some (.inr (.inr (.inl 19))), some (.inl v1), some (.inl v2), some (.inl v3)]) (M := mm V h) (args := [.inl v2]) (rest := [.inl (atV V 24 12960 (w32 ((w32 (v1 * 4320)) + v3)))]) (y2 := 75) rfl rfl rfl (Or.inr (Or.inl rfl)) rfl rfl (Nat.le_of_ble_eq_true rfl) rfl rfl (Nat.le_of_ble_eq_true rfl) (Nat.le_of_ble_eq_true rfl) (s_Hours_shutBit rfl) ?_
  rintro _ _ ⟨rfl, rfl⟩
  have JN3 : Ok X (d + 2) 91 5 ([some (.inr (.inr (.inl 19))), some (.inl v1), some (.inl v2), some (.inl v3)], [.inl (if (iandI (atV V 24 12960 (w32 ((w32 (v1 * 4320)) + v3))) (f_Hours_shutBit V v2)) = 0 then 0 else 1 : Int)], mm V h) QQ := by
    have hq : ((if (iandI (atV V 24 12960 (w32 ((w32 (v1 * 4320)) + v3))) (f_Hours_shutBit V v2)) = 0 then 0 else 1 : Int)) = q := hf
    subst hq
    have hz : ((if (iandI (atV V 24 12960 (w32 ((w32 (v1 * 4320)) + v3))) (f_Hours_shutBit V v2)) = 0 then 0 else 1 : Int) : Int) = 0 ∨ ((if (iandI (atV V 24 12960 (w32 ((w32 (v1 * 4320)) + v3))) (f_Hours_shutBit V v2)) = 0 then 0 else 1 : Int) : Int) = 1 := by
      first | exact Or.inl rfl | exact Or.inr rfl | assumption | (repeat' split) <;> first | exact Or.inl rfl | exact Or.inr rfl | assumption
    refine ok_zreturn (L := [some (.inr (.inr (.inl 19))), some (.inl v1), some (.inl v2), some (.inl v3)]) (M := mm V h) (x := (if (iandI (atV V 24 12960 (w32 ((w32 (v1 * 4320)) + v3))) (f_Hours_shutBit V v2)) = 0 then 0 else 1 : Int)) rfl rfl hz ?_
    exact ⟨rfl, rfl, hz⟩
  clear hf
  refine ok_if_eq (x := iandI (atV V 24 12960 (w32 ((w32 (v1 * 4320)) + v3))) (f_Hours_shutBit V v2)) (L := [some (.inr (.inr (.inl 19))), some (.inl v1), some (.inl v2), some (.inl v3)]) (S := []) (M := mm V h) rfl rfl (fun c4 => ?_) (fun c4 => ?_)
  ·
    simp only [if_pos c4] at JN3
    refine ok_thru (L := [some (.inr (.inr (.inl 19))), some (.inl v1), some (.inl v2), some (.inl v3)]) (S := [.inl 0]) (M := mm V h) rfl rfl ?_
    first | exact JN3 | (simp only [if_pos c4]; exact JN3)
  ·
    simp only [if_neg c4] at JN3
    refine ok_goto (L := [some (.inr (.inr (.inl 19))), some (.inl v1), some (.inl v2), some (.inl v3)]) (S := [.inl 1]) (M := mm V h) rfl rfl ?_
    first | exact JN3 | (simp only [if_neg c4]; exact JN3)
def f_Br_world (V : VV) (v1 : Int) (v2 : Int) (v3 : Int) : Option (Int) := if (isFromV v1 0 (w32 ((V 18 7) - 1))) = 0 then some (-1) else if (isFromV v2 0 4319) = 0 then some (-1) else if v3 = 0 then some (if (f_Hours_isOpen V v1 v2) = 0 then 0 else 1 : Int) else if (isFromV v3 1 3) = 0 then if (isFromV v3 4 6) = 0 then some (-1) else some (if (f_Hours_isShut V v1 (w32 ((w32 (v3 - 1)) - 3)) v2) = 0 then 0 else 1 : Int) else Option.bind (f_Hours_haul V v1 (w32 (v3 - 1)) v2) (fun q13 => some q13)
set_option maxRecDepth 20000 in
set_option maxHeartbeats 4000000 in
theorem s_Br_world {X : Xs} {d : Nat} {V : VV} {h : HP} {v1 : Int} {v2 : Int} {v3 : Int} {q : Int} (hf : f_Br_world V v1 v2 v3 = some q) : Ok X (d + 4) 88 0 ([some (.inr (.inr (.inl 1))), some (.inl v1), some (.inl v2), some (.inl v3)], [], mm V h) (fun M r => M = mm V h ∧ r = some (.inl q)) := by
  let QQ : Mm → Option AV → Prop := fun M r => M = mm V h ∧ r = some (.inl q)
  show Ok X (d + 4) 88 0 ([some (.inr (.inr (.inl 1))), some (.inl v1), some (.inl v2), some (.inl v3)], [], mm V h) QQ
  refine ok_callA (L := [some (.inr (.inr (.inl 1))), some (.inl v1), some (.inl v2), some (.inl v3)]) (M := mm V h) (args := [.inl v1, .inl 0, .inl (w32 ((V 18 7) - 1))]) (rest := []) (y2 := 16) rfl rfl rfl (Or.inr (Or.inl rfl)) rfl rfl (Nat.le_of_ble_eq_true rfl) rfl rfl (Nat.le_of_ble_eq_true rfl) (Nat.le_of_ble_eq_true rfl) (w_isFrom rfl) ?_
  rintro _ _ ⟨rfl, rfl, hz1⟩
  refine ok_if_eq (x := isFromV v1 0 (w32 ((V 18 7) - 1))) (L := [some (.inr (.inr (.inl 1))), some (.inl v1), some (.inl v2), some (.inl v3)]) (S := []) (M := mm V h) rfl rfl (fun c2 => ?_) (fun c2 => ?_)
  ·
    replace hf := (if_pos c2).symm.trans hf
    obtain rfl := Option.some.inj hf
    refine ok_ireturn (L := [some (.inr (.inr (.inl 1))), some (.inl v1), some (.inl v2), some (.inl v3)]) (M := mm V h) (x := (-1)) rfl rfl ?_
    exact ⟨rfl, rfl⟩
  ·
    replace hf := (if_neg c2).symm.trans hf
    refine ok_callA (L := [some (.inr (.inr (.inl 1))), some (.inl v1), some (.inl v2), some (.inl v3)]) (M := mm V h) (args := [.inl v2, .inl 0, .inl 4319]) (rest := []) (y2 := 16) rfl rfl rfl (Or.inr (Or.inl rfl)) rfl rfl (Nat.le_of_ble_eq_true rfl) rfl rfl (Nat.le_of_ble_eq_true rfl) (Nat.le_of_ble_eq_true rfl) (w_isFrom rfl) ?_
    rintro _ _ ⟨rfl, rfl, hz3⟩
    refine ok_if_ne (x := isFromV v2 0 4319) (L := [some (.inr (.inr (.inl 1))), some (.inl v1), some (.inl v2), some (.inl v3)]) (S := []) (M := mm V h) rfl rfl (fun c4 => ?_) (fun c4 => ?_)
    ·
      replace hf := (if_neg c4).symm.trans hf
      refine ok_if_ne (x := v3) (L := [some (.inr (.inr (.inl 1))), some (.inl v1), some (.inl v2), some (.inl v3)]) (S := []) (M := mm V h) rfl rfl (fun c5 => ?_) (fun c5 => ?_)
      ·
        replace hf := (if_neg c5).symm.trans hf
        refine ok_callA (L := [some (.inr (.inr (.inl 1))), some (.inl v1), some (.inl v2), some (.inl v3)]) (M := mm V h) (args := [.inl v3, .inl 1, .inl 3]) (rest := []) (y2 := 16) rfl rfl rfl (Or.inr (Or.inl rfl)) rfl rfl (Nat.le_of_ble_eq_true rfl) rfl rfl (Nat.le_of_ble_eq_true rfl) (Nat.le_of_ble_eq_true rfl) (w_isFrom rfl) ?_
        rintro _ _ ⟨rfl, rfl, hz6⟩
        refine ok_if_eq (x := isFromV v3 1 3) (L := [some (.inr (.inr (.inl 1))), some (.inl v1), some (.inl v2), some (.inl v3)]) (S := []) (M := mm V h) rfl rfl (fun c7 => ?_) (fun c7 => ?_)
        ·
          replace hf := (if_pos c7).symm.trans hf
          refine ok_callA (L := [some (.inr (.inr (.inl 1))), some (.inl v1), some (.inl v2), some (.inl v3)]) (M := mm V h) (args := [.inl v3, .inl 4, .inl 6]) (rest := []) (y2 := 16) rfl rfl rfl (Or.inr (Or.inl rfl)) rfl rfl (Nat.le_of_ble_eq_true rfl) rfl rfl (Nat.le_of_ble_eq_true rfl) (Nat.le_of_ble_eq_true rfl) (w_isFrom rfl) ?_
          rintro _ _ ⟨rfl, rfl, hz8⟩
          refine ok_if_eq (x := isFromV v3 4 6) (L := [some (.inr (.inr (.inl 1))), some (.inl v1), some (.inl v2), some (.inl v3)]) (S := []) (M := mm V h) rfl rfl (fun c9 => ?_) (fun c9 => ?_)
          ·
            replace hf := (if_pos c9).symm.trans hf
            obtain rfl := Option.some.inj hf
            refine ok_ireturn (L := [some (.inr (.inr (.inl 1))), some (.inl v1), some (.inl v2), some (.inl v3)]) (M := mm V h) (x := (-1)) rfl rfl ?_
            exact ⟨rfl, rfl⟩
          ·
            replace hf := (if_neg c9).symm.trans hf
            refine ok_callA (L := [some (.inr (.inr (.inl 1))), some (.inl v1), some (.inl v2), some (.inl v3)]) (M := mm V h) (args := [.inr (.inr (.inl 19)), .inl v1, .inl (w32 ((w32 (v3 - 1)) - 3)), .inl v2]) (rest := []) (y2 := 91) rfl rfl rfl (Or.inl rfl) rfl rfl (Nat.le_of_ble_eq_true rfl) rfl rfl (Nat.le_of_ble_eq_true rfl) (Nat.le_of_ble_eq_true rfl) (s_Hours_isShut rfl) ?_
            rintro _ _ ⟨rfl, rfl, hz10⟩
            have JN11 : Ok X (d + 4) 88 21 ([some (.inr (.inr (.inl 1))), some (.inl v1), some (.inl v2), some (.inl v3)], [.inl (if (f_Hours_isShut V v1 (w32 ((w32 (v3 - 1)) - 3)) v2) = 0 then 0 else 1 : Int)], mm V h) QQ := by
              obtain rfl := Option.some.inj hf
              refine ok_ireturn (L := [some (.inr (.inr (.inl 1))), some (.inl v1), some (.inl v2), some (.inl v3)]) (M := mm V h) (x := (if (f_Hours_isShut V v1 (w32 ((w32 (v3 - 1)) - 3)) v2) = 0 then 0 else 1 : Int)) rfl rfl ?_
              exact ⟨rfl, rfl⟩
            clear hf
            refine ok_if_eq (x := f_Hours_isShut V v1 (w32 ((w32 (v3 - 1)) - 3)) v2) (L := [some (.inr (.inr (.inl 1))), some (.inl v1), some (.inl v2), some (.inl v3)]) (S := []) (M := mm V h) rfl rfl (fun c12 => ?_) (fun c12 => ?_)
            ·
              simp only [if_pos c12] at JN11
              refine ok_thru (L := [some (.inr (.inr (.inl 1))), some (.inl v1), some (.inl v2), some (.inl v3)]) (S := [.inl 0]) (M := mm V h) rfl rfl ?_
              first | exact JN11 | (simp only [if_pos c12]; exact JN11)
            ·
              simp only [if_neg c12] at JN11
              refine ok_goto (L := [some (.inr (.inr (.inl 1))), some (.inl v1), some (.inl v2), some (.inl v3)]) (S := [.inl 1]) (M := mm V h) rfl rfl ?_
              first | exact JN11 | (simp only [if_neg c12]; exact JN11)
        ·
          replace hf := (if_neg c7).symm.trans hf
          obtain ⟨q13, e13, hf⟩ := obind hf
          refine ok_callA (L := [some (.inr (.inr (.inl 1))), some (.inl v1), some (.inl v2), some (.inl v3)]) (M := mm V h) (args := [.inr (.inr (.inl 19)), .inl v1, .inl (w32 (v3 - 1)), .inl v2]) (rest := []) (y2 := 90) rfl rfl rfl (Or.inl rfl) rfl rfl (Nat.le_of_ble_eq_true rfl) rfl rfl (Nat.le_of_ble_eq_true rfl) (Nat.le_of_ble_eq_true rfl) (s_Hours_haul e13) ?_
          rintro _ _ ⟨rfl, rfl⟩
          obtain rfl := Option.some.inj hf
          refine ok_ireturn (L := [some (.inr (.inr (.inl 1))), some (.inl v1), some (.inl v2), some (.inl v3)]) (M := mm V h) (x := q13) rfl rfl ?_
          exact ⟨rfl, rfl⟩
      ·
        replace hf := (if_pos c5).symm.trans hf
        refine ok_callA (L := [some (.inr (.inr (.inl 1))), some (.inl v1), some (.inl v2), some (.inl v3)]) (M := mm V h) (args := [.inr (.inr (.inl 19)), .inl v1, .inl v2]) (rest := []) (y2 := 89) rfl rfl rfl (Or.inl rfl) rfl rfl (Nat.le_of_ble_eq_true rfl) rfl rfl (Nat.le_of_ble_eq_true rfl) (Nat.le_of_ble_eq_true rfl) (s_Hours_isOpen rfl) ?_
        rintro _ _ ⟨rfl, rfl, hz14⟩
        have JN15 : Ok X (d + 4) 88 10 ([some (.inr (.inr (.inl 1))), some (.inl v1), some (.inl v2), some (.inl v3)], [.inl (if (f_Hours_isOpen V v1 v2) = 0 then 0 else 1 : Int)], mm V h) QQ := by
          obtain rfl := Option.some.inj hf
          refine ok_ireturn (L := [some (.inr (.inr (.inl 1))), some (.inl v1), some (.inl v2), some (.inl v3)]) (M := mm V h) (x := (if (f_Hours_isOpen V v1 v2) = 0 then 0 else 1 : Int)) rfl rfl ?_
          exact ⟨rfl, rfl⟩
        clear hf
        refine ok_if_eq (x := f_Hours_isOpen V v1 v2) (L := [some (.inr (.inr (.inl 1))), some (.inl v1), some (.inl v2), some (.inl v3)]) (S := []) (M := mm V h) rfl rfl (fun c16 => ?_) (fun c16 => ?_)
        ·
          simp only [if_pos c16] at JN15
          refine ok_thru (L := [some (.inr (.inr (.inl 1))), some (.inl v1), some (.inl v2), some (.inl v3)]) (S := [.inl 0]) (M := mm V h) rfl rfl ?_
          first | exact JN15 | (simp only [if_pos c16]; exact JN15)
        ·
          simp only [if_neg c16] at JN15
          refine ok_goto (L := [some (.inr (.inr (.inl 1))), some (.inl v1), some (.inl v2), some (.inl v3)]) (S := [.inl 1]) (M := mm V h) rfl rfl ?_
          first | exact JN15 | (simp only [if_neg c16]; exact JN15)
    ·
      replace hf := (if_pos c4).symm.trans hf
      obtain rfl := Option.some.inj hf
      refine ok_ireturn (L := [some (.inr (.inr (.inl 1))), some (.inl v1), some (.inl v2), some (.inl v3)]) (M := mm V h) (x := (-1)) rfl rfl ?_
      exact ⟨rfl, rfl⟩
def f_Plants_make_1 : Nat → VV → Int → Int → (Option (Int))
  | 0, _, _, _ => none
  | n + 1, V, v1, v2 => if v2 < (V 10 4) then if (atV V 11 3 v2) = v1 then some 1 else f_Plants_make_1 n V v1 (w32 (v2 + 1)) else some 0
set_option maxRecDepth 20000 in
set_option maxHeartbeats 4000000 in
theorem s_Plants_make_1_n {X : Xs} {d : Nat} {V : VV} {h : HP} {q : Int} : ∀ (n : Nat) (v1 : Int) (v2 : Int), f_Plants_make_1 n V v1 v2 = some q → Ok X (d + 2) 95 1 ([some (.inr (.inr (.inl 11))), some (.inl v1), some (.inl v2)], [], mm V h) (fun M r => M = mm V h ∧ r = some (.inl q) ∧ (q = 0 ∨ q = 1)) := by
  intro n
  induction n with
  | zero => intro v1 v2 hf; cases hf
  | succ n ih =>
    intro v1 v2 hf
    let QQ : Mm → Option AV → Prop := fun M r => M = mm V h ∧ r = some (.inl q) ∧ (q = 0 ∨ q = 1)
    show Ok X (d + 2) 95 1 ([some (.inr (.inr (.inl 11))), some (.inl v1), some (.inl v2)], [], mm V h) QQ
    refine ok_ic_ge (x := v2) (u := V 10 4) (L := [some (.inr (.inr (.inl 11))), some (.inl v1), some (.inl v2)]) (S := []) (M := mm V h) rfl rfl (fun c1 => ?_) (fun c1 => ?_)
    ·
      replace hf := (if_neg (Int.not_lt.mpr c1)).symm.trans hf
      obtain rfl := Option.some.inj hf
      have hz : (0 : Int) = 0 ∨ (0 : Int) = 1 := by
        first | exact Or.inl rfl | exact Or.inr rfl | assumption | (repeat' split) <;> first | exact Or.inl rfl | exact Or.inr rfl | assumption
      refine ok_zreturn (L := [some (.inr (.inr (.inl 11))), some (.inl v1), some (.inl v2)]) (M := mm V h) (x := 0) rfl rfl hz ?_
      exact ⟨rfl, rfl, hz⟩
    ·
      replace hf := (if_pos c1).symm.trans hf
      refine ok_callA (L := [some (.inr (.inr (.inl 11))), some (.inl v1), some (.inl v2)]) (M := mm V h) (args := [.inr (.inr (.inl 12)), .inl v2]) (rest := []) (y2 := 21) rfl rfl rfl (Or.inr (Or.inl rfl)) rfl rfl (Nat.le_of_ble_eq_true rfl) rfl rfl (Nat.le_of_ble_eq_true rfl) (Nat.le_of_ble_eq_true rfl) (w_at rfl rfl) ?_
      rintro _ _ ⟨rfl, rfl⟩
      refine ok_ic_ne (x := atV V 11 3 v2) (u := v1) (L := [some (.inr (.inr (.inl 11))), some (.inl v1), some (.inl v2)]) (S := []) (M := mm V h) rfl rfl (fun c3 => ?_) (fun c3 => ?_)
      ·
        replace hf := (if_neg c3).symm.trans hf
        refine ok_goto (L := [some (.inr (.inr (.inl 11))), some (.inl v1), some (.inl (w32 (v2 + 1)))]) (S := []) (M := mm V h) rfl rfl ?_
        exact ih v1 (w32 (v2 + 1)) hf
      ·
        replace hf := (if_pos c3).symm.trans hf
        obtain rfl := Option.some.inj hf
        have hz : (1 : Int) = 0 ∨ (1 : Int) = 1 := by
          first | exact Or.inl rfl | exact Or.inr rfl | assumption | (repeat' split) <;> first | exact Or.inl rfl | exact Or.inr rfl | assumption
        refine ok_zreturn (L := [some (.inr (.inr (.inl 11))), some (.inl v1), some (.inl v2)]) (M := mm V h) (x := 1) rfl rfl hz ?_
        exact ⟨rfl, rfl, hz⟩
theorem s_Plants_make_1 {X : Xs} {d : Nat} {V : VV} {h : HP} {v1 : Int} {v2 : Int} {n : Nat} {q : Int} (hf : f_Plants_make_1 n V v1 v2 = some q) : Ok X (d + 2) 95 1 ([some (.inr (.inr (.inl 11))), some (.inl v1), some (.inl v2)], [], mm V h) (fun M r => M = mm V h ∧ r = some (.inl q) ∧ (q = 0 ∨ q = 1)) :=
  s_Plants_make_1_n n v1 v2 hf
def f_Plants_make (V : VV) (v1 : Int) : Option (Int) := f_Plants_make_1 FU V v1 0
set_option maxRecDepth 20000 in
set_option maxHeartbeats 4000000 in
theorem s_Plants_make {X : Xs} {d : Nat} {V : VV} {h : HP} {v1 : Int} {q : Int} (hf : f_Plants_make V v1 = some q) : Ok X (d + 2) 95 0 ([some (.inr (.inr (.inl 11))), some (.inl v1), none], [], mm V h) (fun M r => M = mm V h ∧ r = some (.inl q) ∧ (q = 0 ∨ q = 1)) := by
  let QQ : Mm → Option AV → Prop := fun M r => M = mm V h ∧ r = some (.inl q) ∧ (q = 0 ∨ q = 1)
  show Ok X (d + 2) 95 0 ([some (.inr (.inr (.inl 11))), some (.inl v1), none], [], mm V h) QQ
  refine ok_thru (L := [some (.inr (.inr (.inl 11))), some (.inl v1), some (.inl 0)]) (S := []) (M := mm V h) rfl rfl ?_
  exact s_Plants_make_1 hf
def f_Br_canBePaved_5 : Nat → VV → Int → (Option (Int))
  | 0, _, _ => none
  | n + 1, V, v1 => if v1 < (V 1 9) then Option.bind (f_Plants_make V (atV V 7 3 v1)) (fun q3 => if q3 = 0 then some 0 else f_Br_canBePaved_5 n V (w32 (v1 + 1))) else some 1
set_option maxRecDepth 20000 in
set_option maxHeartbeats 4000000 in
theorem s_Br_canBePaved_5_n {X : Xs} {d : Nat} {V : VV} {h : HP} {q : Int} : ∀ (n : Nat) (v1 : Int), f_Br_canBePaved_5 n V v1 = some q → Ok X (d + 3) 94 5 ([some (.inr (.inr (.inl 1))), some (.inl v1)], [], mm V h) (fun M r => M = mm V h ∧ r = some (.inl q) ∧ (q = 0 ∨ q = 1)) := by
  intro n
  induction n with
  | zero => intro v1 hf; cases hf
  | succ n ih =>
    intro v1 hf
    let QQ : Mm → Option AV → Prop := fun M r => M = mm V h ∧ r = some (.inl q) ∧ (q = 0 ∨ q = 1)
    show Ok X (d + 3) 94 5 ([some (.inr (.inr (.inl 1))), some (.inl v1)], [], mm V h) QQ
    refine ok_ic_ge (x := v1) (u := V 1 9) (L := [some (.inr (.inr (.inl 1))), some (.inl v1)]) (S := []) (M := mm V h) rfl rfl (fun c1 => ?_) (fun c1 => ?_)
    ·
      replace hf := (if_neg (Int.not_lt.mpr c1)).symm.trans hf
      obtain rfl := Option.some.inj hf
      have hz : (1 : Int) = 0 ∨ (1 : Int) = 1 := by
        first | exact Or.inl rfl | exact Or.inr rfl | assumption | (repeat' split) <;> first | exact Or.inl rfl | exact Or.inr rfl | assumption
      refine ok_zreturn (L := [some (.inr (.inr (.inl 1))), some (.inl v1)]) (M := mm V h) (x := 1) rfl rfl hz ?_
      exact ⟨rfl, rfl, hz⟩
    ·
      replace hf := (if_pos c1).symm.trans hf
      refine ok_callA (L := [some (.inr (.inr (.inl 1))), some (.inl v1)]) (M := mm V h) (args := [.inr (.inr (.inl 8)), .inl v1]) (rest := [.inr (.inr (.inl 11))]) (y2 := 21) rfl rfl rfl (Or.inr (Or.inl rfl)) rfl rfl (Nat.le_of_ble_eq_true rfl) rfl rfl (Nat.le_of_ble_eq_true rfl) (Nat.le_of_ble_eq_true rfl) (w_at rfl rfl) ?_
      rintro _ _ ⟨rfl, rfl⟩
      obtain ⟨q3, e3, hf⟩ := obind hf
      refine ok_callA (L := [some (.inr (.inr (.inl 1))), some (.inl v1)]) (M := mm V h) (args := [.inr (.inr (.inl 11)), .inl (atV V 7 3 v1)]) (rest := []) (y2 := 95) rfl rfl rfl (Or.inl rfl) rfl rfl (Nat.le_of_ble_eq_true rfl) rfl rfl (Nat.le_of_ble_eq_true rfl) (Nat.le_of_ble_eq_true rfl) (s_Plants_make e3) ?_
      rintro _ _ ⟨rfl, rfl, hz3⟩
      refine ok_if_ne (x := q3) (L := [some (.inr (.inr (.inl 1))), some (.inl v1)]) (S := []) (M := mm V h) rfl rfl (fun c4 => ?_) (fun c4 => ?_)
      ·
        replace hf := (if_neg c4).symm.trans hf
        refine ok_goto (L := [some (.inr (.inr (.inl 1))), some (.inl (w32 (v1 + 1)))]) (S := []) (M := mm V h) rfl rfl ?_
        exact ih (w32 (v1 + 1)) hf
      ·
        replace hf := (if_pos c4).symm.trans hf
        obtain rfl := Option.some.inj hf
        have hz : (0 : Int) = 0 ∨ (0 : Int) = 1 := by
          first | exact Or.inl rfl | exact Or.inr rfl | assumption | (repeat' split) <;> first | exact Or.inl rfl | exact Or.inr rfl | assumption
        refine ok_zreturn (L := [some (.inr (.inr (.inl 1))), some (.inl v1)]) (M := mm V h) (x := 0) rfl rfl hz ?_
        exact ⟨rfl, rfl, hz⟩
theorem s_Br_canBePaved_5 {X : Xs} {d : Nat} {V : VV} {h : HP} {v1 : Int} {n : Nat} {q : Int} (hf : f_Br_canBePaved_5 n V v1 = some q) : Ok X (d + 3) 94 5 ([some (.inr (.inr (.inl 1))), some (.inl v1)], [], mm V h) (fun M r => M = mm V h ∧ r = some (.inl q) ∧ (q = 0 ∨ q = 1)) :=
  s_Br_canBePaved_5_n n v1 hf
def f_Br_canBePaved (V : VV)  : Option (Int) := if (V 1 15) = (-1) then some 0 else if (f_Road_jobs V) = 0 then some 0 else f_Br_canBePaved_5 FU V 0
set_option maxRecDepth 20000 in
set_option maxHeartbeats 4000000 in
theorem s_Br_canBePaved {X : Xs} {d : Nat} {V : VV} {h : HP} {q : Int} (hf : f_Br_canBePaved V = some q) : Ok X (d + 3) 94 0 ([some (.inr (.inr (.inl 1))), none], [], mm V h) (fun M r => M = mm V h ∧ r = some (.inl q) ∧ (q = 0 ∨ q = 1)) := by
  let QQ : Mm → Option AV → Prop := fun M r => M = mm V h ∧ r = some (.inl q) ∧ (q = 0 ∨ q = 1)
  show Ok X (d + 3) 94 0 ([some (.inr (.inr (.inl 1))), none], [], mm V h) QQ
  refine ok_ic_eq (x := V 1 15) (u := (-1)) (L := [some (.inr (.inr (.inl 1))), none]) (S := []) (M := mm V h) rfl rfl (fun c1 => ?_) (fun c1 => ?_)
  ·
    replace hf := (if_pos c1).symm.trans hf
    obtain rfl := Option.some.inj hf
    have hz : (0 : Int) = 0 ∨ (0 : Int) = 1 := by
      first | exact Or.inl rfl | exact Or.inr rfl | assumption | (repeat' split) <;> first | exact Or.inl rfl | exact Or.inr rfl | assumption
    refine ok_zreturn (L := [some (.inr (.inr (.inl 1))), none]) (M := mm V h) (x := 0) rfl rfl hz ?_
    exact ⟨rfl, rfl, hz⟩
  ·
    replace hf := (if_neg c1).symm.trans hf
    refine ok_callA (L := [some (.inr (.inr (.inl 1))), none]) (M := mm V h) (args := [.inr (.inr (.inl 2))]) (rest := []) (y2 := 25) rfl rfl rfl (Or.inl rfl) rfl rfl (Nat.le_of_ble_eq_true rfl) rfl rfl (Nat.le_of_ble_eq_true rfl) (Nat.le_of_ble_eq_true rfl) (s_Road_jobs rfl) ?_
    rintro _ _ ⟨rfl, rfl⟩
    refine ok_if_ne (x := f_Road_jobs V) (L := [some (.inr (.inr (.inl 1))), none]) (S := []) (M := mm V h) rfl rfl (fun c3 => ?_) (fun c3 => ?_)
    ·
      replace hf := (if_neg c3).symm.trans hf
      refine ok_thru (L := [some (.inr (.inr (.inl 1))), some (.inl 0)]) (S := []) (M := mm V h) rfl rfl ?_
      exact s_Br_canBePaved_5 hf
    ·
      replace hf := (if_pos c3).symm.trans hf
      obtain rfl := Option.some.inj hf
      have hz : (0 : Int) = 0 ∨ (0 : Int) = 1 := by
        first | exact Or.inl rfl | exact Or.inr rfl | assumption | (repeat' split) <;> first | exact Or.inl rfl | exact Or.inr rfl | assumption
      refine ok_zreturn (L := [some (.inr (.inr (.inl 1))), none]) (M := mm V h) (x := 0) rfl rfl hz ?_
      exact ⟨rfl, rfl, hz⟩
def f_Paving_clear (V : VV)  : VV := lt_ (fillV (up (up (up (up (up V 46 2 (w32 ((V 46 2) + 1))) 46 8 0) 46 12 0) 46 13 0) 46 15 0) 47 6 0) (fun q1 => lt_ (setV q1 47 6 3 (-1)) (fun q2 => lt_ (fillV q2 48 36 (-1)) (fun q3 => q3)))
set_option maxRecDepth 20000 in
set_option maxHeartbeats 4000000 in
theorem s_Paving_clear {X : Xs} {d : Nat} {V : VV} {h : HP} {q : VV} (hf : f_Paving_clear V = q) : Ok X (d + 2) 97 0 ([some (.inr (.inr (.inl 47)))], [], mm V h) (fun M r => M = mm q h ∧ r = none) := by
  let QQ : Mm → Option AV → Prop := fun M r => M = mm q h ∧ r = none
  show Ok X (d + 2) 97 0 ([some (.inr (.inr (.inl 47)))], [], mm V h) QQ
  obtain ⟨q1, e1, hf⟩ := lt_x hf
  refine ok_callA (L := [some (.inr (.inr (.inl 47)))]) (M := mm (up (up (up (up (up V 46 2 (w32 ((V 46 2) + 1))) 46 8 0) 46 12 0) 46 13 0) 46 15 0) h) (args := [.inr (.inr (.inl 48)), .inl 0]) (rest := []) (y2 := 6) rfl rfl rfl (Or.inr (Or.inl rfl)) rfl rfl (Nat.le_of_ble_eq_true rfl) rfl rfl (Nat.le_of_ble_eq_true rfl) (Nat.le_of_ble_eq_true rfl) (w_fill rfl (by decide) e1) ?_
  rintro _ _ ⟨rfl, rfl⟩
  obtain ⟨q2, e2, hf⟩ := lt_x hf
  refine ok_callA (L := [some (.inr (.inr (.inl 47)))]) (M := mm q1 h) (args := [.inr (.inr (.inl 48)), .inl 3, .inl (-1)]) (rest := []) (y2 := 9) rfl rfl rfl (Or.inr (Or.inl rfl)) rfl rfl (Nat.le_of_ble_eq_true rfl) rfl rfl (Nat.le_of_ble_eq_true rfl) (Nat.le_of_ble_eq_true rfl) (w_set rfl e2) ?_
  rintro _ _ ⟨rfl, rfl⟩
  obtain ⟨q3, e3, hf⟩ := lt_x hf
  refine ok_callA (L := [some (.inr (.inr (.inl 47)))]) (M := mm q2 h) (args := [.inr (.inr (.inl 49)), .inl (-1)]) (rest := []) (y2 := 6) rfl rfl rfl (Or.inr (Or.inl rfl)) rfl rfl (Nat.le_of_ble_eq_true rfl) rfl rfl (Nat.le_of_ble_eq_true rfl) (Nat.le_of_ble_eq_true rfl) (w_fill rfl (by decide) e3) ?_
  rintro _ _ ⟨rfl, rfl⟩
  have hq : (q3) = q := hf
  subst hq
  refine ok_return (L := [some (.inr (.inr (.inl 47)))]) (M := mm q3 h) rfl rfl ?_
  exact ⟨rfl, rfl⟩
def f_Loads_clear (V : VV)  : VV := up (up V 28 3 0) 28 2 0
set_option maxRecDepth 20000 in
set_option maxHeartbeats 4000000 in
theorem s_Loads_clear {X : Xs} {d : Nat} {V : VV} {h : HP} {q : VV} (hf : f_Loads_clear V = q) : Ok X (d + 1) 99 0 ([some (.inr (.inr (.inl 29)))], [], mm V h) (fun M r => M = mm q h ∧ r = none) := by
  let QQ : Mm → Option AV → Prop := fun M r => M = mm q h ∧ r = none
  show Ok X (d + 1) 99 0 ([some (.inr (.inr (.inl 29)))], [], mm V h) QQ
  have hq : (up (up V 28 3 0) 28 2 0) = q := hf
  subst hq
  refine ok_return (L := [some (.inr (.inr (.inl 29)))]) (M := mm (up (up V 28 3 0) 28 2 0) h) rfl rfl ?_
  exact ⟨rfl, rfl⟩
def f_Haulage_begin (V : VV) (v1 : Int) (v2 : Int) : VV := lt_ (f_Loads_clear (up (up (up V 37 4 v1) 37 5 v2) 37 6 0)) (fun q1 => lt_ (fillV q1 38 3 0) (fun q2 => lt_ (fillV q2 39 3 (-1)) (fun q3 => lt_ (fillV q3 40 3 0) (fun q4 => lt_ (fillV q4 41 3 0) (fun q5 => lt_ (fillV q5 42 16 0) (fun q6 => lt_ (fillV q6 43 16 0) (fun q7 => lt_ (fillV q7 44 16 (-1)) (fun q8 => lt_ (fillV q8 45 36 0) (fun q9 => q9)))))))))
set_option maxRecDepth 20000 in
set_option maxHeartbeats 4000000 in
theorem s_Haulage_begin {X : Xs} {d : Nat} {V : VV} {h : HP} {v1 : Int} {v2 : Int} {q : VV} (hf : f_Haulage_begin V v1 v2 = q) : Ok X (d + 2) 98 0 ([some (.inr (.inr (.inl 38))), some (.inl v1), some (.inl v2)], [], mm V h) (fun M r => M = mm q h ∧ r = none) := by
  let QQ : Mm → Option AV → Prop := fun M r => M = mm q h ∧ r = none
  show Ok X (d + 2) 98 0 ([some (.inr (.inr (.inl 38))), some (.inl v1), some (.inl v2)], [], mm V h) QQ
  obtain ⟨q1, e1, hf⟩ := lt_x hf
  refine ok_callA (L := [some (.inr (.inr (.inl 38))), some (.inl v1), some (.inl v2)]) (M := mm (up (up (up V 37 4 v1) 37 5 v2) 37 6 0) h) (args := [.inr (.inr (.inl 29))]) (rest := []) (y2 := 99) rfl rfl rfl (Or.inl rfl) rfl rfl (Nat.le_of_ble_eq_true rfl) rfl rfl (Nat.le_of_ble_eq_true rfl) (Nat.le_of_ble_eq_true rfl) (s_Loads_clear e1) ?_
  rintro _ _ ⟨rfl, rfl⟩
  obtain ⟨q2, e2, hf⟩ := lt_x hf
  refine ok_callA (L := [some (.inr (.inr (.inl 38))), some (.inl v1), some (.inl v2)]) (M := mm q1 h) (args := [.inr (.inr (.inl 39)), .inl 0]) (rest := []) (y2 := 6) rfl rfl rfl (Or.inr (Or.inl rfl)) rfl rfl (Nat.le_of_ble_eq_true rfl) rfl rfl (Nat.le_of_ble_eq_true rfl) (Nat.le_of_ble_eq_true rfl) (w_fill rfl (by decide) e2) ?_
  rintro _ _ ⟨rfl, rfl⟩
  obtain ⟨q3, e3, hf⟩ := lt_x hf
  refine ok_callA (L := [some (.inr (.inr (.inl 38))), some (.inl v1), some (.inl v2)]) (M := mm q2 h) (args := [.inr (.inr (.inl 40)), .inl (-1)]) (rest := []) (y2 := 6) rfl rfl rfl (Or.inr (Or.inl rfl)) rfl rfl (Nat.le_of_ble_eq_true rfl) rfl rfl (Nat.le_of_ble_eq_true rfl) (Nat.le_of_ble_eq_true rfl) (w_fill rfl (by decide) e3) ?_
  rintro _ _ ⟨rfl, rfl⟩
  obtain ⟨q4, e4, hf⟩ := lt_x hf
  refine ok_callA (L := [some (.inr (.inr (.inl 38))), some (.inl v1), some (.inl v2)]) (M := mm q3 h) (args := [.inr (.inr (.inl 41)), .inl 0]) (rest := []) (y2 := 6) rfl rfl rfl (Or.inr (Or.inl rfl)) rfl rfl (Nat.le_of_ble_eq_true rfl) rfl rfl (Nat.le_of_ble_eq_true rfl) (Nat.le_of_ble_eq_true rfl) (w_fill rfl (by decide) e4) ?_
  rintro _ _ ⟨rfl, rfl⟩
  obtain ⟨q5, e5, hf⟩ := lt_x hf
  refine ok_callA (L := [some (.inr (.inr (.inl 38))), some (.inl v1), some (.inl v2)]) (M := mm q4 h) (args := [.inr (.inr (.inl 42)), .inl 0]) (rest := []) (y2 := 6) rfl rfl rfl (Or.inr (Or.inl rfl)) rfl rfl (Nat.le_of_ble_eq_true rfl) rfl rfl (Nat.le_of_ble_eq_true rfl) (Nat.le_of_ble_eq_true rfl) (w_fill rfl (by decide) e5) ?_
  rintro _ _ ⟨rfl, rfl⟩
  obtain ⟨q6, e6, hf⟩ := lt_x hf
  refine ok_callA (L := [some (.inr (.inr (.inl 38))), some (.inl v1), some (.inl v2)]) (M := mm q5 h) (args := [.inr (.inr (.inl 43)), .inl 0]) (rest := []) (y2 := 6) rfl rfl rfl (Or.inr (Or.inl rfl)) rfl rfl (Nat.le_of_ble_eq_true rfl) rfl rfl (Nat.le_of_ble_eq_true rfl) (Nat.le_of_ble_eq_true rfl) (w_fill rfl (by decide) e6) ?_
  rintro _ _ ⟨rfl, rfl⟩
  obtain ⟨q7, e7, hf⟩ := lt_x hf
  refine ok_callA (L := [some (.inr (.inr (.inl 38))), some (.inl v1), some (.inl v2)]) (M := mm q6 h) (args := [.inr (.inr (.inl 44)), .inl 0]) (rest := []) (y2 := 6) rfl rfl rfl (Or.inr (Or.inl rfl)) rfl rfl (Nat.le_of_ble_eq_true rfl) rfl rfl (Nat.le_of_ble_eq_true rfl) (Nat.le_of_ble_eq_true rfl) (w_fill rfl (by decide) e7) ?_
  rintro _ _ ⟨rfl, rfl⟩
  obtain ⟨q8, e8, hf⟩ := lt_x hf
  refine ok_callA (L := [some (.inr (.inr (.inl 38))), some (.inl v1), some (.inl v2)]) (M := mm q7 h) (args := [.inr (.inr (.inl 45)), .inl (-1)]) (rest := []) (y2 := 6) rfl rfl rfl (Or.inr (Or.inl rfl)) rfl rfl (Nat.le_of_ble_eq_true rfl) rfl rfl (Nat.le_of_ble_eq_true rfl) (Nat.le_of_ble_eq_true rfl) (w_fill rfl (by decide) e8) ?_
  rintro _ _ ⟨rfl, rfl⟩
  obtain ⟨q9, e9, hf⟩ := lt_x hf
  refine ok_callA (L := [some (.inr (.inr (.inl 38))), some (.inl v1), some (.inl v2)]) (M := mm q8 h) (args := [.inr (.inr (.inl 46)), .inl 0]) (rest := []) (y2 := 6) rfl rfl rfl (Or.inr (Or.inl rfl)) rfl rfl (Nat.le_of_ble_eq_true rfl) rfl rfl (Nat.le_of_ble_eq_true rfl) (Nat.le_of_ble_eq_true rfl) (w_fill rfl (by decide) e9) ?_
  rintro _ _ ⟨rfl, rfl⟩
  have hq : (q9) = q := hf
  subst hq
  refine ok_return (L := [some (.inr (.inr (.inl 38))), some (.inl v1), some (.inl v2)]) (M := mm q9 h) rfl rfl ?_
  exact ⟨rfl, rfl⟩
def f_Haulage_makeMix_9 (k1 : VV → Int → Int → (Option (VV))) (V : VV) (v1 : Int) (v2 : Int) : Option (VV) := k1 V v1 (w32 (v2 + 1))
set_option maxRecDepth 20000 in
set_option maxHeartbeats 4000000 in
theorem s_Haulage_makeMix_9 {X : Xs} {d : Nat} {k1 : VV → Int → Int → (Option (VV))} {V : VV} {h : HP} {v1 : Int} {v2 : Int} {q : VV} (hf : f_Haulage_makeMix_9 k1 V v1 v2 = some q) (K1 : ∀ (V : VV) (v1 : Int) (v2 : Int), k1 V v1 v2 = some q → Ok X (d + 3) 100 1 ([some (.inr (.inr (.inl 38))), some (.inl v1), some (.inl v2)], [], mm V h) (fun M r => M = mm q h ∧ r = none)) : Ok X (d + 3) 100 9 ([some (.inr (.inr (.inl 38))), some (.inl v1), some (.inl v2)], [], mm V h) (fun M r => M = mm q h ∧ r = none) := by
  let QQ : Mm → Option AV → Prop := fun M r => M = mm q h ∧ r = none
  show Ok X (d + 3) 100 9 ([some (.inr (.inr (.inl 38))), some (.inl v1), some (.inl v2)], [], mm V h) QQ
  refine ok_goto (L := [some (.inr (.inr (.inl 38))), some (.inl v1), some (.inl (w32 (v2 + 1)))]) (S := []) (M := mm V h) rfl rfl ?_
  exact K1 V v1 (w32 (v2 + 1)) hf
def f_Haulage_makeMix_1 : Nat → VV → Int → Int → (Option (VV))
  | 0, _, _, _ => none
  | n + 1, V, v1, v2 => if v2 < (V 10 4) then if (f_Hours_isShut V (V 37 4) v2 v1) = 0 then lt_ (setV V 38 3 v2 (min (atV V 13 3 v2) (w32 ((atV V 38 3 v2) + (atV V 12 3 v2))))) (fun q7 => f_Haulage_makeMix_9 (f_Haulage_makeMix_1 n) q7 v1 v2) else f_Haulage_makeMix_9 (f_Haulage_makeMix_1 n) V v1 v2 else some V
set_option maxRecDepth 20000 in
set_option maxHeartbeats 4000000 in
theorem s_Haulage_makeMix_1_n {X : Xs} {d : Nat} {h : HP} {q : VV} : ∀ (n : Nat) (V : VV) (v1 : Int) (v2 : Int), f_Haulage_makeMix_1 n V v1 v2 = some q → Ok X (d + 3) 100 1 ([some (.inr (.inr (.inl 38))), some (.inl v1), some (.inl v2)], [], mm V h) (fun M r => M = mm q h ∧ r = none) := by
  intro n
  induction n with
  | zero => intro V v1 v2 hf; cases hf
  | succ n ih =>
    intro V v1 v2 hf
    let QQ : Mm → Option AV → Prop := fun M r => M = mm q h ∧ r = none
    show Ok X (d + 3) 100 1 ([some (.inr (.inr (.inl 38))), some (.inl v1), some (.inl v2)], [], mm V h) QQ
    refine ok_ic_ge (x := v2) (u := V 10 4) (L := [some (.inr (.inr (.inl 38))), some (.inl v1), some (.inl v2)]) (S := []) (M := mm V h) rfl rfl (fun c1 => ?_) (fun c1 => ?_)
    ·
      replace hf := (if_neg (Int.not_lt.mpr c1)).symm.trans hf
      obtain rfl := Option.some.inj hf
      refine ok_return (L := [some (.inr (.inr (.inl 38))), some (.inl v1), some (.inl v2)]) (M := mm V h) rfl rfl ?_
      exact ⟨rfl, rfl⟩
    ·
      replace hf := (if_pos c1).symm.trans hf
      refine ok_callA (L := [some (.inr (.inr (.inl 38))), some (.inl v1), some (.inl v2)]) (M := mm V h) (args := [.inr (.inr (.inl 19)), .inl (V 37 4), .inl v2, .inl v1]) (rest := []) (y2 := 91) rfl rfl rfl (Or.inl rfl) rfl rfl (Nat.le_of_ble_eq_true rfl) rfl rfl (Nat.le_of_ble_eq_true rfl) (Nat.le_of_ble_eq_true rfl) (s_Hours_isShut rfl) ?_
      rintro _ _ ⟨rfl, rfl, hz2⟩
      refine ok_if_ne (x := f_Hours_isShut V (V 37 4) v2 v1) (L := [some (.inr (.inr (.inl 38))), some (.inl v1), some (.inl v2)]) (S := []) (M := mm V h) rfl rfl (fun c3 => ?_) (fun c3 => ?_)
      ·
        replace hf := (if_neg c3).symm.trans hf
        exact s_Haulage_makeMix_9 hf ih
      ·
        replace hf := (if_pos c3).symm.trans hf
        refine ok_callA (L := [some (.inr (.inr (.inl 38))), some (.inl v1), some (.inl v2)]) (M := mm V h) (args := [.inr (.inr (.inl 14)), .inl v2]) (rest := [.inl v2, .inr (.inr (.inl 39))]) (y2 := 21) rfl rfl rfl (Or.inr (Or.inl rfl)) rfl rfl (Nat.le_of_ble_eq_true rfl) rfl rfl (Nat.le_of_ble_eq_true rfl) (Nat.le_of_ble_eq_true rfl) (w_at rfl rfl) ?_
        rintro _ _ ⟨rfl, rfl⟩
        refine ok_callA (L := [some (.inr (.inr (.inl 38))), some (.inl v1), some (.inl v2)]) (M := mm V h) (args := [.inr (.inr (.inl 39)), .inl v2]) (rest := [.inl (atV V 13 3 v2), .inl v2, .inr (.inr (.inl 39))]) (y2 := 21) rfl rfl rfl (Or.inr (Or.inl rfl)) rfl rfl (Nat.le_of_ble_eq_true rfl) rfl rfl (Nat.le_of_ble_eq_true rfl) (Nat.le_of_ble_eq_true rfl) (w_at rfl rfl) ?_
        rintro _ _ ⟨rfl, rfl⟩
        refine ok_callA (L := [some (.inr (.inr (.inl 38))), some (.inl v1), some (.inl v2)]) (M := mm V h) (args := [.inr (.inr (.inl 13)), .inl v2]) (rest := [.inl (atV V 38 3 v2), .inl (atV V 13 3 v2), .inl v2, .inr (.inr (.inl 39))]) (y2 := 21) rfl rfl rfl (Or.inr (Or.inl rfl)) rfl rfl (Nat.le_of_ble_eq_true rfl) rfl rfl (Nat.le_of_ble_eq_true rfl) (Nat.le_of_ble_eq_true rfl) (w_at rfl rfl) ?_
        rintro _ _ ⟨rfl, rfl⟩
        refine ok_mmin (u := atV V 13 3 v2) (v := w32 ((atV V 38 3 v2) + (atV V 12 3 v2))) (L := [some (.inr (.inr (.inl 38))), some (.inl v1), some (.inl v2)]) (S := [.inl v2, .inr (.inr (.inl 39))]) (M := mm V h) rfl rfl rfl (Nat.le_of_ble_eq_true rfl) ?_
        obtain ⟨q7, e7, hf⟩ := lt_x hf
        refine ok_callA (L := [some (.inr (.inr (.inl 38))), some (.inl v1), some (.inl v2)]) (M := mm V h) (args := [.inr (.inr (.inl 39)), .inl v2, .inl (min (atV V 13 3 v2) (w32 ((atV V 38 3 v2) + (atV V 12 3 v2))))]) (rest := []) (y2 := 9) rfl rfl rfl (Or.inr (Or.inl rfl)) rfl rfl (Nat.le_of_ble_eq_true rfl) rfl rfl (Nat.le_of_ble_eq_true rfl) (Nat.le_of_ble_eq_true rfl) (w_set rfl e7) ?_
        rintro _ _ ⟨rfl, rfl⟩
        exact s_Haulage_makeMix_9 hf ih
theorem s_Haulage_makeMix_1 {X : Xs} {d : Nat} {h : HP} {V : VV} {v1 : Int} {v2 : Int} {n : Nat} {q : VV} (hf : f_Haulage_makeMix_1 n V v1 v2 = some q) : Ok X (d + 3) 100 1 ([some (.inr (.inr (.inl 38))), some (.inl v1), some (.inl v2)], [], mm V h) (fun M r => M = mm q h ∧ r = none) :=
  s_Haulage_makeMix_1_n n V v1 v2 hf
def f_Haulage_makeMix (V : VV) (v1 : Int) : Option (VV) := f_Haulage_makeMix_1 FU V v1 0
set_option maxRecDepth 20000 in
set_option maxHeartbeats 4000000 in
theorem s_Haulage_makeMix {X : Xs} {d : Nat} {V : VV} {h : HP} {v1 : Int} {q : VV} (hf : f_Haulage_makeMix V v1 = some q) : Ok X (d + 3) 100 0 ([some (.inr (.inr (.inl 38))), some (.inl v1), none], [], mm V h) (fun M r => M = mm q h ∧ r = none) := by
  let QQ : Mm → Option AV → Prop := fun M r => M = mm q h ∧ r = none
  show Ok X (d + 3) 100 0 ([some (.inr (.inr (.inl 38))), some (.inl v1), none], [], mm V h) QQ
  refine ok_thru (L := [some (.inr (.inr (.inl 38))), some (.inl v1), some (.inl 0)]) (S := []) (M := mm V h) rfl rfl ?_
  exact s_Haulage_makeMix_1 hf
def f_Haulage_comeIn_13 (k1 : VV → Int → Int → (Option (VV))) (V : VV) (v1 : Int) (v2 : Int) : Option (VV) := k1 V v1 (w32 (v2 + 1))
set_option maxRecDepth 20000 in
set_option maxHeartbeats 4000000 in
theorem s_Haulage_comeIn_13 {X : Xs} {d : Nat} {k1 : VV → Int → Int → (Option (VV))} {V : VV} {h : HP} {v1 : Int} {v2 : Int} {q : VV} (hf : f_Haulage_comeIn_13 k1 V v1 v2 = some q) (K1 : ∀ (V : VV) (v1 : Int) (v2 : Int), k1 V v1 v2 = some q → Ok X (d + 2) 101 1 ([some (.inr (.inr (.inl 38))), some (.inl v1), some (.inl v2)], [], mm V h) (fun M r => M = mm q h ∧ r = none)) : Ok X (d + 2) 101 13 ([some (.inr (.inr (.inl 38))), some (.inl v1), some (.inl v2)], [], mm V h) (fun M r => M = mm q h ∧ r = none) := by
  let QQ : Mm → Option AV → Prop := fun M r => M = mm q h ∧ r = none
  show Ok X (d + 2) 101 13 ([some (.inr (.inr (.inl 38))), some (.inl v1), some (.inl v2)], [], mm V h) QQ
  refine ok_goto (L := [some (.inr (.inr (.inl 38))), some (.inl v1), some (.inl (w32 (v2 + 1)))]) (S := []) (M := mm V h) rfl rfl ?_
  exact K1 V v1 (w32 (v2 + 1)) hf
def f_Haulage_comeIn_8 (k1 : VV → Int → Int → (Option (VV))) (V : VV) (v1 : Int) (v2 : Int) : Option (VV) := if (atV V 43 16 v2) = v1 then if (atV V 42 16 v2) = 4 then lt_ (setV V 42 16 v2 5) (fun q5 => f_Haulage_comeIn_13 k1 q5 v1 v2) else f_Haulage_comeIn_13 k1 V v1 v2 else f_Haulage_comeIn_13 k1 V v1 v2
set_option maxRecDepth 20000 in
set_option maxHeartbeats 4000000 in
theorem s_Haulage_comeIn_8 {X : Xs} {d : Nat} {k1 : VV → Int → Int → (Option (VV))} {V : VV} {h : HP} {v1 : Int} {v2 : Int} {q : VV} (hf : f_Haulage_comeIn_8 k1 V v1 v2 = some q) (K1 : ∀ (V : VV) (v1 : Int) (v2 : Int), k1 V v1 v2 = some q → Ok X (d + 2) 101 1 ([some (.inr (.inr (.inl 38))), some (.inl v1), some (.inl v2)], [], mm V h) (fun M r => M = mm q h ∧ r = none)) : Ok X (d + 2) 101 8 ([some (.inr (.inr (.inl 38))), some (.inl v1), some (.inl v2)], [], mm V h) (fun M r => M = mm q h ∧ r = none) := by
  let QQ : Mm → Option AV → Prop := fun M r => M = mm q h ∧ r = none
  show Ok X (d + 2) 101 8 ([some (.inr (.inr (.inl 38))), some (.inl v1), some (.inl v2)], [], mm V h) QQ
  refine ok_callA (L := [some (.inr (.inr (.inl 38))), some (.inl v1), some (.inl v2)]) (M := mm V h) (args := [.inr (.inr (.inl 44)), .inl v2]) (rest := []) (y2 := 21) rfl rfl rfl (Or.inr (Or.inl rfl)) rfl rfl (Nat.le_of_ble_eq_true rfl) rfl rfl (Nat.le_of_ble_eq_true rfl) (Nat.le_of_ble_eq_true rfl) (w_at rfl rfl) ?_
  rintro _ _ ⟨rfl, rfl⟩
  refine ok_ic_ne (x := atV V 43 16 v2) (u := v1) (L := [some (.inr (.inr (.inl 38))), some (.inl v1), some (.inl v2)]) (S := []) (M := mm V h) rfl rfl (fun c2 => ?_) (fun c2 => ?_)
  ·
    replace hf := (if_neg c2).symm.trans hf
    exact s_Haulage_comeIn_13 hf K1
  ·
    replace hf := (if_pos c2).symm.trans hf
    refine ok_callA (L := [some (.inr (.inr (.inl 38))), some (.inl v1), some (.inl v2)]) (M := mm V h) (args := [.inr (.inr (.inl 43)), .inl v2]) (rest := []) (y2 := 21) rfl rfl rfl (Or.inr (Or.inl rfl)) rfl rfl (Nat.le_of_ble_eq_true rfl) rfl rfl (Nat.le_of_ble_eq_true rfl) (Nat.le_of_ble_eq_true rfl) (w_at rfl rfl) ?_
    rintro _ _ ⟨rfl, rfl⟩
    refine ok_ic_ne (x := atV V 42 16 v2) (u := 4) (L := [some (.inr (.inr (.inl 38))), some (.inl v1), some (.inl v2)]) (S := []) (M := mm V h) rfl rfl (fun c4 => ?_) (fun c4 => ?_)
    ·
      replace hf := (if_neg c4).symm.trans hf
      exact s_Haulage_comeIn_13 hf K1
    ·
      replace hf := (if_pos c4).symm.trans hf
      obtain ⟨q5, e5, hf⟩ := lt_x hf
      refine ok_callA (L := [some (.inr (.inr (.inl 38))), some (.inl v1), some (.inl v2)]) (M := mm V h) (args := [.inr (.inr (.inl 43)), .inl v2, .inl 5]) (rest := []) (y2 := 9) rfl rfl rfl (Or.inr (Or.inl rfl)) rfl rfl (Nat.le_of_ble_eq_true rfl) rfl rfl (Nat.le_of_ble_eq_true rfl) (Nat.le_of_ble_eq_true rfl) (w_set rfl e5) ?_
      rintro _ _ ⟨rfl, rfl⟩
      exact s_Haulage_comeIn_13 hf K1
def f_Haulage_comeIn_1 : Nat → VV → Int → Int → (Option (VV))
  | 0, _, _, _ => none
  | n + 1, V, v1, v2 => if v2 < (V 37 5) then if (atV V 43 16 v2) = v1 then if (atV V 42 16 v2) = 1 then lt_ (setV V 42 16 v2 2) (fun q6 => f_Haulage_comeIn_13 (f_Haulage_comeIn_1 n) q6 v1 v2) else f_Haulage_comeIn_8 (f_Haulage_comeIn_1 n) V v1 v2 else f_Haulage_comeIn_8 (f_Haulage_comeIn_1 n) V v1 v2 else some V
set_option maxRecDepth 20000 in
set_option maxHeartbeats 4000000 in
theorem s_Haulage_comeIn_1_n {X : Xs} {d : Nat} {h : HP} {q : VV} : ∀ (n : Nat) (V : VV) (v1 : Int) (v2 : Int), f_Haulage_comeIn_1 n V v1 v2 = some q → Ok X (d + 2) 101 1 ([some (.inr (.inr (.inl 38))), some (.inl v1), some (.inl v2)], [], mm V h) (fun M r => M = mm q h ∧ r = none) := by
  intro n
  induction n with
  | zero => intro V v1 v2 hf; cases hf
  | succ n ih =>
    intro V v1 v2 hf
    let QQ : Mm → Option AV → Prop := fun M r => M = mm q h ∧ r = none
    show Ok X (d + 2) 101 1 ([some (.inr (.inr (.inl 38))), some (.inl v1), some (.inl v2)], [], mm V h) QQ
    refine ok_ic_ge (x := v2) (u := V 37 5) (L := [some (.inr (.inr (.inl 38))), some (.inl v1), some (.inl v2)]) (S := []) (M := mm V h) rfl rfl (fun c1 => ?_) (fun c1 => ?_)
    ·
      replace hf := (if_neg (Int.not_lt.mpr c1)).symm.trans hf
      obtain rfl := Option.some.inj hf
      refine ok_return (L := [some (.inr (.inr (.inl 38))), some (.inl v1), some (.inl v2)]) (M := mm V h) rfl rfl ?_
      exact ⟨rfl, rfl⟩
    ·
      replace hf := (if_pos c1).symm.trans hf
      refine ok_callA (L := [some (.inr (.inr (.inl 38))), some (.inl v1), some (.inl v2)]) (M := mm V h) (args := [.inr (.inr (.inl 44)), .inl v2]) (rest := []) (y2 := 21) rfl rfl rfl (Or.inr (Or.inl rfl)) rfl rfl (Nat.le_of_ble_eq_true rfl) rfl rfl (Nat.le_of_ble_eq_true rfl) (Nat.le_of_ble_eq_true rfl) (w_at rfl rfl) ?_
      rintro _ _ ⟨rfl, rfl⟩
      refine ok_ic_ne (x := atV V 43 16 v2) (u := v1) (L := [some (.inr (.inr (.inl 38))), some (.inl v1), some (.inl v2)]) (S := []) (M := mm V h) rfl rfl (fun c3 => ?_) (fun c3 => ?_)
      ·
        replace hf := (if_neg c3).symm.trans hf
        exact s_Haulage_comeIn_8 hf ih
      ·
        replace hf := (if_pos c3).symm.trans hf
        refine ok_callA (L := [some (.inr (.inr (.inl 38))), some (.inl v1), some (.inl v2)]) (M := mm V h) (args := [.inr (.inr (.inl 43)), .inl v2]) (rest := []) (y2 := 21) rfl rfl rfl (Or.inr (Or.inl rfl)) rfl rfl (Nat.le_of_ble_eq_true rfl) rfl rfl (Nat.le_of_ble_eq_true rfl) (Nat.le_of_ble_eq_true rfl) (w_at rfl rfl) ?_
        rintro _ _ ⟨rfl, rfl⟩
        refine ok_ic_ne (x := atV V 42 16 v2) (u := 1) (L := [some (.inr (.inr (.inl 38))), some (.inl v1), some (.inl v2)]) (S := []) (M := mm V h) rfl rfl (fun c5 => ?_) (fun c5 => ?_)
        ·
          replace hf := (if_neg c5).symm.trans hf
          exact s_Haulage_comeIn_8 hf ih
        ·
          replace hf := (if_pos c5).symm.trans hf
          obtain ⟨q6, e6, hf⟩ := lt_x hf
          refine ok_callA (L := [some (.inr (.inr (.inl 38))), some (.inl v1), some (.inl v2)]) (M := mm V h) (args := [.inr (.inr (.inl 43)), .inl v2, .inl 2]) (rest := []) (y2 := 9) rfl rfl rfl (Or.inr (Or.inl rfl)) rfl rfl (Nat.le_of_ble_eq_true rfl) rfl rfl (Nat.le_of_ble_eq_true rfl) (Nat.le_of_ble_eq_true rfl) (w_set rfl e6) ?_
          rintro _ _ ⟨rfl, rfl⟩
          refine ok_goto (L := [some (.inr (.inr (.inl 38))), some (.inl v1), some (.inl v2)]) (S := []) (M := mm q6 h) rfl rfl ?_
          exact s_Haulage_comeIn_13 hf ih
theorem s_Haulage_comeIn_1 {X : Xs} {d : Nat} {h : HP} {V : VV} {v1 : Int} {v2 : Int} {n : Nat} {q : VV} (hf : f_Haulage_comeIn_1 n V v1 v2 = some q) : Ok X (d + 2) 101 1 ([some (.inr (.inr (.inl 38))), some (.inl v1), some (.inl v2)], [], mm V h) (fun M r => M = mm q h ∧ r = none) :=
  s_Haulage_comeIn_1_n n V v1 v2 hf
def f_Haulage_comeIn (V : VV) (v1 : Int) : Option (VV) := f_Haulage_comeIn_1 FU V v1 0
set_option maxRecDepth 20000 in
set_option maxHeartbeats 4000000 in
theorem s_Haulage_comeIn {X : Xs} {d : Nat} {V : VV} {h : HP} {v1 : Int} {q : VV} (hf : f_Haulage_comeIn V v1 = some q) : Ok X (d + 2) 101 0 ([some (.inr (.inr (.inl 38))), some (.inl v1), none], [], mm V h) (fun M r => M = mm q h ∧ r = none) := by
  let QQ : Mm → Option AV → Prop := fun M r => M = mm q h ∧ r = none
  show Ok X (d + 2) 101 0 ([some (.inr (.inr (.inl 38))), some (.inl v1), none], [], mm V h) QQ
  refine ok_thru (L := [some (.inr (.inr (.inl 38))), some (.inl v1), some (.inl 0)]) (S := []) (M := mm V h) rfl rfl ?_
  exact s_Haulage_comeIn_1 hf
