/-! shallow functions of the model (printed by wip/tools/gen40.py) -/
def f_Mo_isIn (V : VV) (v0 : Int) (v1 : Int) (v2 : Int) : Int := (if v0 < v1 then 0 else (if v2 < v0 then 0 else 1 : Int) : Int)
set_option maxRecDepth 20000 in
set_option maxHeartbeats 4000000 in
theorem s_Mo_isIn {X : Xs} {d : Nat} {V : VV} {h : HP} {v0 : Int} {v1 : Int} {v2 : Int} {q : Int} (hf : f_Mo_isIn V v0 v1 v2 = q) : Ok X (d + 1) 152 0 ([some (.inl v0), some (.inl v1), some (.inl v2)], [], mm V h) (fun M r => M = mm V h ∧ r = some (.inl q) ∧ (q = 0 ∨ q = 1)) := by
  let QQ : Mm → Option AV → Prop := fun M r => M = mm V h ∧ r = some (.inl q) ∧ (q = 0 ∨ q = 1)
  show Ok X (d + 1) 152 0 ([some (.inl v0), some (.inl v1), some (.inl v2)], [], mm V h) QQ
  have JN1 : Ok X (d + 1) 152 4 ([some (.inl v0), some (.inl v1), some (.inl v2)], [.inl (if v0 < v1 then 0 else (if v2 < v0 then 0 else 1 : Int) : Int)], mm V h) QQ := by
    have hq : ((if v0 < v1 then 0 else (if v2 < v0 then 0 else 1 : Int) : Int)) = q := hf
    subst hq
    have hz : ((if v0 < v1 then 0 else (if v2 < v0 then 0 else 1 : Int) : Int) : Int) = 0 ∨ ((if v0 < v1 then 0 else (if v2 < v0 then 0 else 1 : Int) : Int) : Int) = 1 := by
      first | exact Or.inl rfl | exact Or.inr rfl | assumption | (repeat' split) <;> first | exact Or.inl rfl | exact Or.inr rfl | assumption
    refine ok_zreturn (L := [some (.inl v0), some (.inl v1), some (.inl v2)]) (M := mm V h) (x := (if v0 < v1 then 0 else (if v2 < v0 then 0 else 1 : Int) : Int)) rfl rfl hz ?_
    exact ⟨rfl, rfl, hz⟩
  clear hf
  refine ok_ic_lt (x := v0) (u := v1) (L := [some (.inl v0), some (.inl v1), some (.inl v2)]) (S := []) (M := mm V h) rfl rfl (fun c2 => ?_) (fun c2 => ?_)
  ·
    simp only [if_pos c2] at JN1
    refine ok_thru (L := [some (.inl v0), some (.inl v1), some (.inl v2)]) (S := [.inl 0]) (M := mm V h) rfl rfl ?_
    first | exact JN1 | (simp only [if_pos c2]; exact JN1)
  ·
    simp only [if_neg (Int.not_lt.mpr c2)] at JN1
    refine ok_ic_gt (x := v0) (u := v2) (L := [some (.inl v0), some (.inl v1), some (.inl v2)]) (S := []) (M := mm V h) rfl rfl (fun c3 => ?_) (fun c3 => ?_)
    ·
      simp only [if_pos c3] at JN1
      refine ok_thru (L := [some (.inl v0), some (.inl v1), some (.inl v2)]) (S := [.inl 0]) (M := mm V h) rfl rfl ?_
      first | exact JN1 | (simp only [if_neg (Int.not_lt.mpr c2), if_pos c3]; exact JN1)
    ·
      simp only [if_neg (Int.not_lt.mpr c3)] at JN1
      refine ok_goto (L := [some (.inl v0), some (.inl v1), some (.inl v2)]) (S := [.inl 1]) (M := mm V h) rfl rfl ?_
      first | exact JN1 | (simp only [if_neg (Int.not_lt.mpr c2), if_neg (Int.not_lt.mpr c3)]; exact JN1)
def f_Mo_section (V : VV) (v1 : Int) (v2 : Int) : Option (VV × Int) := if (f_Mo_isIn V v1 10 500) = 0 then some (V, (-1)) else if (f_Mo_isIn V v2 0 60) = 0 then some (V, (-1)) else if (V 62 0) = 12 then some (V, (-1)) else if 0 ≤ (V 62 0) ∧ (V 62 0) < (12 : Int) then if 0 ≤ (V 62 0) ∧ (V 62 0) < (12 : Int) then some (up (up (up V 63 ((V 62 0).toNat) v1) 64 ((V 62 0).toNat) v2) 62 0 (w32 ((V 62 0) + 1)), w32 ((w32 ((V 62 0) + 1)) - 1)) else none else none
set_option maxRecDepth 20000 in
set_option maxHeartbeats 4000000 in
theorem s_Mo_section {X : Xs} {d : Nat} {V : VV} {h : HP} {v1 : Int} {v2 : Int} {q : VV × Int} (hf : f_Mo_section V v1 v2 = some q) : Ok X (d + 2) 151 0 ([some (.inr (.inr (.inl 63))), some (.inl v1), some (.inl v2)], [], mm V h) (fun M r => M = mm q.1 h ∧ r = some (.inl q.2)) := by
  let QQ : Mm → Option AV → Prop := fun M r => M = mm q.1 h ∧ r = some (.inl q.2)
  show Ok X (d + 2) 151 0 ([some (.inr (.inr (.inl 63))), some (.inl v1), some (.inl v2)], [], mm V h) QQ
  refine ok_callA (L := [some (.inr (.inr (.inl 63))), some (.inl v1), some (.inl v2)]) (M := mm V h) (args := [.inl v1, .inl 10, .inl 500]) (rest := []) (y2 := 152) rfl rfl rfl (Or.inr (Or.inl rfl)) rfl rfl (Nat.le_of_ble_eq_true rfl) rfl rfl (Nat.le_of_ble_eq_true rfl) (Nat.le_of_ble_eq_true rfl) (s_Mo_isIn rfl) ?_
  rintro _ _ ⟨rfl, rfl, hz1⟩
  refine ok_if_eq (x := f_Mo_isIn V v1 10 500) (L := [some (.inr (.inr (.inl 63))), some (.inl v1), some (.inl v2)]) (S := []) (M := mm V h) rfl rfl (fun c2 => ?_) (fun c2 => ?_)
  ·
    replace hf := (if_pos c2).symm.trans hf
    obtain rfl := Option.some.inj hf
    refine ok_ireturn (L := [some (.inr (.inr (.inl 63))), some (.inl v1), some (.inl v2)]) (M := mm V h) (x := (-1)) rfl rfl ?_
    exact ⟨rfl, rfl⟩
  ·
    replace hf := (if_neg c2).symm.trans hf
    refine ok_callA (L := [some (.inr (.inr (.inl 63))), some (.inl v1), some (.inl v2)]) (M := mm V h) (args := [.inl v2, .inl 0, .inl 60]) (rest := []) (y2 := 152) rfl rfl rfl (Or.inr (Or.inl rfl)) rfl rfl (Nat.le_of_ble_eq_true rfl) rfl rfl (Nat.le_of_ble_eq_true rfl) (Nat.le_of_ble_eq_true rfl) (s_Mo_isIn rfl) ?_
    rintro _ _ ⟨rfl, rfl, hz3⟩
    refine ok_if_eq (x := f_Mo_isIn V v2 0 60) (L := [some (.inr (.inr (.inl 63))), some (.inl v1), some (.inl v2)]) (S := []) (M := mm V h) rfl rfl (fun c4 => ?_) (fun c4 => ?_)
    ·
      replace hf := (if_pos c4).symm.trans hf
      obtain rfl := Option.some.inj hf
      refine ok_ireturn (L := [some (.inr (.inr (.inl 63))), some (.inl v1), some (.inl v2)]) (M := mm V h) (x := (-1)) rfl rfl ?_
      exact ⟨rfl, rfl⟩
    ·
      replace hf := (if_neg c4).symm.trans hf
      refine ok_ic_ne (x := V 62 0) (u := 12) (L := [some (.inr (.inr (.inl 63))), some (.inl v1), some (.inl v2)]) (S := []) (M := mm V h) rfl rfl (fun c5 => ?_) (fun c5 => ?_)
      ·
        replace hf := (if_neg c5).symm.trans hf
        by_cases c6 : 0 ≤ (V 62 0) ∧ (V 62 0) < (12 : Int)
        case neg => replace hf := (if_neg c6).symm.trans hf; cases hf
        replace hf := (if_pos c6).symm.trans hf
        refine ok_iast (i := V 62 0) (v := v1) (id := 63) (n := 12) (L := [some (.inr (.inr (.inl 63))), some (.inl v1), some (.inl v2)]) (S := []) (M := mm V h) rfl rfl rfl c6.1 c6.2 ?_
        by_cases c7 : 0 ≤ (V 62 0) ∧ (V 62 0) < (12 : Int)
        case neg => replace hf := (if_neg c7).symm.trans hf; cases hf
        replace hf := (if_pos c7).symm.trans hf
        refine ok_iast (i := V 62 0) (v := v2) (id := 64) (n := 12) (L := [some (.inr (.inr (.inl 63))), some (.inl v1), some (.inl v2)]) (S := []) (M := mm (up V 63 ((V 62 0).toNat) v1) h) rfl rfl rfl c7.1 c7.2 ?_
        obtain rfl := Option.some.inj hf
        refine ok_ireturn (L := [some (.inr (.inr (.inl 63))), some (.inl v1), some (.inl v2)]) (M := mm (up (up (up V 63 ((V 62 0).toNat) v1) 64 ((V 62 0).toNat) v2) 62 0 (w32 ((V 62 0) + 1))) h) (x := w32 ((w32 ((V 62 0) + 1)) - 1)) rfl rfl ?_
        exact ⟨rfl, rfl⟩
      ·
        replace hf := (if_pos c5).symm.trans hf
        obtain rfl := Option.some.inj hf
        refine ok_ireturn (L := [some (.inr (.inr (.inl 63))), some (.inl v1), some (.inl v2)]) (M := mm V h) (x := (-1)) rfl rfl ?_
        exact ⟨rfl, rfl⟩
def f_Mo_even (V : VV) (v1 : Int) (v2 : Int) (v3 : Int) (v4 : Int) (v5 : Int) : VV × Int := if (f_Mo_isIn V v1 20 120) = 0 then (V, 0) else if (f_Mo_isIn V v2 0 9) = 0 then (V, 0) else if (f_Mo_isIn V v3 0 20) = 0 then (V, 0) else if (f_Mo_isIn V v4 1 9) = 0 then (V, 0) else if (f_Mo_isIn V v5 1 9) = 0 then (V, 0) else (up (up (up (up (up V 62 3 v1) 62 4 v2) 62 5 v3) 62 6 v4) 62 7 v5, 1)
set_option maxRecDepth 20000 in
set_option maxHeartbeats 4000000 in
theorem s_Mo_even {X : Xs} {d : Nat} {V : VV} {h : HP} {v1 : Int} {v2 : Int} {v3 : Int} {v4 : Int} {v5 : Int} {q : VV × Int} (hf : f_Mo_even V v1 v2 v3 v4 v5 = q) : Ok X (d + 2) 153 0 ([some (.inr (.inr (.inl 63))), some (.inl v1), some (.inl v2), some (.inl v3), some (.inl v4), some (.inl v5)], [], mm V h) (fun M r => M = mm q.1 h ∧ r = some (.inl q.2) ∧ (q.2 = 0 ∨ q.2 = 1)) := by
  let QQ : Mm → Option AV → Prop := fun M r => M = mm q.1 h ∧ r = some (.inl q.2) ∧ (q.2 = 0 ∨ q.2 = 1)
  show Ok X (d + 2) 153 0 ([some (.inr (.inr (.inl 63))), some (.inl v1), some (.inl v2), some (.inl v3), some (.inl v4), some (.inl v5)], [], mm V h) QQ
  refine ok_callA (L := [some (.inr (.inr (.inl 63))), some (.inl v1), some (.inl v2), some (.inl v3), some (.inl v4), some (.inl v5)]) (M := mm V h) (args := [.inl v1, .inl 20, .inl 120]) (rest := []) (y2 := 152) rfl rfl rfl (Or.inr (Or.inl rfl)) rfl rfl (Nat.le_of_ble_eq_true rfl) rfl rfl (Nat.le_of_ble_eq_true rfl) (Nat.le_of_ble_eq_true rfl) (s_Mo_isIn rfl) ?_
  rintro _ _ ⟨rfl, rfl, hz1⟩
  refine ok_if_eq (x := f_Mo_isIn V v1 20 120) (L := [some (.inr (.inr (.inl 63))), some (.inl v1), some (.inl v2), some (.inl v3), some (.inl v4), some (.inl v5)]) (S := []) (M := mm V h) rfl rfl (fun c2 => ?_) (fun c2 => ?_)
  ·
    replace hf := (if_pos c2).symm.trans hf
    have hq : ((V, 0)) = q := hf
    subst hq
    have hz : (0 : Int) = 0 ∨ (0 : Int) = 1 := by
      first | exact Or.inl rfl | exact Or.inr rfl | assumption | (repeat' split) <;> first | exact Or.inl rfl | exact Or.inr rfl | assumption
    refine ok_zreturn (L := [some (.inr (.inr (.inl 63))), some (.inl v1), some (.inl v2), some (.inl v3), some (.inl v4), some (.inl v5)]) (M := mm V h) (x := 0) rfl rfl hz ?_
    exact ⟨rfl, rfl, hz⟩
  ·
    replace hf := (if_neg c2).symm.trans hf
    refine ok_callA (L := [some (.inr (.inr (.inl 63))), some (.inl v1), some (.inl v2), some (.inl v3), some (.inl v4), some (.inl v5)]) (M := mm V h) (args := [.inl v2, .inl 0, .inl 9]) (rest := []) (y2 := 152) rfl rfl rfl (Or.inr (Or.inl rfl)) rfl rfl (Nat.le_of_ble_eq_true rfl) rfl rfl (Nat.le_of_ble_eq_true rfl) (Nat.le_of_ble_eq_true rfl) (s_Mo_isIn rfl) ?_
    rintro _ _ ⟨rfl, rfl, hz3⟩
    refine ok_if_eq (x := f_Mo_isIn V v2 0 9) (L := [some (.inr (.inr (.inl 63))), some (.inl v1), some (.inl v2), some (.inl v3), some (.inl v4), some (.inl v5)]) (S := []) (M := mm V h) rfl rfl (fun c4 => ?_) (fun c4 => ?_)
    ·
      replace hf := (if_pos c4).symm.trans hf
      have hq : ((V, 0)) = q := hf
      subst hq
      have hz : (0 : Int) = 0 ∨ (0 : Int) = 1 := by
        first | exact Or.inl rfl | exact Or.inr rfl | assumption | (repeat' split) <;> first | exact Or.inl rfl | exact Or.inr rfl | assumption
      refine ok_zreturn (L := [some (.inr (.inr (.inl 63))), some (.inl v1), some (.inl v2), some (.inl v3), some (.inl v4), some (.inl v5)]) (M := mm V h) (x := 0) rfl rfl hz ?_
      exact ⟨rfl, rfl, hz⟩
    ·
      replace hf := (if_neg c4).symm.trans hf
      refine ok_callA (L := [some (.inr (.inr (.inl 63))), some (.inl v1), some (.inl v2), some (.inl v3), some (.inl v4), some (.inl v5)]) (M := mm V h) (args := [.inl v3, .inl 0, .inl 20]) (rest := []) (y2 := 152) rfl rfl rfl (Or.inr (Or.inl rfl)) rfl rfl (Nat.le_of_ble_eq_true rfl) rfl rfl (Nat.le_of_ble_eq_true rfl) (Nat.le_of_ble_eq_true rfl) (s_Mo_isIn rfl) ?_
      rintro _ _ ⟨rfl, rfl, hz5⟩
      refine ok_if_eq (x := f_Mo_isIn V v3 0 20) (L := [some (.inr (.inr (.inl 63))), some (.inl v1), some (.inl v2), some (.inl v3), some (.inl v4), some (.inl v5)]) (S := []) (M := mm V h) rfl rfl (fun c6 => ?_) (fun c6 => ?_)
      ·
        replace hf := (if_pos c6).symm.trans hf
        have hq : ((V, 0)) = q := hf
        subst hq
        have hz : (0 : Int) = 0 ∨ (0 : Int) = 1 := by
          first | exact Or.inl rfl | exact Or.inr rfl | assumption | (repeat' split) <;> first | exact Or.inl rfl | exact Or.inr rfl | assumption
        refine ok_zreturn (L := [some (.inr (.inr (.inl 63))), some (.inl v1), some (.inl v2), some (.inl v3), some (.inl v4), some (.inl v5)]) (M := mm V h) (x := 0) rfl rfl hz ?_
        exact ⟨rfl, rfl, hz⟩
      ·
        replace hf := (if_neg c6).symm.trans hf
        refine ok_callA (L := [some (.inr (.inr (.inl 63))), some (.inl v1), some (.inl v2), some (.inl v3), some (.inl v4), some (.inl v5)]) (M := mm V h) (args := [.inl v4, .inl 1, .inl 9]) (rest := []) (y2 := 152) rfl rfl rfl (Or.inr (Or.inl rfl)) rfl rfl (Nat.le_of_ble_eq_true rfl) rfl rfl (Nat.le_of_ble_eq_true rfl) (Nat.le_of_ble_eq_true rfl) (s_Mo_isIn rfl) ?_
        rintro _ _ ⟨rfl, rfl, hz7⟩
        refine ok_if_eq (x := f_Mo_isIn V v4 1 9) (L := [some (.inr (.inr (.inl 63))), some (.inl v1), some (.inl v2), some (.inl v3), some (.inl v4), some (.inl v5)]) (S := []) (M := mm V h) rfl rfl (fun c8 => ?_) (fun c8 => ?_)
        ·
          replace hf := (if_pos c8).symm.trans hf
          have hq : ((V, 0)) = q := hf
          subst hq
          have hz : (0 : Int) = 0 ∨ (0 : Int) = 1 := by
            first | exact Or.inl rfl | exact Or.inr rfl | assumption | (repeat' split) <;> first | exact Or.inl rfl | exact Or.inr rfl | assumption
          refine ok_zreturn (L := [some (.inr (.inr (.inl 63))), some (.inl v1), some (.inl v2), some (.inl v3), some (.inl v4), some (.inl v5)]) (M := mm V h) (x := 0) rfl rfl hz ?_
          exact ⟨rfl, rfl, hz⟩
        ·
          replace hf := (if_neg c8).symm.trans hf
          refine ok_callA (L := [some (.inr (.inr (.inl 63))), some (.inl v1), some (.inl v2), some (.inl v3), some (.inl v4), some (.inl v5)]) (M := mm V h) (args := [.inl v5, .inl 1, .inl 9]) (rest := []) (y2 := 152) rfl rfl rfl (Or.inr (Or.inl rfl)) rfl rfl (Nat.le_of_ble_eq_true rfl) rfl rfl (Nat.le_of_ble_eq_true rfl) (Nat.le_of_ble_eq_true rfl) (s_Mo_isIn rfl) ?_
          rintro _ _ ⟨rfl, rfl, hz9⟩
          refine ok_if_ne (x := f_Mo_isIn V v5 1 9) (L := [some (.inr (.inr (.inl 63))), some (.inl v1), some (.inl v2), some (.inl v3), some (.inl v4), some (.inl v5)]) (S := []) (M := mm V h) rfl rfl (fun c10 => ?_) (fun c10 => ?_)
          ·
            replace hf := (if_neg c10).symm.trans hf
            have hq : ((up (up (up (up (up V 62 3 v1) 62 4 v2) 62 5 v3) 62 6 v4) 62 7 v5, 1)) = q := hf
            subst hq
            have hz : (1 : Int) = 0 ∨ (1 : Int) = 1 := by
              first | exact Or.inl rfl | exact Or.inr rfl | assumption | (repeat' split) <;> first | exact Or.inl rfl | exact Or.inr rfl | assumption
            refine ok_zreturn (L := [some (.inr (.inr (.inl 63))), some (.inl v1), some (.inl v2), some (.inl v3), some (.inl v4), some (.inl v5)]) (M := mm (up (up (up (up (up V 62 3 v1) 62 4 v2) 62 5 v3) 62 6 v4) 62 7 v5) h) (x := 1) rfl rfl hz ?_
            exact ⟨rfl, rfl, hz⟩
          ·
            replace hf := (if_pos c10).symm.trans hf
            have hq : ((V, 0)) = q := hf
            subst hq
            have hz : (0 : Int) = 0 ∨ (0 : Int) = 1 := by
              first | exact Or.inl rfl | exact Or.inr rfl | assumption | (repeat' split) <;> first | exact Or.inl rfl | exact Or.inr rfl | assumption
            refine ok_zreturn (L := [some (.inr (.inr (.inl 63))), some (.inl v1), some (.inl v2), some (.inl v3), some (.inl v4), some (.inl v5)]) (M := mm V h) (x := 0) rfl rfl hz ?_
            exact ⟨rfl, rfl, hz⟩
def f_Mo_costOf (V : VV) (v1 : Int) (v2 : Int) : Option (Int) := if 0 ≤ v1 ∧ v1 < (12 : Int) then if v2 < (w32 ((V 64 v1.toNat) - (V 62 5))) then some 1000000 else if 0 ≤ v1 ∧ v1 < (12 : Int) then if v2 < (V 64 v1.toNat) then if 0 ≤ v1 ∧ v1 < (12 : Int) then some (w32 ((V 62 6) * (w32 ((V 64 v1.toNat) - v2)))) else none else if 0 ≤ v1 ∧ v1 < (12 : Int) then some (w32 ((V 62 7) * (w32 (v2 - (V 64 v1.toNat))))) else none else none else none
set_option maxRecDepth 20000 in
set_option maxHeartbeats 4000000 in
theorem s_Mo_costOf {X : Xs} {d : Nat} {V : VV} {h : HP} {v1 : Int} {v2 : Int} {q : Int} (hf : f_Mo_costOf V v1 v2 = some q) : Ok X (d + 1) 156 0 ([some (.inr (.inr (.inl 63))), some (.inl v1), some (.inl v2)], [], mm V h) (fun M r => M = mm V h ∧ r = some (.inl q)) := by
  let QQ : Mm → Option AV → Prop := fun M r => M = mm V h ∧ r = some (.inl q)
  show Ok X (d + 1) 156 0 ([some (.inr (.inr (.inl 63))), some (.inl v1), some (.inl v2)], [], mm V h) QQ
  by_cases c1 : 0 ≤ v1 ∧ v1 < (12 : Int)
  case neg => replace hf := (if_neg c1).symm.trans hf; cases hf
  replace hf := (if_pos c1).symm.trans hf
  refine ok_iald (i := v1) (id := 64) (n := 12) (L := [some (.inr (.inr (.inl 63))), some (.inl v1), some (.inl v2)]) (S := [.inl v2]) (M := mm V h) rfl rfl rfl c1.1 c1.2 ?_
  refine ok_ic_ge (x := v2) (u := w32 ((V 64 v1.toNat) - (V 62 5))) (L := [some (.inr (.inr (.inl 63))), some (.inl v1), some (.inl v2)]) (S := []) (M := mm V h) rfl rfl (fun c2 => ?_) (fun c2 => ?_)
  ·
    replace hf := (if_neg (Int.not_lt.mpr c2)).symm.trans hf
    by_cases c3 : 0 ≤ v1 ∧ v1 < (12 : Int)
    case neg => replace hf := (if_neg c3).symm.trans hf; cases hf
    replace hf := (if_pos c3).symm.trans hf
    refine ok_iald (i := v1) (id := 64) (n := 12) (L := [some (.inr (.inr (.inl 63))), some (.inl v1), some (.inl v2)]) (S := [.inl v2]) (M := mm V h) rfl rfl rfl c3.1 c3.2 ?_
    refine ok_ic_ge (x := v2) (u := V 64 v1.toNat) (L := [some (.inr (.inr (.inl 63))), some (.inl v1), some (.inl v2)]) (S := []) (M := mm V h) rfl rfl (fun c4 => ?_) (fun c4 => ?_)
    ·
      replace hf := (if_neg (Int.not_lt.mpr c4)).symm.trans hf
      by_cases c5 : 0 ≤ v1 ∧ v1 < (12 : Int)
      case neg => replace hf := (if_neg c5).symm.trans hf; cases hf
      replace hf := (if_pos c5).symm.trans hf
      refine ok_iald (i := v1) (id := 64) (n := 12) (L := [some (.inr (.inr (.inl 63))), some (.inl v1), some (.inl v2)]) (S := [.inl v2, .inl (V 62 7)]) (M := mm V h) rfl rfl rfl c5.1 c5.2 ?_
      refine ok_thru (L := [some (.inr (.inr (.inl 63))), some (.inl v1), some (.inl v2)]) (S := [.inl (w32 ((V 62 7) * (w32 (v2 - (V 64 v1.toNat)))))]) (M := mm V h) rfl rfl ?_
      obtain rfl := Option.some.inj hf
      refine ok_ireturn (L := [some (.inr (.inr (.inl 63))), some (.inl v1), some (.inl v2)]) (M := mm V h) (x := w32 ((V 62 7) * (w32 (v2 - (V 64 v1.toNat))))) rfl rfl ?_
      exact ⟨rfl, rfl⟩
    ·
      replace hf := (if_pos c4).symm.trans hf
      by_cases c6 : 0 ≤ v1 ∧ v1 < (12 : Int)
      case neg => replace hf := (if_neg c6).symm.trans hf; cases hf
      replace hf := (if_pos c6).symm.trans hf
      refine ok_iald (i := v1) (id := 64) (n := 12) (L := [some (.inr (.inr (.inl 63))), some (.inl v1), some (.inl v2)]) (S := [.inl (V 62 6)]) (M := mm V h) rfl rfl rfl c6.1 c6.2 ?_
      refine ok_goto (L := [some (.inr (.inr (.inl 63))), some (.inl v1), some (.inl v2)]) (S := [.inl (w32 ((V 62 6) * (w32 ((V 64 v1.toNat) - v2))))]) (M := mm V h) rfl rfl ?_
      obtain rfl := Option.some.inj hf
      refine ok_ireturn (L := [some (.inr (.inr (.inl 63))), some (.inl v1), some (.inl v2)]) (M := mm V h) (x := w32 ((V 62 6) * (w32 ((V 64 v1.toNat) - v2)))) rfl rfl ?_
      exact ⟨rfl, rfl⟩
  ·
    replace hf := (if_pos c2).symm.trans hf
    refine ok_goto (L := [some (.inr (.inr (.inl 63))), some (.inl v1), some (.inl v2)]) (S := [.inl 1000000]) (M := mm V h) rfl rfl ?_
    obtain rfl := Option.some.inj hf
    refine ok_ireturn (L := [some (.inr (.inr (.inl 63))), some (.inl v1), some (.inl v2)]) (M := mm V h) (x := 1000000) rfl rfl ?_
    exact ⟨rfl, rfl⟩
def f_Mo_restOf_10 (k3 : VV → Int → Int → Int → Int → (Option (Int))) (V : VV) (v1 : Int) (v2 : Int) (v3 : Int) (v4 : Int) : Option (Int) := k3 V v1 v2 v3 (w32 (v4 + 1))
set_option maxRecDepth 20000 in
set_option maxHeartbeats 4000000 in
theorem s_Mo_restOf_10 {X : Xs} {d : Nat} {k3 : VV → Int → Int → Int → Int → (Option (Int))} {V : VV} {h : HP} {v1 : Int} {v2 : Int} {v3 : Int} {v4 : Int} {q : Int} (hf : f_Mo_restOf_10 k3 V v1 v2 v3 v4 = some q) (K3 : ∀ (v1 : Int) (v2 : Int) (v3 : Int) (v4 : Int), k3 V v1 v2 v3 v4 = some q → Ok X (d + 2) 157 3 ([some (.inr (.inr (.inl 63))), some (.inl v1), some (.inl v2), some (.inl v3), some (.inl v4)], [], mm V h) (fun M r => M = mm V h ∧ r = some (.inl q))) : Ok X (d + 2) 157 10 ([some (.inr (.inr (.inl 63))), some (.inl v1), some (.inl v2), some (.inl v3), some (.inl v4)], [], mm V h) (fun M r => M = mm V h ∧ r = some (.inl q)) := by
  let QQ : Mm → Option AV → Prop := fun M r => M = mm V h ∧ r = some (.inl q)
  show Ok X (d + 2) 157 10 ([some (.inr (.inr (.inl 63))), some (.inl v1), some (.inl v2), some (.inl v3), some (.inl v4)], [], mm V h) QQ
  refine ok_goto (L := [some (.inr (.inr (.inl 63))), some (.inl v1), some (.inl v2), some (.inl v3), some (.inl (w32 (v4 + 1)))]) (S := []) (M := mm V h) rfl rfl ?_
  exact K3 v1 v2 v3 (w32 (v4 + 1)) hf
def f_Mo_restOf_3 : Nat → VV → Int → Int → Int → Int → (Option (Int))
  | 0, _, _, _, _, _ => none
  | n + 1, V, v1, v2, v3, v4 => if (w32 (v2 + (V 62 4))) < v4 then some v3 else if (f_Mo_isIn V v4 0 60) = 0 then f_Mo_restOf_10 (f_Mo_restOf_3 n) V v1 v2 v3 v4 else if 0 ≤ (w32 ((w32 (61 * (w32 (v1 + 1)))) + v4)) ∧ (w32 ((w32 (61 * (w32 (v1 + 1)))) + v4)) < (732 : Int) then if (V 67 ((w32 ((w32 (61 * (w32 (v1 + 1)))) + v4)).toNat)) < v3 then if 0 ≤ (w32 ((w32 (61 * (w32 (v1 + 1)))) + v4)) ∧ (w32 ((w32 (61 * (w32 (v1 + 1)))) + v4)) < (732 : Int) then f_Mo_restOf_10 (f_Mo_restOf_3 n) V v1 v2 (V 67 ((w32 ((w32 (61 * (w32 (v1 + 1)))) + v4)).toNat)) v4 else none else f_Mo_restOf_10 (f_Mo_restOf_3 n) V v1 v2 v3 v4 else none
set_option maxRecDepth 20000 in
set_option maxHeartbeats 4000000 in
theorem s_Mo_restOf_3_n {X : Xs} {d : Nat} {V : VV} {h : HP} {q : Int} : ∀ (n : Nat) (v1 : Int) (v2 : Int) (v3 : Int) (v4 : Int), f_Mo_restOf_3 n V v1 v2 v3 v4 = some q → Ok X (d + 2) 157 3 ([some (.inr (.inr (.inl 63))), some (.inl v1), some (.inl v2), some (.inl v3), some (.inl v4)], [], mm V h) (fun M r => M = mm V h ∧ r = some (.inl q)) := by
  intro n
  induction n with
  | zero => intro v1 v2 v3 v4 hf; cases hf
  | succ n ih =>
    intro v1 v2 v3 v4 hf
    let QQ : Mm → Option AV → Prop := fun M r => M = mm V h ∧ r = some (.inl q)
    show Ok X (d + 2) 157 3 ([some (.inr (.inr (.inl 63))), some (.inl v1), some (.inl v2), some (.inl v3), some (.inl v4)], [], mm V h) QQ
    refine ok_ic_gt (x := v4) (u := w32 (v2 + (V 62 4))) (L := [some (.inr (.inr (.inl 63))), some (.inl v1), some (.inl v2), some (.inl v3), some (.inl v4)]) (S := []) (M := mm V h) rfl rfl (fun c1 => ?_) (fun c1 => ?_)
    ·
      replace hf := (if_pos c1).symm.trans hf
      obtain rfl := Option.some.inj hf
      refine ok_ireturn (L := [some (.inr (.inr (.inl 63))), some (.inl v1), some (.inl v2), some (.inl v3), some (.inl v4)]) (M := mm V h) (x := v3) rfl rfl ?_
      exact ⟨rfl, rfl⟩
    ·
      replace hf := (if_neg (Int.not_lt.mpr c1)).symm.trans hf
      refine ok_callA (L := [some (.inr (.inr (.inl 63))), some (.inl v1), some (.inl v2), some (.inl v3), some (.inl v4)]) (M := mm V h) (args := [.inl v4, .inl 0, .inl 60]) (rest := []) (y2 := 152) rfl rfl rfl (Or.inr (Or.inl rfl)) rfl rfl (Nat.le_of_ble_eq_true rfl) rfl rfl (Nat.le_of_ble_eq_true rfl) (Nat.le_of_ble_eq_true rfl) (s_Mo_isIn rfl) ?_
      rintro _ _ ⟨rfl, rfl, hz2⟩
      refine ok_if_eq (x := f_Mo_isIn V v4 0 60) (L := [some (.inr (.inr (.inl 63))), some (.inl v1), some (.inl v2), some (.inl v3), some (.inl v4)]) (S := []) (M := mm V h) rfl rfl (fun c3 => ?_) (fun c3 => ?_)
      ·
        replace hf := (if_pos c3).symm.trans hf
        exact s_Mo_restOf_10 hf ih
      ·
        replace hf := (if_neg c3).symm.trans hf
        by_cases c4 : 0 ≤ (w32 ((w32 (61 * (w32 (v1 + 1)))) + v4)) ∧ (w32 ((w32 (61 * (w32 (v1 + 1)))) + v4)) < (732 : Int)
        case neg => replace hf := (if_neg c4).symm.trans hf; cases hf
        replace hf := (if_pos c4).symm.trans hf
        refine ok_iald (i := w32 ((w32 (61 * (w32 (v1 + 1)))) + v4)) (id := 67) (n := 732) (L := [some (.inr (.inr (.inl 63))), some (.inl v1), some (.inl v2), some (.inl v3), some (.inl v4)]) (S := []) (M := mm V h) rfl rfl rfl c4.1 c4.2 ?_
        refine ok_ic_ge (x := V 67 ((w32 ((w32 (61 * (w32 (v1 + 1)))) + v4)).toNat)) (u := v3) (L := [some (.inr (.inr (.inl 63))), some (.inl v1), some (.inl v2), some (.inl v3), some (.inl v4)]) (S := []) (M := mm V h) rfl rfl (fun c5 => ?_) (fun c5 => ?_)
        ·
          replace hf := (if_neg (Int.not_lt.mpr c5)).symm.trans hf
          exact s_Mo_restOf_10 hf ih
        ·
          replace hf := (if_pos c5).symm.trans hf
          by_cases c6 : 0 ≤ (w32 ((w32 (61 * (w32 (v1 + 1)))) + v4)) ∧ (w32 ((w32 (61 * (w32 (v1 + 1)))) + v4)) < (732 : Int)
          case neg => replace hf := (if_neg c6).symm.trans hf; cases hf
          replace hf := (if_pos c6).symm.trans hf
          refine ok_iald (i := w32 ((w32 (61 * (w32 (v1 + 1)))) + v4)) (id := 67) (n := 732) (L := [some (.inr (.inr (.inl 63))), some (.inl v1), some (.inl v2), some (.inl v3), some (.inl v4)]) (S := []) (M := mm V h) rfl rfl rfl c6.1 c6.2 ?_
          refine ok_thru (L := [some (.inr (.inr (.inl 63))), some (.inl v1), some (.inl v2), some (.inl (V 67 ((w32 ((w32 (61 * (w32 (v1 + 1)))) + v4)).toNat))), some (.inl v4)]) (S := []) (M := mm V h) rfl rfl ?_
          exact s_Mo_restOf_10 hf ih
theorem s_Mo_restOf_3 {X : Xs} {d : Nat} {V : VV} {h : HP} {v1 : Int} {v2 : Int} {v3 : Int} {v4 : Int} {n : Nat} {q : Int} (hf : f_Mo_restOf_3 n V v1 v2 v3 v4 = some q) : Ok X (d + 2) 157 3 ([some (.inr (.inr (.inl 63))), some (.inl v1), some (.inl v2), some (.inl v3), some (.inl v4)], [], mm V h) (fun M r => M = mm V h ∧ r = some (.inl q)) :=
  s_Mo_restOf_3_n n v1 v2 v3 v4 hf
def f_Mo_restOf (V : VV) (v1 : Int) (v2 : Int) : Option (Int) := if v1 = (w32 ((V 62 0) - 1)) then some 0 else f_Mo_restOf_3 FU V v1 v2 1000000 (w32 (v2 - (V 62 4)))
set_option maxRecDepth 20000 in
set_option maxHeartbeats 4000000 in
theorem s_Mo_restOf {X : Xs} {d : Nat} {V : VV} {h : HP} {v1 : Int} {v2 : Int} {q : Int} (hf : f_Mo_restOf V v1 v2 = some q) : Ok X (d + 2) 157 0 ([some (.inr (.inr (.inl 63))), some (.inl v1), some (.inl v2), none, none], [], mm V h) (fun M r => M = mm V h ∧ r = some (.inl q)) := by
  let QQ : Mm → Option AV → Prop := fun M r => M = mm V h ∧ r = some (.inl q)
  show Ok X (d + 2) 157 0 ([some (.inr (.inr (.inl 63))), some (.inl v1), some (.inl v2), none, none], [], mm V h) QQ
  refine ok_ic_ne (x := v1) (u := w32 ((V 62 0) - 1)) (L := [some (.inr (.inr (.inl 63))), some (.inl v1), some (.inl v2), none, none]) (S := []) (M := mm V h) rfl rfl (fun c1 => ?_) (fun c1 => ?_)
  ·
    replace hf := (if_neg c1).symm.trans hf
    refine ok_thru (L := [some (.inr (.inr (.inl 63))), some (.inl v1), some (.inl v2), some (.inl 1000000), some (.inl (w32 (v2 - (V 62 4))))]) (S := []) (M := mm V h) rfl rfl ?_
    exact s_Mo_restOf_3 hf
  ·
    replace hf := (if_pos c1).symm.trans hf
    obtain rfl := Option.some.inj hf
    refine ok_ireturn (L := [some (.inr (.inr (.inl 63))), some (.inl v1), some (.inl v2), none, none]) (M := mm V h) (x := 0) rfl rfl ?_
    exact ⟨rfl, rfl⟩
def f_Mo_bestOf_10 (k1 : VV → Int → Int → Int → Int → (Option (Int))) (V : VV) (v1 : Int) (v2 : Int) (v3 : Int) (v4 : Int) : Option (Int) := k1 V v1 v2 v3 (w32 (v4 + 1))
set_option maxRecDepth 20000 in
set_option maxHeartbeats 4000000 in
theorem s_Mo_bestOf_10 {X : Xs} {d : Nat} {k1 : VV → Int → Int → Int → Int → (Option (Int))} {V : VV} {h : HP} {v1 : Int} {v2 : Int} {v3 : Int} {v4 : Int} {q : Int} (hf : f_Mo_bestOf_10 k1 V v1 v2 v3 v4 = some q) (K1 : ∀ (v1 : Int) (v2 : Int) (v3 : Int) (v4 : Int), k1 V v1 v2 v3 v4 = some q → Ok X (d + 2) 158 1 ([some (.inr (.inr (.inl 63))), some (.inl v1), some (.inl v2), some (.inl v3), some (.inl v4)], [], mm V h) (fun M r => M = mm V h ∧ r = some (.inl q))) : Ok X (d + 2) 158 10 ([some (.inr (.inr (.inl 63))), some (.inl v1), some (.inl v2), some (.inl v3), some (.inl v4)], [], mm V h) (fun M r => M = mm V h ∧ r = some (.inl q)) := by
  let QQ : Mm → Option AV → Prop := fun M r => M = mm V h ∧ r = some (.inl q)
  show Ok X (d + 2) 158 10 ([some (.inr (.inr (.inl 63))), some (.inl v1), some (.inl v2), some (.inl v3), some (.inl v4)], [], mm V h) QQ
  refine ok_goto (L := [some (.inr (.inr (.inl 63))), some (.inl v1), some (.inl v2), some (.inl v3), some (.inl (w32 (v4 + 1)))]) (S := []) (M := mm V h) rfl rfl ?_
  exact K1 v1 v2 v3 (w32 (v4 + 1)) hf
def f_Mo_bestOf_9 (k1 : VV → Int → Int → Int → Int → (Option (Int))) (V : VV) (v1 : Int) (v2 : Int) (v4 : Int) : Option (Int) := f_Mo_bestOf_10 k1 V v1 v2 v4 v4
set_option maxRecDepth 20000 in
set_option maxHeartbeats 4000000 in
theorem s_Mo_bestOf_9 {X : Xs} {d : Nat} {k1 : VV → Int → Int → Int → Int → (Option (Int))} {V : VV} {h : HP} {v1 : Int} {v2 : Int} {v4 : Int} {w3 : Int} {q : Int} (hf : f_Mo_bestOf_9 k1 V v1 v2 v4 = some q) (K1 : ∀ (v1 : Int) (v2 : Int) (v3 : Int) (v4 : Int), k1 V v1 v2 v3 v4 = some q → Ok X (d + 2) 158 1 ([some (.inr (.inr (.inl 63))), some (.inl v1), some (.inl v2), some (.inl v3), some (.inl v4)], [], mm V h) (fun M r => M = mm V h ∧ r = some (.inl q))) : Ok X (d + 2) 158 9 ([some (.inr (.inr (.inl 63))), some (.inl v1), some (.inl v2), some (.inl w3), some (.inl v4)], [], mm V h) (fun M r => M = mm V h ∧ r = some (.inl q)) := by
  let QQ : Mm → Option AV → Prop := fun M r => M = mm V h ∧ r = some (.inl q)
  show Ok X (d + 2) 158 9 ([some (.inr (.inr (.inl 63))), some (.inl v1), some (.inl v2), some (.inl w3), some (.inl v4)], [], mm V h) QQ
  refine ok_thru (L := [some (.inr (.inr (.inl 63))), some (.inl v1), some (.inl v2), some (.inl v4), some (.inl v4)]) (S := []) (M := mm V h) rfl rfl ?_
  exact s_Mo_bestOf_10 hf K1
def f_Mo_bestOf_5 (k1 : VV → Int → Int → Int → Int → (Option (Int))) (V : VV) (v1 : Int) (v2 : Int) (v3 : Int) (v4 : Int) : Option (Int) := if v3 < 0 then f_Mo_bestOf_9 k1 V v1 v2 v4 else if 0 ≤ (w32 ((w32 (61 * v1)) + v4)) ∧ (w32 ((w32 (61 * v1)) + v4)) < (732 : Int) then if 0 ≤ (w32 ((w32 (61 * v1)) + v3)) ∧ (w32 ((w32 (61 * v1)) + v3)) < (732 : Int) then if (V 67 ((w32 ((w32 (61 * v1)) + v4)).toNat)) < (V 67 ((w32 ((w32 (61 * v1)) + v3)).toNat)) then f_Mo_bestOf_9 k1 V v1 v2 v4 else f_Mo_bestOf_10 k1 V v1 v2 v3 v4 else none else none
set_option maxRecDepth 20000 in
set_option maxHeartbeats 4000000 in
theorem s_Mo_bestOf_5 {X : Xs} {d : Nat} {k1 : VV → Int → Int → Int → Int → (Option (Int))} {V : VV} {h : HP} {v1 : Int} {v2 : Int} {v3 : Int} {v4 : Int} {q : Int} (hf : f_Mo_bestOf_5 k1 V v1 v2 v3 v4 = some q) (K1 : ∀ (v1 : Int) (v2 : Int) (v3 : Int) (v4 : Int), k1 V v1 v2 v3 v4 = some q → Ok X (d + 2) 158 1 ([some (.inr (.inr (.inl 63))), some (.inl v1), some (.inl v2), some (.inl v3), some (.inl v4)], [], mm V h) (fun M r => M = mm V h ∧ r = some (.inl q))) : Ok X (d + 2) 158 5 ([some (.inr (.inr (.inl 63))), some (.inl v1), some (.inl v2), some (.inl v3), some (.inl v4)], [], mm V h) (fun M r => M = mm V h ∧ r = some (.inl q)) := by
  let QQ : Mm → Option AV → Prop := fun M r => M = mm V h ∧ r = some (.inl q)
  show Ok X (d + 2) 158 5 ([some (.inr (.inr (.inl 63))), some (.inl v1), some (.inl v2), some (.inl v3), some (.inl v4)], [], mm V h) QQ
  refine ok_if_lt (x := v3) (L := [some (.inr (.inr (.inl 63))), some (.inl v1), some (.inl v2), some (.inl v3), some (.inl v4)]) (S := []) (M := mm V h) rfl rfl (fun c1 => ?_) (fun c1 => ?_)
  ·
    replace hf := (if_pos c1).symm.trans hf
    exact s_Mo_bestOf_9 hf K1
  ·
    replace hf := (if_neg (Int.not_lt.mpr c1)).symm.trans hf
    by_cases c2 : 0 ≤ (w32 ((w32 (61 * v1)) + v4)) ∧ (w32 ((w32 (61 * v1)) + v4)) < (732 : Int)
    case neg => replace hf := (if_neg c2).symm.trans hf; cases hf
    replace hf := (if_pos c2).symm.trans hf
    refine ok_iald (i := w32 ((w32 (61 * v1)) + v4)) (id := 67) (n := 732) (L := [some (.inr (.inr (.inl 63))), some (.inl v1), some (.inl v2), some (.inl v3), some (.inl v4)]) (S := []) (M := mm V h) rfl rfl rfl c2.1 c2.2 ?_
    by_cases c3 : 0 ≤ (w32 ((w32 (61 * v1)) + v3)) ∧ (w32 ((w32 (61 * v1)) + v3)) < (732 : Int)
    case neg => replace hf := (if_neg c3).symm.trans hf; cases hf
    replace hf := (if_pos c3).symm.trans hf
    refine ok_iald (i := w32 ((w32 (61 * v1)) + v3)) (id := 67) (n := 732) (L := [some (.inr (.inr (.inl 63))), some (.inl v1), some (.inl v2), some (.inl v3), some (.inl v4)]) (S := [.inl (V 67 ((w32 ((w32 (61 * v1)) + v4)).toNat))]) (M := mm V h) rfl rfl rfl c3.1 c3.2 ?_
    refine ok_ic_ge (x := V 67 ((w32 ((w32 (61 * v1)) + v4)).toNat)) (u := V 67 ((w32 ((w32 (61 * v1)) + v3)).toNat)) (L := [some (.inr (.inr (.inl 63))), some (.inl v1), some (.inl v2), some (.inl v3), some (.inl v4)]) (S := []) (M := mm V h) rfl rfl (fun c4 => ?_) (fun c4 => ?_)
    ·
      replace hf := (if_neg (Int.not_lt.mpr c4)).symm.trans hf
      exact s_Mo_bestOf_10 hf K1
    ·
      replace hf := (if_pos c4).symm.trans hf
      exact s_Mo_bestOf_9 hf K1
def f_Mo_bestOf_1 : Nat → VV → Int → Int → Int → Int → (Option (Int))
  | 0, _, _, _, _, _ => none
  | n + 1, V, v1, v2, v3, v4 => if v4 < 61 then if v2 < 0 then f_Mo_bestOf_5 (f_Mo_bestOf_1 n) V v1 v2 v3 v4 else if (f_Mo_isIn V v4 (w32 (v2 - (V 62 4))) (w32 (v2 + (V 62 4)))) = 0 then f_Mo_bestOf_10 (f_Mo_bestOf_1 n) V v1 v2 v3 v4 else f_Mo_bestOf_5 (f_Mo_bestOf_1 n) V v1 v2 v3 v4 else some v3
set_option maxRecDepth 20000 in
set_option maxHeartbeats 4000000 in
theorem s_Mo_bestOf_1_n {X : Xs} {d : Nat} {V : VV} {h : HP} {q : Int} : ∀ (n : Nat) (v1 : Int) (v2 : Int) (v3 : Int) (v4 : Int), f_Mo_bestOf_1 n V v1 v2 v3 v4 = some q → Ok X (d + 2) 158 1 ([some (.inr (.inr (.inl 63))), some (.inl v1), some (.inl v2), some (.inl v3), some (.inl v4)], [], mm V h) (fun M r => M = mm V h ∧ r = some (.inl q)) := by
  intro n
  induction n with
  | zero => intro v1 v2 v3 v4 hf; cases hf
  | succ n ih =>
    intro v1 v2 v3 v4 hf
    let QQ : Mm → Option AV → Prop := fun M r => M = mm V h ∧ r = some (.inl q)
    show Ok X (d + 2) 158 1 ([some (.inr (.inr (.inl 63))), some (.inl v1), some (.inl v2), some (.inl v3), some (.inl v4)], [], mm V h) QQ
    refine ok_ic_ge (x := v4) (u := 61) (L := [some (.inr (.inr (.inl 63))), some (.inl v1), some (.inl v2), some (.inl v3), some (.inl v4)]) (S := []) (M := mm V h) rfl rfl (fun c1 => ?_) (fun c1 => ?_)
    ·
      replace hf := (if_neg (Int.not_lt.mpr c1)).symm.trans hf
      obtain rfl := Option.some.inj hf
      refine ok_ireturn (L := [some (.inr (.inr (.inl 63))), some (.inl v1), some (.inl v2), some (.inl v3), some (.inl v4)]) (M := mm V h) (x := v3) rfl rfl ?_
      exact ⟨rfl, rfl⟩
    ·
      replace hf := (if_pos c1).symm.trans hf
      refine ok_if_lt (x := v2) (L := [some (.inr (.inr (.inl 63))), some (.inl v1), some (.inl v2), some (.inl v3), some (.inl v4)]) (S := []) (M := mm V h) rfl rfl (fun c2 => ?_) (fun c2 => ?_)
      ·
        replace hf := (if_pos c2).symm.trans hf
        exact s_Mo_bestOf_5 hf ih
      ·
        replace hf := (if_neg (Int.not_lt.mpr c2)).symm.trans hf
        refine ok_callA (L := [some (.inr (.inr (.inl 63))), some (.inl v1), some (.inl v2), some (.inl v3), some (.inl v4)]) (M := mm V h) (args := [.inl v4, .inl (w32 (v2 - (V 62 4))), .inl (w32 (v2 + (V 62 4)))]) (rest := []) (y2 := 152) rfl rfl rfl (Or.inr (Or.inl rfl)) rfl rfl (Nat.le_of_ble_eq_true rfl) rfl rfl (Nat.le_of_ble_eq_true rfl) (Nat.le_of_ble_eq_true rfl) (s_Mo_isIn rfl) ?_
        rintro _ _ ⟨rfl, rfl, hz3⟩
        refine ok_if_eq (x := f_Mo_isIn V v4 (w32 (v2 - (V 62 4))) (w32 (v2 + (V 62 4)))) (L := [some (.inr (.inr (.inl 63))), some (.inl v1), some (.inl v2), some (.inl v3), some (.inl v4)]) (S := []) (M := mm V h) rfl rfl (fun c4 => ?_) (fun c4 => ?_)
        ·
          replace hf := (if_pos c4).symm.trans hf
          exact s_Mo_bestOf_10 hf ih
        ·
          replace hf := (if_neg c4).symm.trans hf
          exact s_Mo_bestOf_5 hf ih
theorem s_Mo_bestOf_1 {X : Xs} {d : Nat} {V : VV} {h : HP} {v1 : Int} {v2 : Int} {v3 : Int} {v4 : Int} {n : Nat} {q : Int} (hf : f_Mo_bestOf_1 n V v1 v2 v3 v4 = some q) : Ok X (d + 2) 158 1 ([some (.inr (.inr (.inl 63))), some (.inl v1), some (.inl v2), some (.inl v3), some (.inl v4)], [], mm V h) (fun M r => M = mm V h ∧ r = some (.inl q)) :=
  s_Mo_bestOf_1_n n v1 v2 v3 v4 hf
def f_Mo_bestOf (V : VV) (v1 : Int) (v2 : Int) : Option (Int) := f_Mo_bestOf_1 FU V v1 v2 (-1) 0
set_option maxRecDepth 20000 in
set_option maxHeartbeats 4000000 in
theorem s_Mo_bestOf {X : Xs} {d : Nat} {V : VV} {h : HP} {v1 : Int} {v2 : Int} {q : Int} (hf : f_Mo_bestOf V v1 v2 = some q) : Ok X (d + 2) 158 0 ([some (.inr (.inr (.inl 63))), some (.inl v1), some (.inl v2), none, none], [], mm V h) (fun M r => M = mm V h ∧ r = some (.inl q)) := by
  let QQ : Mm → Option AV → Prop := fun M r => M = mm V h ∧ r = some (.inl q)
  show Ok X (d + 2) 158 0 ([some (.inr (.inr (.inl 63))), some (.inl v1), some (.inl v2), none, none], [], mm V h) QQ
  refine ok_thru (L := [some (.inr (.inr (.inl 63))), some (.inl v1), some (.inl v2), some (.inl (-1)), some (.inl 0)]) (S := []) (M := mm V h) rfl rfl ?_
  exact s_Mo_bestOf_1 hf
def f_Mo_find_5 (k3 : VV → Int → (Option (VV × Int))) : Nat → VV → Int → Int → (Option (VV × Int))
  | 0, _, _, _ => none
  | n + 1, V, v1, v2 => if v2 < 61 then Option.bind (f_Mo_costOf V v1 v2) (fun q2 => Option.bind (f_Mo_restOf V v1 v2) (fun q3 => if 0 ≤ (w32 ((w32 (61 * v1)) + v2)) ∧ (w32 ((w32 (61 * v1)) + v2)) < (732 : Int) then f_Mo_find_5 k3 n (up V 67 ((w32 ((w32 (61 * v1)) + v2)).toNat) (if 1000000 < (w32 (q2 + q3)) then 1000000 else w32 (q2 + q3) : Int)) v1 (w32 (v2 + 1)) else none)) else k3 V (w32 (v1 + (-1)))
set_option maxRecDepth 20000 in
set_option maxHeartbeats 4000000 in
theorem s_Mo_find_5_n {X : Xs} {d : Nat} {k3 : VV → Int → (Option (VV × Int))} {h : HP} {q : VV × Int} (K3 : ∀ (V : VV) (v1 : Int) (z2 : Option AV) (z3 : Option AV), k3 V v1 = some q → Ok X (d + 3) 155 3 ([some (.inr (.inr (.inl 63))), some (.inl v1), z2, z3], [], mm V h) (fun M r => M = mm q.1 h ∧ r = some (.inl q.2))) : ∀ (n : Nat) (V : VV) (v1 : Int) (v2 : Int) (z3 : Option AV), f_Mo_find_5 k3 n V v1 v2 = some q → Ok X (d + 3) 155 5 ([some (.inr (.inr (.inl 63))), some (.inl v1), some (.inl v2), z3], [], mm V h) (fun M r => M = mm q.1 h ∧ r = some (.inl q.2)) := by
  intro n
  induction n with
  | zero => intro V v1 v2 z3 hf; cases hf
  | succ n ih =>
    intro V v1 v2 z3 hf
    let QQ : Mm → Option AV → Prop := fun M r => M = mm q.1 h ∧ r = some (.inl q.2)
    show Ok X (d + 3) 155 5 ([some (.inr (.inr (.inl 63))), some (.inl v1), some (.inl v2), z3], [], mm V h) QQ
    refine ok_ic_ge (x := v2) (u := 61) (L := [some (.inr (.inr (.inl 63))), some (.inl v1), some (.inl v2), z3]) (S := []) (M := mm V h) rfl rfl (fun c1 => ?_) (fun c1 => ?_)
    ·
      replace hf := (if_neg (Int.not_lt.mpr c1)).symm.trans hf
      refine ok_goto (L := [some (.inr (.inr (.inl 63))), some (.inl (w32 (v1 + (-1)))), some (.inl v2), z3]) (S := []) (M := mm V h) rfl rfl ?_
      exact K3 V (w32 (v1 + (-1))) (some (.inl v2)) z3 hf
    ·
      replace hf := (if_pos c1).symm.trans hf
      obtain ⟨q2, e2, hf⟩ := obind hf
      refine ok_callA (L := [some (.inr (.inr (.inl 63))), some (.inl v1), some (.inl v2), z3]) (M := mm V h) (args := [.inr (.inr (.inl 63)), .inl v1, .inl v2]) (rest := []) (y2 := 156) rfl rfl rfl (Or.inl rfl) rfl rfl (Nat.le_of_ble_eq_true rfl) rfl rfl (Nat.le_of_ble_eq_true rfl) (Nat.le_of_ble_eq_true rfl) (s_Mo_costOf e2) ?_
      rintro _ _ ⟨rfl, rfl⟩
      obtain ⟨q3, e3, hf⟩ := obind hf
      refine ok_callA (L := [some (.inr (.inr (.inl 63))), some (.inl v1), some (.inl v2), z3]) (M := mm V h) (args := [.inr (.inr (.inl 63)), .inl v1, .inl v2]) (rest := [.inl q2]) (y2 := 157) rfl rfl rfl (Or.inl rfl) rfl rfl (Nat.le_of_ble_eq_true rfl) rfl rfl (Nat.le_of_ble_eq_true rfl) (Nat.le_of_ble_eq_true rfl) (s_Mo_restOf e3) ?_
      rintro _ _ ⟨rfl, rfl⟩
      have JN4 : Ok X (d + 3) 155 11 ([some (.inr (.inr (.inl 63))), some (.inl v1), some (.inl v2), some (.inl (w32 (q2 + q3)))], [.inl (if 1000000 < (w32 (q2 + q3)) then 1000000 else w32 (q2 + q3) : Int), .inl (w32 ((w32 (61 * v1)) + v2)), .inr (.inr (.inl 68))], mm V h) QQ := by
        by_cases c5 : 0 ≤ (w32 ((w32 (61 * v1)) + v2)) ∧ (w32 ((w32 (61 * v1)) + v2)) < (732 : Int)
        case neg => replace hf := (if_neg c5).symm.trans hf; cases hf
        replace hf := (if_pos c5).symm.trans hf
        refine ok_iast (i := w32 ((w32 (61 * v1)) + v2)) (v := (if 1000000 < (w32 (q2 + q3)) then 1000000 else w32 (q2 + q3) : Int)) (id := 67) (n := 732) (L := [some (.inr (.inr (.inl 63))), some (.inl v1), some (.inl v2), some (.inl (w32 (q2 + q3)))]) (S := []) (M := mm V h) rfl rfl rfl c5.1 c5.2 ?_
        refine ok_goto (L := [some (.inr (.inr (.inl 63))), some (.inl v1), some (.inl (w32 (v2 + 1))), some (.inl (w32 (q2 + q3)))]) (S := []) (M := mm (up V 67 ((w32 ((w32 (61 * v1)) + v2)).toNat) (if 1000000 < (w32 (q2 + q3)) then 1000000 else w32 (q2 + q3) : Int)) h) rfl rfl ?_
        exact ih (up V 67 ((w32 ((w32 (61 * v1)) + v2)).toNat) (if 1000000 < (w32 (q2 + q3)) then 1000000 else w32 (q2 + q3) : Int)) v1 (w32 (v2 + 1)) (some (.inl (w32 (q2 + q3)))) hf
      clear hf
      refine ok_ic_le (x := w32 (q2 + q3)) (u := 1000000) (L := [some (.inr (.inr (.inl 63))), some (.inl v1), some (.inl v2), some (.inl (w32 (q2 + q3)))]) (S := [.inl (w32 ((w32 (61 * v1)) + v2)), .inr (.inr (.inl 68))]) (M := mm V h) rfl rfl (fun c6 => ?_) (fun c6 => ?_)
      ·
        simp only [if_neg (Int.not_lt.mpr c6)] at JN4
        refine ok_thru (L := [some (.inr (.inr (.inl 63))), some (.inl v1), some (.inl v2), some (.inl (w32 (q2 + q3)))]) (S := [.inl (w32 (q2 + q3)), .inl (w32 ((w32 (61 * v1)) + v2)), .inr (.inr (.inl 68))]) (M := mm V h) rfl rfl ?_
        first | exact JN4 | (simp only [if_neg (Int.not_lt.mpr c6)]; exact JN4)
      ·
        simp only [if_pos c6] at JN4
        refine ok_goto (L := [some (.inr (.inr (.inl 63))), some (.inl v1), some (.inl v2), some (.inl (w32 (q2 + q3)))]) (S := [.inl 1000000, .inl (w32 ((w32 (61 * v1)) + v2)), .inr (.inr (.inl 68))]) (M := mm V h) rfl rfl ?_
        first | exact JN4 | (simp only [if_pos c6]; exact JN4)
theorem s_Mo_find_5 {X : Xs} {d : Nat} {k3 : VV → Int → (Option (VV × Int))} {h : HP} {V : VV} {v1 : Int} {v2 : Int} {z3 : Option AV} {n : Nat} {q : VV × Int} (hf : f_Mo_find_5 k3 n V v1 v2 = some q) (K3 : ∀ (V : VV) (v1 : Int) (z2 : Option AV) (z3 : Option AV), k3 V v1 = some q → Ok X (d + 3) 155 3 ([some (.inr (.inr (.inl 63))), some (.inl v1), z2, z3], [], mm V h) (fun M r => M = mm q.1 h ∧ r = some (.inl q.2))) : Ok X (d + 3) 155 5 ([some (.inr (.inr (.inl 63))), some (.inl v1), some (.inl v2), z3], [], mm V h) (fun M r => M = mm q.1 h ∧ r = some (.inl q.2)) :=
  s_Mo_find_5_n K3 n V v1 v2 z3 hf
def f_Mo_find_15 : Nat → VV → Int → Int → (Option (VV × Int))
  | 0, _, _, _ => none
  | n + 1, V, v1, v2 => if v2 < (V 62 0) then Option.bind (f_Mo_bestOf V v2 v1) (fun q7 => if 0 ≤ v2 ∧ v2 < (12 : Int) then f_Mo_find_15 n (up V 68 v2.toNat q7) q7 (w32 (v2 + 1)) else none) else if 0 ≤ (V 68 0) ∧ (V 68 0) < (732 : Int) then if (V 67 ((V 68 0).toNat)) < 1000000 then if 0 ≤ (V 68 0) ∧ (V 68 0) < (732 : Int) then some (V, V 67 ((V 68 0).toNat)) else none else some (V, (-1)) else none
set_option maxRecDepth 20000 in
set_option maxHeartbeats 4000000 in
theorem s_Mo_find_15_n {X : Xs} {d : Nat} {h : HP} {q : VV × Int} : ∀ (n : Nat) (V : VV) (v1 : Int) (v2 : Int) (z3 : Option AV), f_Mo_find_15 n V v1 v2 = some q → Ok X (d + 3) 155 15 ([some (.inr (.inr (.inl 63))), some (.inl v1), some (.inl v2), z3], [], mm V h) (fun M r => M = mm q.1 h ∧ r = some (.inl q.2)) := by
  intro n
  induction n with
  | zero => intro V v1 v2 z3 hf; cases hf
  | succ n ih =>
    intro V v1 v2 z3 hf
    let QQ : Mm → Option AV → Prop := fun M r => M = mm q.1 h ∧ r = some (.inl q.2)
    show Ok X (d + 3) 155 15 ([some (.inr (.inr (.inl 63))), some (.inl v1), some (.inl v2), z3], [], mm V h) QQ
    refine ok_ic_ge (x := v2) (u := V 62 0) (L := [some (.inr (.inr (.inl 63))), some (.inl v1), some (.inl v2), z3]) (S := []) (M := mm V h) rfl rfl (fun c1 => ?_) (fun c1 => ?_)
    ·
      replace hf := (if_neg (Int.not_lt.mpr c1)).symm.trans hf
      refine ok_iald (i := 0) (id := 68) (n := 12) (L := [some (.inr (.inr (.inl 63))), some (.inl v1), some (.inl v2), z3]) (S := [.inr (.inr (.inl 68))]) (M := mm V h) rfl rfl rfl (by decide) (by decide) ?_
      by_cases c3 : 0 ≤ (V 68 0) ∧ (V 68 0) < (732 : Int)
      case neg => replace hf := (if_neg c3).symm.trans hf; cases hf
      replace hf := (if_pos c3).symm.trans hf
      refine ok_iald (i := V 68 0) (id := 67) (n := 732) (L := [some (.inr (.inr (.inl 63))), some (.inl v1), some (.inl v2), z3]) (S := []) (M := mm V h) rfl rfl rfl c3.1 c3.2 ?_
      refine ok_ic_lt (x := V 67 ((V 68 0).toNat)) (u := 1000000) (L := [some (.inr (.inr (.inl 63))), some (.inl v1), some (.inl v2), z3]) (S := []) (M := mm V h) rfl rfl (fun c4 => ?_) (fun c4 => ?_)
      ·
        replace hf := (if_pos c4).symm.trans hf
        refine ok_iald (i := 0) (id := 68) (n := 12) (L := [some (.inr (.inr (.inl 63))), some (.inl v1), some (.inl v2), z3]) (S := [.inr (.inr (.inl 68))]) (M := mm V h) rfl rfl rfl (by decide) (by decide) ?_
        by_cases c6 : 0 ≤ (V 68 0) ∧ (V 68 0) < (732 : Int)
        case neg => replace hf := (if_neg c6).symm.trans hf; cases hf
        replace hf := (if_pos c6).symm.trans hf
        refine ok_iald (i := V 68 0) (id := 67) (n := 732) (L := [some (.inr (.inr (.inl 63))), some (.inl v1), some (.inl v2), z3]) (S := []) (M := mm V h) rfl rfl rfl c6.1 c6.2 ?_
        obtain rfl := Option.some.inj hf
        refine ok_ireturn (L := [some (.inr (.inr (.inl 63))), some (.inl v1), some (.inl v2), z3]) (M := mm V h) (x := V 67 ((V 68 0).toNat)) rfl rfl ?_
        exact ⟨rfl, rfl⟩
      ·
        replace hf := (if_neg (Int.not_lt.mpr c4)).symm.trans hf
        refine ok_goto (L := [some (.inr (.inr (.inl 63))), some (.inl v1), some (.inl v2), z3]) (S := [.inl (-1)]) (M := mm V h) rfl rfl ?_
        obtain rfl := Option.some.inj hf
        refine ok_ireturn (L := [some (.inr (.inr (.inl 63))), some (.inl v1), some (.inl v2), z3]) (M := mm V h) (x := (-1)) rfl rfl ?_
        exact ⟨rfl, rfl⟩
    ·
      replace hf := (if_pos c1).symm.trans hf
      obtain ⟨q7, e7, hf⟩ := obind hf
      refine ok_callA (L := [some (.inr (.inr (.inl 63))), some (.inl v1), some (.inl v2), z3]) (M := mm V h) (args := [.inr (.inr (.inl 63)), .inl v2, .inl v1]) (rest := []) (y2 := 158) rfl rfl rfl (Or.inl rfl) rfl rfl (Nat.le_of_ble_eq_true rfl) rfl rfl (Nat.le_of_ble_eq_true rfl) (Nat.le_of_ble_eq_true rfl) (s_Mo_bestOf e7) ?_
      rintro _ _ ⟨rfl, rfl⟩
      by_cases c8 : 0 ≤ v2 ∧ v2 < (12 : Int)
      case neg => replace hf := (if_neg c8).symm.trans hf; cases hf
      replace hf := (if_pos c8).symm.trans hf
      refine ok_iast (i := v2) (v := q7) (id := 68) (n := 12) (L := [some (.inr (.inr (.inl 63))), some (.inl q7), some (.inl v2), z3]) (S := []) (M := mm V h) rfl rfl rfl c8.1 c8.2 ?_
      refine ok_goto (L := [some (.inr (.inr (.inl 63))), some (.inl q7), some (.inl (w32 (v2 + 1))), z3]) (S := []) (M := mm (up V 68 v2.toNat q7) h) rfl rfl ?_
      exact ih (up V 68 v2.toNat q7) q7 (w32 (v2 + 1)) z3 hf
theorem s_Mo_find_15 {X : Xs} {d : Nat} {h : HP} {V : VV} {v1 : Int} {v2 : Int} {z3 : Option AV} {n : Nat} {q : VV × Int} (hf : f_Mo_find_15 n V v1 v2 = some q) : Ok X (d + 3) 155 15 ([some (.inr (.inr (.inl 63))), some (.inl v1), some (.inl v2), z3], [], mm V h) (fun M r => M = mm q.1 h ∧ r = some (.inl q.2)) :=
  s_Mo_find_15_n n V v1 v2 z3 hf
def f_Mo_find_3 : Nat → VV → Int → (Option (VV × Int))
  | 0, _, _ => none
  | n + 1, V, v1 => if v1 < 0 then f_Mo_find_15 FU V (-1) 0 else f_Mo_find_5 (f_Mo_find_3 n) FU V v1 0
set_option maxRecDepth 20000 in
set_option maxHeartbeats 4000000 in
theorem s_Mo_find_3_n {X : Xs} {d : Nat} {h : HP} {q : VV × Int} : ∀ (n : Nat) (V : VV) (v1 : Int) (z2 : Option AV) (z3 : Option AV), f_Mo_find_3 n V v1 = some q → Ok X (d + 3) 155 3 ([some (.inr (.inr (.inl 63))), some (.inl v1), z2, z3], [], mm V h) (fun M r => M = mm q.1 h ∧ r = some (.inl q.2)) := by
  intro n
  induction n with
  | zero => intro V v1 z2 z3 hf; cases hf
  | succ n ih =>
    intro V v1 z2 z3 hf
    let QQ : Mm → Option AV → Prop := fun M r => M = mm q.1 h ∧ r = some (.inl q.2)
    show Ok X (d + 3) 155 3 ([some (.inr (.inr (.inl 63))), some (.inl v1), z2, z3], [], mm V h) QQ
    refine ok_if_lt (x := v1) (L := [some (.inr (.inr (.inl 63))), some (.inl v1), z2, z3]) (S := []) (M := mm V h) rfl rfl (fun c1 => ?_) (fun c1 => ?_)
    ·
      replace hf := (if_pos c1).symm.trans hf
      refine ok_thru (L := [some (.inr (.inr (.inl 63))), some (.inl (-1)), some (.inl 0), z3]) (S := []) (M := mm V h) rfl rfl ?_
      exact s_Mo_find_15 hf
    ·
      replace hf := (if_neg (Int.not_lt.mpr c1)).symm.trans hf
      refine ok_thru (L := [some (.inr (.inr (.inl 63))), some (.inl v1), some (.inl 0), z3]) (S := []) (M := mm V h) rfl rfl ?_
      exact s_Mo_find_5 hf ih
theorem s_Mo_find_3 {X : Xs} {d : Nat} {h : HP} {V : VV} {v1 : Int} {z2 : Option AV} {z3 : Option AV} {n : Nat} {q : VV × Int} (hf : f_Mo_find_3 n V v1 = some q) : Ok X (d + 3) 155 3 ([some (.inr (.inr (.inl 63))), some (.inl v1), z2, z3], [], mm V h) (fun M r => M = mm q.1 h ∧ r = some (.inl q.2)) :=
  s_Mo_find_3_n n V v1 z2 z3 hf
def f_Mo_find (V : VV)  : Option (VV × Int) := if (V 62 0) = 0 then some (V, (-1)) else f_Mo_find_3 FU V (w32 ((V 62 0) - 1))
set_option maxRecDepth 20000 in
set_option maxHeartbeats 4000000 in
theorem s_Mo_find {X : Xs} {d : Nat} {V : VV} {h : HP} {q : VV × Int} (hf : f_Mo_find V = some q) : Ok X (d + 3) 155 0 ([some (.inr (.inr (.inl 63))), none, none, none], [], mm V h) (fun M r => M = mm q.1 h ∧ r = some (.inl q.2)) := by
  let QQ : Mm → Option AV → Prop := fun M r => M = mm q.1 h ∧ r = some (.inl q.2)
  show Ok X (d + 3) 155 0 ([some (.inr (.inr (.inl 63))), none, none, none], [], mm V h) QQ
  refine ok_if_ne (x := V 62 0) (L := [some (.inr (.inr (.inl 63))), none, none, none]) (S := []) (M := mm V h) rfl rfl (fun c1 => ?_) (fun c1 => ?_)
  ·
    replace hf := (if_neg c1).symm.trans hf
    refine ok_thru (L := [some (.inr (.inr (.inl 63))), some (.inl (w32 ((V 62 0) - 1))), none, none]) (S := []) (M := mm V h) rfl rfl ?_
    exact s_Mo_find_3 hf
  ·
    replace hf := (if_pos c1).symm.trans hf
    obtain rfl := Option.some.inj hf
    refine ok_ireturn (L := [some (.inr (.inr (.inl 63))), none, none, none]) (M := mm V h) (x := (-1)) rfl rfl ?_
    exact ⟨rfl, rfl⟩
def f_Mo_levels (V : VV)  : Option (VV × Int) := Option.bind (f_Mo_find V) (fun q1 => some (q1.1, q1.2))
set_option maxRecDepth 20000 in
set_option maxHeartbeats 4000000 in
theorem s_Mo_levels {X : Xs} {d : Nat} {V : VV} {h : HP} {q : VV × Int} (hf : f_Mo_levels V = some q) : Ok X (d + 4) 154 0 ([some (.inr (.inr (.inl 63)))], [], mm V h) (fun M r => M = mm q.1 h ∧ r = some (.inl q.2)) := by
  let QQ : Mm → Option AV → Prop := fun M r => M = mm q.1 h ∧ r = some (.inl q.2)
  show Ok X (d + 4) 154 0 ([some (.inr (.inr (.inl 63)))], [], mm V h) QQ
  obtain ⟨q1, e1, hf⟩ := obind hf
  refine ok_callA (L := [some (.inr (.inr (.inl 63)))]) (M := mm V h) (args := [.inr (.inr (.inl 63))]) (rest := []) (y2 := 155) rfl rfl rfl (Or.inl rfl) rfl rfl (Nat.le_of_ble_eq_true rfl) rfl rfl (Nat.le_of_ble_eq_true rfl) (Nat.le_of_ble_eq_true rfl) (s_Mo_find e1) ?_
  rintro _ _ ⟨rfl, rfl⟩
  obtain rfl := Option.some.inj hf
  refine ok_ireturn (L := [some (.inr (.inr (.inl 63)))]) (M := mm q1.1 h) (x := q1.2) rfl rfl ?_
  exact ⟨rfl, rfl⟩
def f_Mo_level_6 (V : VV)  : Option (VV × Int) := some (V, (-1))
set_option maxRecDepth 20000 in
set_option maxHeartbeats 4000000 in
theorem s_Mo_level_6 {X : Xs} {d : Nat} {V : VV} {h : HP} {w1 : Int} {q : VV × Int} (hf : f_Mo_level_6 V = some q) : Ok X (d + 4) 159 6 ([some (.inr (.inr (.inl 63))), some (.inl w1)], [], mm V h) (fun M r => M = mm q.1 h ∧ r = some (.inl q.2)) := by
  let QQ : Mm → Option AV → Prop := fun M r => M = mm q.1 h ∧ r = some (.inl q.2)
  show Ok X (d + 4) 159 6 ([some (.inr (.inr (.inl 63))), some (.inl w1)], [], mm V h) QQ
  refine ok_thru (L := [some (.inr (.inr (.inl 63))), some (.inl w1)]) (S := [.inl (-1)]) (M := mm V h) rfl rfl ?_
  obtain rfl := Option.some.inj hf
  refine ok_ireturn (L := [some (.inr (.inr (.inl 63))), some (.inl w1)]) (M := mm V h) (x := (-1)) rfl rfl ?_
  exact ⟨rfl, rfl⟩
def f_Mo_level (V : VV) (v1 : Int) : Option (VV × Int) := if (f_Mo_isIn V v1 0 (w32 ((V 62 0) - 1))) = 0 then f_Mo_level_6 V else Option.bind (f_Mo_find V) (fun q3 => if q3.2 < 0 then f_Mo_level_6 q3.1 else if 0 ≤ v1 ∧ v1 < (12 : Int) then some (q3.1, q3.1 68 v1.toNat) else none)
set_option maxRecDepth 20000 in
set_option maxHeartbeats 4000000 in
theorem s_Mo_level {X : Xs} {d : Nat} {V : VV} {h : HP} {v1 : Int} {q : VV × Int} (hf : f_Mo_level V v1 = some q) : Ok X (d + 4) 159 0 ([some (.inr (.inr (.inl 63))), some (.inl v1)], [], mm V h) (fun M r => M = mm q.1 h ∧ r = some (.inl q.2)) := by
  let QQ : Mm → Option AV → Prop := fun M r => M = mm q.1 h ∧ r = some (.inl q.2)
  show Ok X (d + 4) 159 0 ([some (.inr (.inr (.inl 63))), some (.inl v1)], [], mm V h) QQ
  refine ok_callA (L := [some (.inr (.inr (.inl 63))), some (.inl v1)]) (M := mm V h) (args := [.inl v1, .inl 0, .inl (w32 ((V 62 0) - 1))]) (rest := []) (y2 := 152) rfl rfl rfl (Or.inr (Or.inl rfl)) rfl rfl (Nat.le_of_ble_eq_true rfl) rfl rfl (Nat.le_of_ble_eq_true rfl) (Nat.le_of_ble_eq_true rfl) (s_Mo_isIn rfl) ?_
  rintro _ _ ⟨rfl, rfl, hz1⟩
  refine ok_if_eq (x := f_Mo_isIn V v1 0 (w32 ((V 62 0) - 1))) (L := [some (.inr (.inr (.inl 63))), some (.inl v1)]) (S := []) (M := mm V h) rfl rfl (fun c2 => ?_) (fun c2 => ?_)
  ·
    replace hf := (if_pos c2).symm.trans hf
    exact s_Mo_level_6 hf
  ·
    replace hf := (if_neg c2).symm.trans hf
    obtain ⟨q3, e3, hf⟩ := obind hf
    refine ok_callA (L := [some (.inr (.inr (.inl 63))), some (.inl v1)]) (M := mm V h) (args := [.inr (.inr (.inl 63))]) (rest := []) (y2 := 155) rfl rfl rfl (Or.inl rfl) rfl rfl (Nat.le_of_ble_eq_true rfl) rfl rfl (Nat.le_of_ble_eq_true rfl) (Nat.le_of_ble_eq_true rfl) (s_Mo_find e3) ?_
    rintro _ _ ⟨rfl, rfl⟩
    refine ok_if_lt (x := q3.2) (L := [some (.inr (.inr (.inl 63))), some (.inl v1)]) (S := []) (M := mm q3.1 h) rfl rfl (fun c4 => ?_) (fun c4 => ?_)
    ·
      replace hf := (if_pos c4).symm.trans hf
      exact s_Mo_level_6 hf
    ·
      replace hf := (if_neg (Int.not_lt.mpr c4)).symm.trans hf
      by_cases c5 : 0 ≤ v1 ∧ v1 < (12 : Int)
      case neg => replace hf := (if_neg c5).symm.trans hf; cases hf
      replace hf := (if_pos c5).symm.trans hf
      refine ok_iald (i := v1) (id := 68) (n := 12) (L := [some (.inr (.inr (.inl 63))), some (.inl v1)]) (S := []) (M := mm q3.1 h) rfl rfl rfl c5.1 c5.2 ?_
      refine ok_goto (L := [some (.inr (.inr (.inl 63))), some (.inl v1)]) (S := [.inl (q3.1 68 v1.toNat)]) (M := mm q3.1 h) rfl rfl ?_
      obtain rfl := Option.some.inj hf
      refine ok_ireturn (L := [some (.inr (.inr (.inl 63))), some (.inl v1)]) (M := mm q3.1 h) (x := q3.1 68 v1.toNat) rfl rfl ?_
      exact ⟨rfl, rfl⟩
def f_Mo_layer (V : VV) (v1 : Int) (v2 : Int) : Option (VV × Int) := if (f_Mo_isIn V v1 20 200) = 0 then some (V, (-1)) else if (f_Mo_isIn V v2 0 2) = 0 then some (V, (-1)) else if (V 62 8) = 3 then some (V, (-1)) else if 0 ≤ (V 62 8) ∧ (V 62 8) < (3 : Int) then if 0 ≤ (V 62 8) ∧ (V 62 8) < (3 : Int) then some (up (up (up V 65 ((V 62 8).toNat) v1) 66 ((V 62 8).toNat) v2) 62 8 (w32 ((V 62 8) + 1)), w32 ((w32 ((V 62 8) + 1)) - 1)) else none else none
set_option maxRecDepth 20000 in
set_option maxHeartbeats 4000000 in
theorem s_Mo_layer {X : Xs} {d : Nat} {V : VV} {h : HP} {v1 : Int} {v2 : Int} {q : VV × Int} (hf : f_Mo_layer V v1 v2 = some q) : Ok X (d + 2) 160 0 ([some (.inr (.inr (.inl 63))), some (.inl v1), some (.inl v2)], [], mm V h) (fun M r => M = mm q.1 h ∧ r = some (.inl q.2)) := by
  let QQ : Mm → Option AV → Prop := fun M r => M = mm q.1 h ∧ r = some (.inl q.2)
  show Ok X (d + 2) 160 0 ([some (.inr (.inr (.inl 63))), some (.inl v1), some (.inl v2)], [], mm V h) QQ
  refine ok_callA (L := [some (.inr (.inr (.inl 63))), some (.inl v1), some (.inl v2)]) (M := mm V h) (args := [.inl v1, .inl 20, .inl 200]) (rest := []) (y2 := 152) rfl rfl rfl (Or.inr (Or.inl rfl)) rfl rfl (Nat.le_of_ble_eq_true rfl) rfl rfl (Nat.le_of_ble_eq_true rfl) (Nat.le_of_ble_eq_true rfl) (s_Mo_isIn rfl) ?_
  rintro _ _ ⟨rfl, rfl, hz1⟩
  refine ok_if_eq (x := f_Mo_isIn V v1 20 200) (L := [some (.inr (.inr (.inl 63))), some (.inl v1), some (.inl v2)]) (S := []) (M := mm V h) rfl rfl (fun c2 => ?_) (fun c2 => ?_)
  ·
    replace hf := (if_pos c2).symm.trans hf
    obtain rfl := Option.some.inj hf
    refine ok_ireturn (L := [some (.inr (.inr (.inl 63))), some (.inl v1), some (.inl v2)]) (M := mm V h) (x := (-1)) rfl rfl ?_
    exact ⟨rfl, rfl⟩
  ·
    replace hf := (if_neg c2).symm.trans hf
    refine ok_callA (L := [some (.inr (.inr (.inl 63))), some (.inl v1), some (.inl v2)]) (M := mm V h) (args := [.inl v2, .inl 0, .inl 2]) (rest := []) (y2 := 152) rfl rfl rfl (Or.inr (Or.inl rfl)) rfl rfl (Nat.le_of_ble_eq_true rfl) rfl rfl (Nat.le_of_ble_eq_true rfl) (Nat.le_of_ble_eq_true rfl) (s_Mo_isIn rfl) ?_
    rintro _ _ ⟨rfl, rfl, hz3⟩
    refine ok_if_eq (x := f_Mo_isIn V v2 0 2) (L := [some (.inr (.inr (.inl 63))), some (.inl v1), some (.inl v2)]) (S := []) (M := mm V h) rfl rfl (fun c4 => ?_) (fun c4 => ?_)
    ·
      replace hf := (if_pos c4).symm.trans hf
      obtain rfl := Option.some.inj hf
      refine ok_ireturn (L := [some (.inr (.inr (.inl 63))), some (.inl v1), some (.inl v2)]) (M := mm V h) (x := (-1)) rfl rfl ?_
      exact ⟨rfl, rfl⟩
    ·
      replace hf := (if_neg c4).symm.trans hf
      refine ok_ic_ne (x := V 62 8) (u := 3) (L := [some (.inr (.inr (.inl 63))), some (.inl v1), some (.inl v2)]) (S := []) (M := mm V h) rfl rfl (fun c5 => ?_) (fun c5 => ?_)
      ·
        replace hf := (if_neg c5).symm.trans hf
        by_cases c6 : 0 ≤ (V 62 8) ∧ (V 62 8) < (3 : Int)
        case neg => replace hf := (if_neg c6).symm.trans hf; cases hf
        replace hf := (if_pos c6).symm.trans hf
        refine ok_iast (i := V 62 8) (v := v1) (id := 65) (n := 3) (L := [some (.inr (.inr (.inl 63))), some (.inl v1), some (.inl v2)]) (S := []) (M := mm V h) rfl rfl rfl c6.1 c6.2 ?_
        by_cases c7 : 0 ≤ (V 62 8) ∧ (V 62 8) < (3 : Int)
        case neg => replace hf := (if_neg c7).symm.trans hf; cases hf
        replace hf := (if_pos c7).symm.trans hf
        refine ok_iast (i := V 62 8) (v := v2) (id := 66) (n := 3) (L := [some (.inr (.inr (.inl 63))), some (.inl v1), some (.inl v2)]) (S := []) (M := mm (up V 65 ((V 62 8).toNat) v1) h) rfl rfl rfl c7.1 c7.2 ?_
        obtain rfl := Option.some.inj hf
        refine ok_ireturn (L := [some (.inr (.inr (.inl 63))), some (.inl v1), some (.inl v2)]) (M := mm (up (up (up V 65 ((V 62 8).toNat) v1) 66 ((V 62 8).toNat) v2) 62 8 (w32 ((V 62 8) + 1))) h) (x := w32 ((w32 ((V 62 8) + 1)) - 1)) rfl rfl ?_
        exact ⟨rfl, rfl⟩
      ·
        replace hf := (if_pos c5).symm.trans hf
        obtain rfl := Option.some.inj hf
        refine ok_ireturn (L := [some (.inr (.inr (.inl 63))), some (.inl v1), some (.inl v2)]) (M := mm V h) (x := (-1)) rfl rfl ?_
        exact ⟨rfl, rfl⟩
def f_Mo_hasJobs_17 (k5 : VV → Int → (Option (VV × Int))) (V : VV) (v1 : Int) (v2 : Int) (t1 : Int) (t2 : Int) (t3 : Int) : Option (VV × Int) := if 0 ≤ t1 ∧ t1 < (36 : Int) then if 0 ≤ v2 ∧ v2 < (12 : Int) then if 0 ≤ v1 ∧ v1 < (36 : Int) then if 0 ≤ v1 ∧ v1 < (36 : Int) then if 0 ≤ v1 ∧ v1 < (36 : Int) then k5 (up (up (up V 69 t1.toNat (w32 (t2 + t3))) 70 v1.toNat (w32 (Int.tdiv (w32 ((w32 ((w32 ((w32 ((V 63 v2.toNat) * (V 62 3))) * ((up V 69 t1.toNat (w32 (t2 + t3))) 69 v1.toNat))) * 24)) + 99999)) 100000))) 62 14 (w32 ((V 62 14) + ((up (up V 69 t1.toNat (w32 (t2 + t3))) 70 v1.toNat (w32 (Int.tdiv (w32 ((w32 ((w32 ((w32 ((V 63 v2.toNat) * (V 62 3))) * ((up V 69 t1.toNat (w32 (t2 + t3))) 69 v1.toNat))) * 24)) + 99999)) 100000))) 70 v1.toNat)))) (w32 (v1 + 1)) else none else none else none else none else none
set_option maxRecDepth 20000 in
set_option maxHeartbeats 4000000 in
theorem s_Mo_hasJobs_17 {X : Xs} {d : Nat} {k5 : VV → Int → (Option (VV × Int))} {V : VV} {h : HP} {v1 : Int} {v2 : Int} {t1 : Int} {t2 : Int} {t3 : Int} {z3 : Option AV} {q : VV × Int} (hf : f_Mo_hasJobs_17 k5 V v1 v2 t1 t2 t3 = some q) (K5 : ∀ (V : VV) (v1 : Int) (z2 : Option AV) (z3 : Option AV), k5 V v1 = some q → Ok X (d + 4) 162 5 ([some (.inr (.inr (.inl 63))), some (.inl v1), z2, z3], [], mm V h) (fun M r => M = mm q.1 h ∧ r = some (.inl q.2) ∧ (q.2 = 0 ∨ q.2 = 1))) : Ok X (d + 4) 162 17 ([some (.inr (.inr (.inl 63))), some (.inl v1), some (.inl v2), z3], [.inl t3, .inl t2, .inl t1, .inr (.inr (.inl 70))], mm V h) (fun M r => M = mm q.1 h ∧ r = some (.inl q.2) ∧ (q.2 = 0 ∨ q.2 = 1)) := by
  let QQ : Mm → Option AV → Prop := fun M r => M = mm q.1 h ∧ r = some (.inl q.2) ∧ (q.2 = 0 ∨ q.2 = 1)
  show Ok X (d + 4) 162 17 ([some (.inr (.inr (.inl 63))), some (.inl v1), some (.inl v2), z3], [.inl t3, .inl t2, .inl t1, .inr (.inr (.inl 70))], mm V h) QQ
  by_cases c1 : 0 ≤ t1 ∧ t1 < (36 : Int)
  case neg => replace hf := (if_neg c1).symm.trans hf; cases hf
  replace hf := (if_pos c1).symm.trans hf
  refine ok_iast (i := t1) (v := w32 (t2 + t3)) (id := 69) (n := 36) (L := [some (.inr (.inr (.inl 63))), some (.inl v1), some (.inl v2), z3]) (S := []) (M := mm V h) rfl rfl rfl c1.1 c1.2 ?_
  by_cases c2 : 0 ≤ v2 ∧ v2 < (12 : Int)
  case neg => replace hf := (if_neg c2).symm.trans hf; cases hf
  replace hf := (if_pos c2).symm.trans hf
  refine ok_iald (i := v2) (id := 63) (n := 12) (L := [some (.inr (.inr (.inl 63))), some (.inl v1), some (.inl v2), z3]) (S := []) (M := mm (up V 69 t1.toNat (w32 (t2 + t3))) h) rfl rfl rfl c2.1 c2.2 ?_
  by_cases c3 : 0 ≤ v1 ∧ v1 < (36 : Int)
  case neg => replace hf := (if_neg c3).symm.trans hf; cases hf
  replace hf := (if_pos c3).symm.trans hf
  refine ok_iald (i := v1) (id := 69) (n := 36) (L := [some (.inr (.inr (.inl 63))), some (.inl v1), some (.inl v2), z3]) (S := [.inl (w32 ((V 63 v2.toNat) * (V 62 3)))]) (M := mm (up V 69 t1.toNat (w32 (t2 + t3))) h) rfl rfl rfl c3.1 c3.2 ?_
  refine ok_idiv (u := w32 ((w32 ((w32 ((w32 ((V 63 v2.toNat) * (V 62 3))) * ((up V 69 t1.toNat (w32 (t2 + t3))) 69 v1.toNat))) * 24)) + 99999)) (v := 100000) (L := [some (.inr (.inr (.inl 63))), some (.inl v1), some (.inl v2), some (.inl (w32 ((w32 ((w32 ((V 63 v2.toNat) * (V 62 3))) * ((up V 69 t1.toNat (w32 (t2 + t3))) 69 v1.toNat))) * 24)))]) (S := [.inl v1, .inr (.inr (.inl 71))]) (M := mm (up V 69 t1.toNat (w32 (t2 + t3))) h) rfl rfl (by decide) ?_
  by_cases c5 : 0 ≤ v1 ∧ v1 < (36 : Int)
  case neg => replace hf := (if_neg c5).symm.trans hf; cases hf
  replace hf := (if_pos c5).symm.trans hf
  refine ok_iast (i := v1) (v := w32 (Int.tdiv (w32 ((w32 ((w32 ((w32 ((V 63 v2.toNat) * (V 62 3))) * ((up V 69 t1.toNat (w32 (t2 + t3))) 69 v1.toNat))) * 24)) + 99999)) 100000)) (id := 70) (n := 36) (L := [some (.inr (.inr (.inl 63))), some (.inl v1), some (.inl v2), some (.inl (w32 ((w32 ((w32 ((V 63 v2.toNat) * (V 62 3))) * ((up V 69 t1.toNat (w32 (t2 + t3))) 69 v1.toNat))) * 24)))]) (S := []) (M := mm (up V 69 t1.toNat (w32 (t2 + t3))) h) rfl rfl rfl c5.1 c5.2 ?_
  by_cases c6 : 0 ≤ v1 ∧ v1 < (36 : Int)
  case neg => replace hf := (if_neg c6).symm.trans hf; cases hf
  replace hf := (if_pos c6).symm.trans hf
  refine ok_iald (i := v1) (id := 70) (n := 36) (L := [some (.inr (.inr (.inl 63))), some (.inl v1), some (.inl v2), some (.inl (w32 ((w32 ((w32 ((V 63 v2.toNat) * (V 62 3))) * ((up V 69 t1.toNat (w32 (t2 + t3))) 69 v1.toNat))) * 24)))]) (S := [.inl (V 62 14), .inr (.inr (.inl 63))]) (M := mm (up (up V 69 t1.toNat (w32 (t2 + t3))) 70 v1.toNat (w32 (Int.tdiv (w32 ((w32 ((w32 ((w32 ((V 63 v2.toNat) * (V 62 3))) * ((up V 69 t1.toNat (w32 (t2 + t3))) 69 v1.toNat))) * 24)) + 99999)) 100000))) h) rfl rfl rfl c6.1 c6.2 ?_
  refine ok_goto (L := [some (.inr (.inr (.inl 63))), some (.inl (w32 (v1 + 1))), some (.inl v2), some (.inl (w32 ((w32 ((w32 ((V 63 v2.toNat) * (V 62 3))) * ((up V 69 t1.toNat (w32 (t2 + t3))) 69 v1.toNat))) * 24)))]) (S := []) (M := mm (up (up (up V 69 t1.toNat (w32 (t2 + t3))) 70 v1.toNat (w32 (Int.tdiv (w32 ((w32 ((w32 ((w32 ((V 63 v2.toNat) * (V 62 3))) * ((up V 69 t1.toNat (w32 (t2 + t3))) 69 v1.toNat))) * 24)) + 99999)) 100000))) 62 14 (w32 ((V 62 14) + ((up (up V 69 t1.toNat (w32 (t2 + t3))) 70 v1.toNat (w32 (Int.tdiv (w32 ((w32 ((w32 ((w32 ((V 63 v2.toNat) * (V 62 3))) * ((up V 69 t1.toNat (w32 (t2 + t3))) 69 v1.toNat))) * 24)) + 99999)) 100000))) 70 v1.toNat)))) h) rfl rfl ?_
  exact K5 (up (up (up V 69 t1.toNat (w32 (t2 + t3))) 70 v1.toNat (w32 (Int.tdiv (w32 ((w32 ((w32 ((w32 ((V 63 v2.toNat) * (V 62 3))) * ((up V 69 t1.toNat (w32 (t2 + t3))) 69 v1.toNat))) * 24)) + 99999)) 100000))) 62 14 (w32 ((V 62 14) + ((up (up V 69 t1.toNat (w32 (t2 + t3))) 70 v1.toNat (w32 (Int.tdiv (w32 ((w32 ((w32 ((w32 ((V 63 v2.toNat) * (V 62 3))) * ((up V 69 t1.toNat (w32 (t2 + t3))) 69 v1.toNat))) * 24)) + 99999)) 100000))) 70 v1.toNat)))) (w32 (v1 + 1)) (some (.inl v2)) (some (.inl (w32 ((w32 ((w32 ((V 63 v2.toNat) * (V 62 3))) * ((up V 69 t1.toNat (w32 (t2 + t3))) 69 v1.toNat))) * 24)))) hf
def f_Mo_hasJobs_16 (k5 : VV → Int → (Option (VV × Int))) (V : VV) (v1 : Int) (v2 : Int) (t1 : Int) (t2 : Int) : Option (VV × Int) := f_Mo_hasJobs_17 k5 V v1 v2 t1 t2 0
set_option maxRecDepth 20000 in
set_option maxHeartbeats 4000000 in
theorem s_Mo_hasJobs_16 {X : Xs} {d : Nat} {k5 : VV → Int → (Option (VV × Int))} {V : VV} {h : HP} {v1 : Int} {v2 : Int} {t1 : Int} {t2 : Int} {z3 : Option AV} {q : VV × Int} (hf : f_Mo_hasJobs_16 k5 V v1 v2 t1 t2 = some q) (K5 : ∀ (V : VV) (v1 : Int) (z2 : Option AV) (z3 : Option AV), k5 V v1 = some q → Ok X (d + 4) 162 5 ([some (.inr (.inr (.inl 63))), some (.inl v1), z2, z3], [], mm V h) (fun M r => M = mm q.1 h ∧ r = some (.inl q.2) ∧ (q.2 = 0 ∨ q.2 = 1))) : Ok X (d + 4) 162 16 ([some (.inr (.inr (.inl 63))), some (.inl v1), some (.inl v2), z3], [.inl t2, .inl t1, .inr (.inr (.inl 70))], mm V h) (fun M r => M = mm q.1 h ∧ r = some (.inl q.2) ∧ (q.2 = 0 ∨ q.2 = 1)) := by
  let QQ : Mm → Option AV → Prop := fun M r => M = mm q.1 h ∧ r = some (.inl q.2) ∧ (q.2 = 0 ∨ q.2 = 1)
  show Ok X (d + 4) 162 16 ([some (.inr (.inr (.inl 63))), some (.inl v1), some (.inl v2), z3], [.inl t2, .inl t1, .inr (.inr (.inl 70))], mm V h) QQ
  refine ok_thru (L := [some (.inr (.inr (.inl 63))), some (.inl v1), some (.inl v2), z3]) (S := [.inl 0, .inl t2, .inl t1, .inr (.inr (.inl 70))]) (M := mm V h) rfl rfl ?_
  exact s_Mo_hasJobs_17 hf K5
def f_Mo_hasJobs_5 : Nat → VV → Int → (Option (VV × Int))
  | 0, _, _ => none
  | n + 1, V, v1 => if v1 < (V 62 13) then if (V 62 0) = 0 then none else if (V 62 0) = 0 then none else if 0 ≤ (w32 (Int.tdiv v1 (V 62 0))) ∧ (w32 (Int.tdiv v1 (V 62 0))) < (3 : Int) then if v1 < (V 62 0) then if 0 ≤ (Int.tmod v1 (V 62 0)) ∧ (Int.tmod v1 (V 62 0)) < (12 : Int) then if 0 ≤ (Int.tmod v1 (V 62 0)) ∧ (Int.tmod v1 (V 62 0)) < (12 : Int) then if (V 64 ((Int.tmod v1 (V 62 0)).toNat)) < (V 68 ((Int.tmod v1 (V 62 0)).toNat)) then if 0 ≤ (Int.tmod v1 (V 62 0)) ∧ (Int.tmod v1 (V 62 0)) < (12 : Int) then if 0 ≤ (Int.tmod v1 (V 62 0)) ∧ (Int.tmod v1 (V 62 0)) < (12 : Int) then f_Mo_hasJobs_17 (f_Mo_hasJobs_5 n) V v1 (Int.tmod v1 (V 62 0)) v1 (V 65 ((w32 (Int.tdiv v1 (V 62 0))).toNat)) (w32 ((V 68 ((Int.tmod v1 (V 62 0)).toNat)) - (V 64 ((Int.tmod v1 (V 62 0)).toNat)))) else none else none else f_Mo_hasJobs_16 (f_Mo_hasJobs_5 n) V v1 (Int.tmod v1 (V 62 0)) v1 (V 65 ((w32 (Int.tdiv v1 (V 62 0))).toNat)) else none else none else f_Mo_hasJobs_16 (f_Mo_hasJobs_5 n) V v1 (Int.tmod v1 (V 62 0)) v1 (V 65 ((w32 (Int.tdiv v1 (V 62 0))).toNat)) else none else some (V, (if 0 < (V 62 13) then 1 else 0 : Int))
set_option maxRecDepth 20000 in
set_option maxHeartbeats 4000000 in
theorem s_Mo_hasJobs_5_n {X : Xs} {d : Nat} {h : HP} {q : VV × Int} : ∀ (n : Nat) (V : VV) (v1 : Int) (z2 : Option AV) (z3 : Option AV), f_Mo_hasJobs_5 n V v1 = some q → Ok X (d + 4) 162 5 ([some (.inr (.inr (.inl 63))), some (.inl v1), z2, z3], [], mm V h) (fun M r => M = mm q.1 h ∧ r = some (.inl q.2) ∧ (q.2 = 0 ∨ q.2 = 1)) := by
  intro n
  induction n with
  | zero => intro V v1 z2 z3 hf; cases hf
  | succ n ih =>
    intro V v1 z2 z3 hf
    let QQ : Mm → Option AV → Prop := fun M r => M = mm q.1 h ∧ r = some (.inl q.2) ∧ (q.2 = 0 ∨ q.2 = 1)
    show Ok X (d + 4) 162 5 ([some (.inr (.inr (.inl 63))), some (.inl v1), z2, z3], [], mm V h) QQ
    refine ok_ic_ge (x := v1) (u := V 62 13) (L := [some (.inr (.inr (.inl 63))), some (.inl v1), z2, z3]) (S := []) (M := mm V h) rfl rfl (fun c1 => ?_) (fun c1 => ?_)
    ·
      replace hf := (if_neg (Int.not_lt.mpr c1)).symm.trans hf
      have JN2 : Ok X (d + 4) 162 27 ([some (.inr (.inr (.inl 63))), some (.inl v1), z2, z3], [.inl (if 0 < (V 62 13) then 1 else 0 : Int)], mm V h) QQ := by
        obtain rfl := Option.some.inj hf
        have hz : ((if 0 < (V 62 13) then 1 else 0 : Int) : Int) = 0 ∨ ((if 0 < (V 62 13) then 1 else 0 : Int) : Int) = 1 := by
          first | exact Or.inl rfl | exact Or.inr rfl | assumption | (repeat' split) <;> first | exact Or.inl rfl | exact Or.inr rfl | assumption
        refine ok_zreturn (L := [some (.inr (.inr (.inl 63))), some (.inl v1), z2, z3]) (M := mm V h) (x := (if 0 < (V 62 13) then 1 else 0 : Int)) rfl rfl hz ?_
        exact ⟨rfl, rfl, hz⟩
      clear hf
      refine ok_if_le (x := V 62 13) (L := [some (.inr (.inr (.inl 63))), some (.inl v1), z2, z3]) (S := []) (M := mm V h) rfl rfl (fun c3 => ?_) (fun c3 => ?_)
      ·
        simp only [if_neg (Int.not_lt.mpr c3)] at JN2
        refine ok_thru (L := [some (.inr (.inr (.inl 63))), some (.inl v1), z2, z3]) (S := [.inl 0]) (M := mm V h) rfl rfl ?_
        first | exact JN2 | (simp only [if_neg (Int.not_lt.mpr c3)]; exact JN2)
      ·
        simp only [if_pos c3] at JN2
        refine ok_goto (L := [some (.inr (.inr (.inl 63))), some (.inl v1), z2, z3]) (S := [.inl 1]) (M := mm V h) rfl rfl ?_
        first | exact JN2 | (simp only [if_pos c3]; exact JN2)
    ·
      replace hf := (if_pos c1).symm.trans hf
      by_cases c4 : (V 62 0) = 0
      case pos => replace hf := (if_pos c4).symm.trans hf; cases hf
      replace hf := (if_neg c4).symm.trans hf
      refine ok_irem (u := v1) (v := V 62 0) (L := [some (.inr (.inr (.inl 63))), some (.inl v1), z2, z3]) (S := []) (M := mm V h) rfl rfl c4 ?_
      by_cases c5 : (V 62 0) = 0
      case pos => replace hf := (if_pos c5).symm.trans hf; cases hf
      replace hf := (if_neg c5).symm.trans hf
      refine ok_idiv (u := v1) (v := V 62 0) (L := [some (.inr (.inr (.inl 63))), some (.inl v1), some (.inl (Int.tmod v1 (V 62 0))), z3]) (S := [.inr (.inr (.inl 66)), .inl v1, .inr (.inr (.inl 70))]) (M := mm V h) rfl rfl c5 ?_
      by_cases c6 : 0 ≤ (w32 (Int.tdiv v1 (V 62 0))) ∧ (w32 (Int.tdiv v1 (V 62 0))) < (3 : Int)
      case neg => replace hf := (if_neg c6).symm.trans hf; cases hf
      replace hf := (if_pos c6).symm.trans hf
      refine ok_iald (i := w32 (Int.tdiv v1 (V 62 0))) (id := 65) (n := 3) (L := [some (.inr (.inr (.inl 63))), some (.inl v1), some (.inl (Int.tmod v1 (V 62 0))), z3]) (S := [.inl v1, .inr (.inr (.inl 70))]) (M := mm V h) rfl rfl rfl c6.1 c6.2 ?_
      refine ok_ic_ge (x := v1) (u := V 62 0) (L := [some (.inr (.inr (.inl 63))), some (.inl v1), some (.inl (Int.tmod v1 (V 62 0))), z3]) (S := [.inl (V 65 ((w32 (Int.tdiv v1 (V 62 0))).toNat)), .inl v1, .inr (.inr (.inl 70))]) (M := mm V h) rfl rfl (fun c7 => ?_) (fun c7 => ?_)
      ·
        replace hf := (if_neg (Int.not_lt.mpr c7)).symm.trans hf
        exact s_Mo_hasJobs_16 hf ih
      ·
        replace hf := (if_pos c7).symm.trans hf
        by_cases c8 : 0 ≤ (Int.tmod v1 (V 62 0)) ∧ (Int.tmod v1 (V 62 0)) < (12 : Int)
        case neg => replace hf := (if_neg c8).symm.trans hf; cases hf
        replace hf := (if_pos c8).symm.trans hf
        refine ok_iald (i := Int.tmod v1 (V 62 0)) (id := 68) (n := 12) (L := [some (.inr (.inr (.inl 63))), some (.inl v1), some (.inl (Int.tmod v1 (V 62 0))), z3]) (S := [.inl (V 65 ((w32 (Int.tdiv v1 (V 62 0))).toNat)), .inl v1, .inr (.inr (.inl 70))]) (M := mm V h) rfl rfl rfl c8.1 c8.2 ?_
        by_cases c9 : 0 ≤ (Int.tmod v1 (V 62 0)) ∧ (Int.tmod v1 (V 62 0)) < (12 : Int)
        case neg => replace hf := (if_neg c9).symm.trans hf; cases hf
        replace hf := (if_pos c9).symm.trans hf
        refine ok_iald (i := Int.tmod v1 (V 62 0)) (id := 64) (n := 12) (L := [some (.inr (.inr (.inl 63))), some (.inl v1), some (.inl (Int.tmod v1 (V 62 0))), z3]) (S := [.inl (V 68 ((Int.tmod v1 (V 62 0)).toNat)), .inl (V 65 ((w32 (Int.tdiv v1 (V 62 0))).toNat)), .inl v1, .inr (.inr (.inl 70))]) (M := mm V h) rfl rfl rfl c9.1 c9.2 ?_
        refine ok_ic_le (x := V 68 ((Int.tmod v1 (V 62 0)).toNat)) (u := V 64 ((Int.tmod v1 (V 62 0)).toNat)) (L := [some (.inr (.inr (.inl 63))), some (.inl v1), some (.inl (Int.tmod v1 (V 62 0))), z3]) (S := [.inl (V 65 ((w32 (Int.tdiv v1 (V 62 0))).toNat)), .inl v1, .inr (.inr (.inl 70))]) (M := mm V h) rfl rfl (fun c10 => ?_) (fun c10 => ?_)
        ·
          replace hf := (if_neg (Int.not_lt.mpr c10)).symm.trans hf
          exact s_Mo_hasJobs_16 hf ih
        ·
          replace hf := (if_pos c10).symm.trans hf
          by_cases c11 : 0 ≤ (Int.tmod v1 (V 62 0)) ∧ (Int.tmod v1 (V 62 0)) < (12 : Int)
          case neg => replace hf := (if_neg c11).symm.trans hf; cases hf
          replace hf := (if_pos c11).symm.trans hf
          refine ok_iald (i := Int.tmod v1 (V 62 0)) (id := 68) (n := 12) (L := [some (.inr (.inr (.inl 63))), some (.inl v1), some (.inl (Int.tmod v1 (V 62 0))), z3]) (S := [.inl (V 65 ((w32 (Int.tdiv v1 (V 62 0))).toNat)), .inl v1, .inr (.inr (.inl 70))]) (M := mm V h) rfl rfl rfl c11.1 c11.2 ?_
          by_cases c12 : 0 ≤ (Int.tmod v1 (V 62 0)) ∧ (Int.tmod v1 (V 62 0)) < (12 : Int)
          case neg => replace hf := (if_neg c12).symm.trans hf; cases hf
          replace hf := (if_pos c12).symm.trans hf
          refine ok_iald (i := Int.tmod v1 (V 62 0)) (id := 64) (n := 12) (L := [some (.inr (.inr (.inl 63))), some (.inl v1), some (.inl (Int.tmod v1 (V 62 0))), z3]) (S := [.inl (V 68 ((Int.tmod v1 (V 62 0)).toNat)), .inl (V 65 ((w32 (Int.tdiv v1 (V 62 0))).toNat)), .inl v1, .inr (.inr (.inl 70))]) (M := mm V h) rfl rfl rfl c12.1 c12.2 ?_
          refine ok_goto (L := [some (.inr (.inr (.inl 63))), some (.inl v1), some (.inl (Int.tmod v1 (V 62 0))), z3]) (S := [.inl (w32 ((V 68 ((Int.tmod v1 (V 62 0)).toNat)) - (V 64 ((Int.tmod v1 (V 62 0)).toNat)))), .inl (V 65 ((w32 (Int.tdiv v1 (V 62 0))).toNat)), .inl v1, .inr (.inr (.inl 70))]) (M := mm V h) rfl rfl ?_
          exact s_Mo_hasJobs_17 hf ih
theorem s_Mo_hasJobs_5 {X : Xs} {d : Nat} {h : HP} {V : VV} {v1 : Int} {z2 : Option AV} {z3 : Option AV} {n : Nat} {q : VV × Int} (hf : f_Mo_hasJobs_5 n V v1 = some q) : Ok X (d + 4) 162 5 ([some (.inr (.inr (.inl 63))), some (.inl v1), z2, z3], [], mm V h) (fun M r => M = mm q.1 h ∧ r = some (.inl q.2) ∧ (q.2 = 0 ∨ q.2 = 1)) :=
  s_Mo_hasJobs_5_n n V v1 z2 z3 hf
def f_Mo_hasJobs (V : VV)  : Option (VV × Int) := Option.bind (f_Mo_find V) (fun q1 => f_Mo_hasJobs_5 FU (up (up q1.1 62 13 (if q1.2 < 0 then 0 else w32 ((q1.1 62 8) * (q1.1 62 0)) : Int)) 62 14 0) 0)
set_option maxRecDepth 20000 in
set_option maxHeartbeats 4000000 in
theorem s_Mo_hasJobs {X : Xs} {d : Nat} {V : VV} {h : HP} {q : VV × Int} (hf : f_Mo_hasJobs V = some q) : Ok X (d + 4) 162 0 ([some (.inr (.inr (.inl 63))), none, none, none], [], mm V h) (fun M r => M = mm q.1 h ∧ r = some (.inl q.2) ∧ (q.2 = 0 ∨ q.2 = 1)) := by
  let QQ : Mm → Option AV → Prop := fun M r => M = mm q.1 h ∧ r = some (.inl q.2) ∧ (q.2 = 0 ∨ q.2 = 1)
  show Ok X (d + 4) 162 0 ([some (.inr (.inr (.inl 63))), none, none, none], [], mm V h) QQ
  obtain ⟨q1, e1, hf⟩ := obind hf
  refine ok_callA (L := [some (.inr (.inr (.inl 63))), none, none, none]) (M := mm V h) (args := [.inr (.inr (.inl 63))]) (rest := [.inr (.inr (.inl 63))]) (y2 := 155) rfl rfl rfl (Or.inl rfl) rfl rfl (Nat.le_of_ble_eq_true rfl) rfl rfl (Nat.le_of_ble_eq_true rfl) (Nat.le_of_ble_eq_true rfl) (s_Mo_find e1) ?_
  rintro _ _ ⟨rfl, rfl⟩
  have JN2 : Ok X (d + 4) 162 4 ([some (.inr (.inr (.inl 63))), none, none, none], [.inl (if q1.2 < 0 then 0 else w32 ((q1.1 62 8) * (q1.1 62 0)) : Int), .inr (.inr (.inl 63))], mm q1.1 h) QQ := by
    refine ok_thru (L := [some (.inr (.inr (.inl 63))), some (.inl 0), none, none]) (S := []) (M := mm (up (up q1.1 62 13 (if q1.2 < 0 then 0 else w32 ((q1.1 62 8) * (q1.1 62 0)) : Int)) 62 14 0) h) rfl rfl ?_
    exact s_Mo_hasJobs_5 hf
  clear hf
  refine ok_if_ge (x := q1.2) (L := [some (.inr (.inr (.inl 63))), none, none, none]) (S := [.inr (.inr (.inl 63))]) (M := mm q1.1 h) rfl rfl (fun c3 => ?_) (fun c3 => ?_)
  ·
    simp only [if_neg (Int.not_lt.mpr c3)] at JN2
    refine ok_thru (L := [some (.inr (.inr (.inl 63))), none, none, none]) (S := [.inl (w32 ((q1.1 62 8) * (q1.1 62 0))), .inr (.inr (.inl 63))]) (M := mm q1.1 h) rfl rfl ?_
    first | exact JN2 | (simp only [if_neg (Int.not_lt.mpr c3)]; exact JN2)
  ·
    simp only [if_pos c3] at JN2
    refine ok_goto (L := [some (.inr (.inr (.inl 63))), none, none, none]) (S := [.inl 0, .inr (.inr (.inl 63))]) (M := mm q1.1 h) rfl rfl ?_
    first | exact JN2 | (simp only [if_pos c3]; exact JN2)
