/-! shallow functions of the model (printed by wip/tools/gen40.py) -/
def f_Mo_mayRoll_11 : Nat → VV → Int → Int → Int → Int → (Option (Int))
  | 0, _, _, _, _, _ => none
  | n + 1, V, v1, v2, v3, v4 => if v4 < v2 then if 0 ≤ (w32 ((w32 (3 * v1)) + v4)) ∧ (w32 ((w32 (3 * v1)) + v4)) < (108 : Int) then if 0 ≤ v4 ∧ v4 < (3 : Int) then if (V 113 ((w32 ((w32 (3 * v1)) + v4)).toNat)) < (V 79 v4.toNat) then some 0 else f_Mo_mayRoll_11 n V v1 v2 v3 (w32 (v4 + 1)) else none else none else if 0 ≤ v1 ∧ v1 < (36 : Int) then Option.bind (f_Mo_meanOf V v1 (w32 (v3 - (V 97 v1.toNat)))) (fun q3 => if 0 ≤ v2 ∧ v2 < (3 : Int) then if 0 ≤ v2 ∧ v2 < (3 : Int) then some (f_Mo_isIn V q3 (V 78 v2.toNat) (V 77 v2.toNat)) else none else none) else none
set_option maxRecDepth 20000 in
set_option maxHeartbeats 4000000 in
theorem s_Mo_mayRoll_11_n {X : Xs} {d : Nat} {V : VV} {h : HP} {q : Int} : ∀ (n : Nat) (v1 : Int) (v2 : Int) (v3 : Int) (v4 : Int), f_Mo_mayRoll_11 n V v1 v2 v3 v4 = some q → Ok X (d + 2) 219 11 ([some (.inr (.inr (.inl 63))), some (.inl v1), some (.inl v2), some (.inl v3), some (.inl v4)], [], mm V h) (fun M r => M = mm V h ∧ r = some (.inl q) ∧ (q = 0 ∨ q = 1)) := by
  intro n
  induction n with
  | zero => intro v1 v2 v3 v4 hf; cases hf
  | succ n ih =>
    intro v1 v2 v3 v4 hf
    let QQ : Mm → Option AV → Prop := fun M r => M = mm V h ∧ r = some (.inl q) ∧ (q = 0 ∨ q = 1)
    show Ok X (d + 2) 219 11 ([some (.inr (.inr (.inl 63))), some (.inl v1), some (.inl v2), some (.inl v3), some (.inl v4)], [], mm V h) QQ
    refine ok_ic_ge (x := v4) (u := v2) (L := [some (.inr (.inr (.inl 63))), some (.inl v1), some (.inl v2), some (.inl v3), some (.inl v4)]) (S := []) (M := mm V h) rfl rfl (fun c1 => ?_) (fun c1 => ?_)
    ·
      replace hf := (if_neg (Int.not_lt.mpr c1)).symm.trans hf
      by_cases c2 : 0 ≤ v1 ∧ v1 < (36 : Int)
      case neg => replace hf := (if_neg c2).symm.trans hf; cases hf
      replace hf := (if_pos c2).symm.trans hf
      refine ok_iald (i := v1) (id := 97) (n := 36) (L := [some (.inr (.inr (.inl 63))), some (.inl v1), some (.inl v2), some (.inl v3), some (.inl v4)]) (S := [.inl v3, .inl v1, .inr (.inr (.inl 63))]) (M := mm V h) rfl rfl rfl c2.1 c2.2 ?_
      obtain ⟨q3, e3, hf⟩ := obind hf
      refine ok_callA (L := [some (.inr (.inr (.inl 63))), some (.inl v1), some (.inl v2), some (.inl v3), some (.inl v4)]) (M := mm V h) (args := [.inr (.inr (.inl 63)), .inl v1, .inl (w32 (v3 - (V 97 v1.toNat)))]) (rest := []) (y2 := 205) rfl rfl rfl (Or.inl rfl) rfl rfl (Nat.le_of_ble_eq_true rfl) rfl rfl (Nat.le_of_ble_eq_true rfl) (Nat.le_of_ble_eq_true rfl) (s_Mo_meanOf e3) ?_
      rintro _ _ ⟨rfl, rfl⟩
      by_cases c4 : 0 ≤ v2 ∧ v2 < (3 : Int)
      case neg => replace hf := (if_neg c4).symm.trans hf; cases hf
      replace hf := (if_pos c4).symm.trans hf
      refine ok_iald (i := v2) (id := 78) (n := 3) (L := [some (.inr (.inr (.inl 63))), some (.inl v1), some (.inl v2), some (.inl v3), some (.inl q3)]) (S := [.inl q3]) (M := mm V h) rfl rfl rfl c4.1 c4.2 ?_
      by_cases c5 : 0 ≤ v2 ∧ v2 < (3 : Int)
      case neg => replace hf := (if_neg c5).symm.trans hf; cases hf
      replace hf := (if_pos c5).symm.trans hf
      refine ok_iald (i := v2) (id := 77) (n := 3) (L := [some (.inr (.inr (.inl 63))), some (.inl v1), some (.inl v2), some (.inl v3), some (.inl q3)]) (S := [.inl (V 78 v2.toNat), .inl q3]) (M := mm V h) rfl rfl rfl c5.1 c5.2 ?_
      refine ok_callA (L := [some (.inr (.inr (.inl 63))), some (.inl v1), some (.inl v2), some (.inl v3), some (.inl q3)]) (M := mm V h) (args := [.inl q3, .inl (V 78 v2.toNat), .inl (V 77 v2.toNat)]) (rest := []) (y2 := 152) rfl rfl rfl (Or.inr (Or.inl rfl)) rfl rfl (Nat.le_of_ble_eq_true rfl) rfl rfl (Nat.le_of_ble_eq_true rfl) (Nat.le_of_ble_eq_true rfl) (s_Mo_isIn rfl) ?_
      rintro _ _ ⟨rfl, rfl, hz6⟩
      obtain rfl := Option.some.inj hf
      have hz : (f_Mo_isIn V q3 (V 78 v2.toNat) (V 77 v2.toNat) : Int) = 0 ∨ (f_Mo_isIn V q3 (V 78 v2.toNat) (V 77 v2.toNat) : Int) = 1 := by
        first | exact Or.inl rfl | exact Or.inr rfl | assumption | (repeat' split) <;> first | exact Or.inl rfl | exact Or.inr rfl | assumption
      refine ok_zreturn (L := [some (.inr (.inr (.inl 63))), some (.inl v1), some (.inl v2), some (.inl v3), some (.inl q3)]) (M := mm V h) (x := f_Mo_isIn V q3 (V 78 v2.toNat) (V 77 v2.toNat)) rfl rfl hz ?_
      exact ⟨rfl, rfl, hz⟩
    ·
      replace hf := (if_pos c1).symm.trans hf
      by_cases c7 : 0 ≤ (w32 ((w32 (3 * v1)) + v4)) ∧ (w32 ((w32 (3 * v1)) + v4)) < (108 : Int)
      case neg => replace hf := (if_neg c7).symm.trans hf; cases hf
      replace hf := (if_pos c7).symm.trans hf
      refine ok_iald (i := w32 ((w32 (3 * v1)) + v4)) (id := 113) (n := 108) (L := [some (.inr (.inr (.inl 63))), some (.inl v1), some (.inl v2), some (.inl v3), some (.inl v4)]) (S := []) (M := mm V h) rfl rfl rfl c7.1 c7.2 ?_
      by_cases c8 : 0 ≤ v4 ∧ v4 < (3 : Int)
      case neg => replace hf := (if_neg c8).symm.trans hf; cases hf
      replace hf := (if_pos c8).symm.trans hf
      refine ok_iald (i := v4) (id := 79) (n := 3) (L := [some (.inr (.inr (.inl 63))), some (.inl v1), some (.inl v2), some (.inl v3), some (.inl v4)]) (S := [.inl (V 113 ((w32 ((w32 (3 * v1)) + v4)).toNat))]) (M := mm V h) rfl rfl rfl c8.1 c8.2 ?_
      refine ok_ic_ge (x := V 113 ((w32 ((w32 (3 * v1)) + v4)).toNat)) (u := V 79 v4.toNat) (L := [some (.inr (.inr (.inl 63))), some (.inl v1), some (.inl v2), some (.inl v3), some (.inl v4)]) (S := []) (M := mm V h) rfl rfl (fun c9 => ?_) (fun c9 => ?_)
      ·
        replace hf := (if_neg (Int.not_lt.mpr c9)).symm.trans hf
        refine ok_goto (L := [some (.inr (.inr (.inl 63))), some (.inl v1), some (.inl v2), some (.inl v3), some (.inl (w32 (v4 + 1)))]) (S := []) (M := mm V h) rfl rfl ?_
        exact ih v1 v2 v3 (w32 (v4 + 1)) hf
      ·
        replace hf := (if_pos c9).symm.trans hf
        obtain rfl := Option.some.inj hf
        have hz : (0 : Int) = 0 ∨ (0 : Int) = 1 := by
          first | exact Or.inl rfl | exact Or.inr rfl | assumption | (repeat' split) <;> first | exact Or.inl rfl | exact Or.inr rfl | assumption
        refine ok_zreturn (L := [some (.inr (.inr (.inl 63))), some (.inl v1), some (.inl v2), some (.inl v3), some (.inl v4)]) (M := mm V h) (x := 0) rfl rfl hz ?_
        exact ⟨rfl, rfl, hz⟩
theorem s_Mo_mayRoll_11 {X : Xs} {d : Nat} {V : VV} {h : HP} {v1 : Int} {v2 : Int} {v3 : Int} {v4 : Int} {n : Nat} {q : Int} (hf : f_Mo_mayRoll_11 n V v1 v2 v3 v4 = some q) : Ok X (d + 2) 219 11 ([some (.inr (.inr (.inl 63))), some (.inl v1), some (.inl v2), some (.inl v3), some (.inl v4)], [], mm V h) (fun M r => M = mm V h ∧ r = some (.inl q) ∧ (q = 0 ∨ q = 1)) :=
  s_Mo_mayRoll_11_n n v1 v2 v3 v4 hf
def f_Mo_mayRoll (V : VV) (v1 : Int) (v2 : Int) (v3 : Int) : Option (Int) := if 0 ≤ v1 ∧ v1 < (36 : Int) then if 0 ≤ v1 ∧ v1 < (36 : Int) then if (f_Mo_isIn V v3 (w32 ((V 97 v1.toNat) + 1)) (w32 ((V 97 v1.toNat) + 600))) = 0 then some 0 else if 0 ≤ v1 ∧ v1 < (36 : Int) then if (V 114 v1.toNat) < 0 then if 0 ≤ (w32 ((w32 (3 * v1)) + v2)) ∧ (w32 ((w32 (3 * v1)) + v2)) < (108 : Int) then if 0 ≤ v2 ∧ v2 < (3 : Int) then if (V 112 ((w32 ((w32 (3 * v1)) + v2)).toNat)) < (V 79 v2.toNat) then f_Mo_mayRoll_11 FU V v1 v2 v3 0 else some 0 else none else none else some 0 else none else none else none
set_option maxRecDepth 20000 in
set_option maxHeartbeats 4000000 in
theorem s_Mo_mayRoll {X : Xs} {d : Nat} {V : VV} {h : HP} {v1 : Int} {v2 : Int} {v3 : Int} {q : Int} (hf : f_Mo_mayRoll V v1 v2 v3 = some q) : Ok X (d + 2) 219 0 ([some (.inr (.inr (.inl 63))), some (.inl v1), some (.inl v2), some (.inl v3), none], [], mm V h) (fun M r => M = mm V h ∧ r = some (.inl q) ∧ (q = 0 ∨ q = 1)) := by
  let QQ : Mm → Option AV → Prop := fun M r => M = mm V h ∧ r = some (.inl q) ∧ (q = 0 ∨ q = 1)
  show Ok X (d + 2) 219 0 ([some (.inr (.inr (.inl 63))), some (.inl v1), some (.inl v2), some (.inl v3), none], [], mm V h) QQ
  by_cases c1 : 0 ≤ v1 ∧ v1 < (36 : Int)
  case neg => replace hf := (if_neg c1).symm.trans hf; cases hf
  replace hf := (if_pos c1).symm.trans hf
  refine ok_iald (i := v1) (id := 97) (n := 36) (L := [some (.inr (.inr (.inl 63))), some (.inl v1), some (.inl v2), some (.inl v3), none]) (S := [.inl v3]) (M := mm V h) rfl rfl rfl c1.1 c1.2 ?_
  by_cases c2 : 0 ≤ v1 ∧ v1 < (36 : Int)
  case neg => replace hf := (if_neg c2).symm.trans hf; cases hf
  replace hf := (if_pos c2).symm.trans hf
  refine ok_iald (i := v1) (id := 97) (n := 36) (L := [some (.inr (.inr (.inl 63))), some (.inl v1), some (.inl v2), some (.inl v3), none]) (S := [.inl (w32 ((V 97 v1.toNat) + 1)), .inl v3]) (M := mm V h) rfl rfl rfl c2.1 c2.2 ?_
  refine ok_callA (L := [some (.inr (.inr (.inl 63))), some (.inl v1), some (.inl v2), some (.inl v3), none]) (M := mm V h) (args := [.inl v3, .inl (w32 ((V 97 v1.toNat) + 1)), .inl (w32 ((V 97 v1.toNat) + 600))]) (rest := []) (y2 := 152) rfl rfl rfl (Or.inr (Or.inl rfl)) rfl rfl (Nat.le_of_ble_eq_true rfl) rfl rfl (Nat.le_of_ble_eq_true rfl) (Nat.le_of_ble_eq_true rfl) (s_Mo_isIn rfl) ?_
  rintro _ _ ⟨rfl, rfl, hz3⟩
  refine ok_if_eq (x := f_Mo_isIn V v3 (w32 ((V 97 v1.toNat) + 1)) (w32 ((V 97 v1.toNat) + 600))) (L := [some (.inr (.inr (.inl 63))), some (.inl v1), some (.inl v2), some (.inl v3), none]) (S := []) (M := mm V h) rfl rfl (fun c4 => ?_) (fun c4 => ?_)
  ·
    replace hf := (if_pos c4).symm.trans hf
    obtain rfl := Option.some.inj hf
    have hz : (0 : Int) = 0 ∨ (0 : Int) = 1 := by
      first | exact Or.inl rfl | exact Or.inr rfl | assumption | (repeat' split) <;> first | exact Or.inl rfl | exact Or.inr rfl | assumption
    refine ok_zreturn (L := [some (.inr (.inr (.inl 63))), some (.inl v1), some (.inl v2), some (.inl v3), none]) (M := mm V h) (x := 0) rfl rfl hz ?_
    exact ⟨rfl, rfl, hz⟩
  ·
    replace hf := (if_neg c4).symm.trans hf
    by_cases c5 : 0 ≤ v1 ∧ v1 < (36 : Int)
    case neg => replace hf := (if_neg c5).symm.trans hf; cases hf
    replace hf := (if_pos c5).symm.trans hf
    refine ok_iald (i := v1) (id := 114) (n := 36) (L := [some (.inr (.inr (.inl 63))), some (.inl v1), some (.inl v2), some (.inl v3), none]) (S := []) (M := mm V h) rfl rfl rfl c5.1 c5.2 ?_
    refine ok_if_ge (x := V 114 v1.toNat) (L := [some (.inr (.inr (.inl 63))), some (.inl v1), some (.inl v2), some (.inl v3), none]) (S := []) (M := mm V h) rfl rfl (fun c6 => ?_) (fun c6 => ?_)
    ·
      replace hf := (if_neg (Int.not_lt.mpr c6)).symm.trans hf
      obtain rfl := Option.some.inj hf
      have hz : (0 : Int) = 0 ∨ (0 : Int) = 1 := by
        first | exact Or.inl rfl | exact Or.inr rfl | assumption | (repeat' split) <;> first | exact Or.inl rfl | exact Or.inr rfl | assumption
      refine ok_zreturn (L := [some (.inr (.inr (.inl 63))), some (.inl v1), some (.inl v2), some (.inl v3), none]) (M := mm V h) (x := 0) rfl rfl hz ?_
      exact ⟨rfl, rfl, hz⟩
    ·
      replace hf := (if_pos c6).symm.trans hf
      by_cases c7 : 0 ≤ (w32 ((w32 (3 * v1)) + v2)) ∧ (w32 ((w32 (3 * v1)) + v2)) < (108 : Int)
      case neg => replace hf := (if_neg c7).symm.trans hf; cases hf
      replace hf := (if_pos c7).symm.trans hf
      refine ok_iald (i := w32 ((w32 (3 * v1)) + v2)) (id := 112) (n := 108) (L := [some (.inr (.inr (.inl 63))), some (.inl v1), some (.inl v2), some (.inl v3), none]) (S := []) (M := mm V h) rfl rfl rfl c7.1 c7.2 ?_
      by_cases c8 : 0 ≤ v2 ∧ v2 < (3 : Int)
      case neg => replace hf := (if_neg c8).symm.trans hf; cases hf
      replace hf := (if_pos c8).symm.trans hf
      refine ok_iald (i := v2) (id := 79) (n := 3) (L := [some (.inr (.inr (.inl 63))), some (.inl v1), some (.inl v2), some (.inl v3), none]) (S := [.inl (V 112 ((w32 ((w32 (3 * v1)) + v2)).toNat))]) (M := mm V h) rfl rfl rfl c8.1 c8.2 ?_
      refine ok_ic_lt (x := V 112 ((w32 ((w32 (3 * v1)) + v2)).toNat)) (u := V 79 v2.toNat) (L := [some (.inr (.inr (.inl 63))), some (.inl v1), some (.inl v2), some (.inl v3), none]) (S := []) (M := mm V h) rfl rfl (fun c9 => ?_) (fun c9 => ?_)
      ·
        replace hf := (if_pos c9).symm.trans hf
        refine ok_thru (L := [some (.inr (.inr (.inl 63))), some (.inl v1), some (.inl v2), some (.inl v3), some (.inl 0)]) (S := []) (M := mm V h) rfl rfl ?_
        exact s_Mo_mayRoll_11 hf
      ·
        replace hf := (if_neg (Int.not_lt.mpr c9)).symm.trans hf
        obtain rfl := Option.some.inj hf
        have hz : (0 : Int) = 0 ∨ (0 : Int) = 1 := by
          first | exact Or.inl rfl | exact Or.inr rfl | assumption | (repeat' split) <;> first | exact Or.inl rfl | exact Or.inr rfl | assumption
        refine ok_zreturn (L := [some (.inr (.inr (.inl 63))), some (.inl v1), some (.inl v2), some (.inl v3), none]) (M := mm V h) (x := 0) rfl rfl hz ?_
        exact ⟨rfl, rfl, hz⟩
def f_Mo_rollOne_12 (k2 : VV → Int → Int → Int → Int → Int → (Option (VV))) (V : VV) (v1 : Int) (v2 : Int) (v3 : Int) (v4 : Int) (v5 : Int) : Option (VV) := k2 V v1 v2 v3 v4 (w32 (v5 + 1))
set_option maxRecDepth 20000 in
set_option maxHeartbeats 4000000 in
theorem s_Mo_rollOne_12 {X : Xs} {d : Nat} {k2 : VV → Int → Int → Int → Int → Int → (Option (VV))} {V : VV} {h : HP} {v1 : Int} {v2 : Int} {v3 : Int} {v4 : Int} {v5 : Int} {q : VV} (hf : f_Mo_rollOne_12 k2 V v1 v2 v3 v4 v5 = some q) (K2 : ∀ (V : VV) (v1 : Int) (v2 : Int) (v3 : Int) (v4 : Int) (v5 : Int), k2 V v1 v2 v3 v4 v5 = some q → Ok X (d + 3) 218 2 ([some (.inr (.inr (.inl 63))), some (.inl v1), some (.inl v2), some (.inl v3), some (.inl v4), some (.inl v5)], [], mm V h) (fun M r => M = mm q h ∧ r = none)) : Ok X (d + 3) 218 12 ([some (.inr (.inr (.inl 63))), some (.inl v1), some (.inl v2), some (.inl v3), some (.inl v4), some (.inl v5)], [], mm V h) (fun M r => M = mm q h ∧ r = none) := by
  let QQ : Mm → Option AV → Prop := fun M r => M = mm q h ∧ r = none
  show Ok X (d + 3) 218 12 ([some (.inr (.inr (.inl 63))), some (.inl v1), some (.inl v2), some (.inl v3), some (.inl v4), some (.inl v5)], [], mm V h) QQ
  refine ok_goto (L := [some (.inr (.inr (.inl 63))), some (.inl v1), some (.inl v2), some (.inl v3), some (.inl v4), some (.inl (w32 (v5 + 1)))]) (S := []) (M := mm V h) rfl rfl ?_
  exact K2 V v1 v2 v3 v4 (w32 (v5 + 1)) hf
def f_Mo_rollOne_11 (k2 : VV → Int → Int → Int → Int → Int → (Option (VV))) (V : VV) (v1 : Int) (v2 : Int) (v3 : Int) (v5 : Int) : Option (VV) := f_Mo_rollOne_12 k2 V v1 v2 v3 v5 v5
set_option maxRecDepth 20000 in
set_option maxHeartbeats 4000000 in
theorem s_Mo_rollOne_11 {X : Xs} {d : Nat} {k2 : VV → Int → Int → Int → Int → Int → (Option (VV))} {V : VV} {h : HP} {v1 : Int} {v2 : Int} {v3 : Int} {v5 : Int} {w4 : Int} {q : VV} (hf : f_Mo_rollOne_11 k2 V v1 v2 v3 v5 = some q) (K2 : ∀ (V : VV) (v1 : Int) (v2 : Int) (v3 : Int) (v4 : Int) (v5 : Int), k2 V v1 v2 v3 v4 v5 = some q → Ok X (d + 3) 218 2 ([some (.inr (.inr (.inl 63))), some (.inl v1), some (.inl v2), some (.inl v3), some (.inl v4), some (.inl v5)], [], mm V h) (fun M r => M = mm q h ∧ r = none)) : Ok X (d + 3) 218 11 ([some (.inr (.inr (.inl 63))), some (.inl v1), some (.inl v2), some (.inl v3), some (.inl w4), some (.inl v5)], [], mm V h) (fun M r => M = mm q h ∧ r = none) := by
  let QQ : Mm → Option AV → Prop := fun M r => M = mm q h ∧ r = none
  show Ok X (d + 3) 218 11 ([some (.inr (.inr (.inl 63))), some (.inl v1), some (.inl v2), some (.inl v3), some (.inl w4), some (.inl v5)], [], mm V h) QQ
  refine ok_thru (L := [some (.inr (.inr (.inl 63))), some (.inl v1), some (.inl v2), some (.inl v3), some (.inl v5), some (.inl v5)]) (S := []) (M := mm V h) rfl rfl ?_
  exact s_Mo_rollOne_12 hf K2
def f_Mo_rollOne_2 : Nat → VV → Int → Int → Int → Int → Int → (Option (VV))
  | 0, _, _, _, _, _, _ => none
  | n + 1, V, v1, v2, v3, v4, v5 => if v5 < (V 62 13) then Option.bind (f_Mo_mayRoll V v5 v3 v2) (fun q14 => if q14 = 0 then f_Mo_rollOne_12 (f_Mo_rollOne_2 n) V v1 v2 v3 v4 v5 else if v4 < 0 then f_Mo_rollOne_11 (f_Mo_rollOne_2 n) V v1 v2 v3 v5 else if 0 ≤ v5 ∧ v5 < (36 : Int) then Option.bind (f_Mo_meanOf V v5 (w32 (v2 - (V 97 v5.toNat)))) (fun q18 => if 0 ≤ v4 ∧ v4 < (36 : Int) then Option.bind (f_Mo_meanOf V v4 (w32 (v2 - (V 97 v4.toNat)))) (fun q20 => if q18 < q20 then f_Mo_rollOne_11 (f_Mo_rollOne_2 n) V v1 v2 v3 v5 else f_Mo_rollOne_12 (f_Mo_rollOne_2 n) V v1 v2 v3 v4 v5) else none) else none) else if v4 < 0 then some V else if (V 62 0) = 0 then none else if 0 ≤ (Int.tmod v4 (V 62 0)) ∧ (Int.tmod v4 (V 62 0)) < (12 : Int) then if 0 ≤ v1 ∧ v1 < (6 : Int) then if 0 ≤ v1 ∧ v1 < (6 : Int) then if (V 76 v1.toNat) = 0 then none else if 0 ≤ (w32 ((w32 (3 * v4)) + v3)) ∧ (w32 ((w32 (3 * v4)) + v3)) < (108 : Int) then if 0 ≤ (w32 ((w32 (3 * v4)) + v3)) ∧ (w32 ((w32 (3 * v4)) + v3)) < (108 : Int) then if 0 ≤ v4 ∧ v4 < (36 : Int) then if 0 ≤ v4 ∧ v4 < (36 : Int) then if 0 ≤ v4 ∧ v4 < (36 : Int) then if 0 ≤ v1 ∧ v1 < (6 : Int) then some (up (up (up (up (up V 112 ((w32 ((w32 (3 * v4)) + v3)).toNat) (w32 ((V 112 ((w32 ((w32 (3 * v4)) + v3)).toNat)) + 1))) 114 v4.toNat (w32 (v2 + (w32 (Int.tdiv (w32 ((w32 ((V 63 ((Int.tmod v4 (V 62 0)).toNat)) + (V 76 v1.toNat))) - 1)) (V 76 v1.toNat)))))) 115 v4.toNat v3) 116 v4.toNat (w32 (v2 + (w32 (Int.tdiv (w32 ((w32 ((V 63 ((Int.tmod v4 (V 62 0)).toNat)) + (V 76 v1.toNat))) - 1)) (V 76 v1.toNat)))))) 117 v1.toNat (w32 (v2 + (w32 (Int.tdiv (w32 ((w32 ((V 63 ((Int.tmod v4 (V 62 0)).toNat)) + (V 76 v1.toNat))) - 1)) (V 76 v1.toNat)))))) else none else none else none else none else none else none else none else none else none
set_option maxRecDepth 20000 in
set_option maxHeartbeats 4000000 in
theorem s_Mo_rollOne_2_n {X : Xs} {d : Nat} {h : HP} {q : VV} : ∀ (n : Nat) (V : VV) (v1 : Int) (v2 : Int) (v3 : Int) (v4 : Int) (v5 : Int), f_Mo_rollOne_2 n V v1 v2 v3 v4 v5 = some q → Ok X (d + 3) 218 2 ([some (.inr (.inr (.inl 63))), some (.inl v1), some (.inl v2), some (.inl v3), some (.inl v4), some (.inl v5)], [], mm V h) (fun M r => M = mm q h ∧ r = none) := by
  intro n
  induction n with
  | zero => intro V v1 v2 v3 v4 v5 hf; cases hf
  | succ n ih =>
    intro V v1 v2 v3 v4 v5 hf
    let QQ : Mm → Option AV → Prop := fun M r => M = mm q h ∧ r = none
    show Ok X (d + 3) 218 2 ([some (.inr (.inr (.inl 63))), some (.inl v1), some (.inl v2), some (.inl v3), some (.inl v4), some (.inl v5)], [], mm V h) QQ
    refine ok_ic_ge (x := v5) (u := V 62 13) (L := [some (.inr (.inr (.inl 63))), some (.inl v1), some (.inl v2), some (.inl v3), some (.inl v4), some (.inl v5)]) (S := []) (M := mm V h) rfl rfl (fun c1 => ?_) (fun c1 => ?_)
    ·
      replace hf := (if_neg (Int.not_lt.mpr c1)).symm.trans hf
      refine ok_if_ge (x := v4) (L := [some (.inr (.inr (.inl 63))), some (.inl v1), some (.inl v2), some (.inl v3), some (.inl v4), some (.inl v5)]) (S := []) (M := mm V h) rfl rfl (fun c2 => ?_) (fun c2 => ?_)
      ·
        replace hf := (if_neg (Int.not_lt.mpr c2)).symm.trans hf
        by_cases c3 : (V 62 0) = 0
        case pos => replace hf := (if_pos c3).symm.trans hf; cases hf
        replace hf := (if_neg c3).symm.trans hf
        refine ok_irem (u := v4) (v := V 62 0) (L := [some (.inr (.inr (.inl 63))), some (.inl v1), some (.inl v2), some (.inl v3), some (.inl v4), some (.inl v5)]) (S := [.inr (.inr (.inl 64))]) (M := mm V h) rfl rfl c3 ?_
        by_cases c4 : 0 ≤ (Int.tmod v4 (V 62 0)) ∧ (Int.tmod v4 (V 62 0)) < (12 : Int)
        case neg => replace hf := (if_neg c4).symm.trans hf; cases hf
        replace hf := (if_pos c4).symm.trans hf
        refine ok_iald (i := Int.tmod v4 (V 62 0)) (id := 63) (n := 12) (L := [some (.inr (.inr (.inl 63))), some (.inl v1), some (.inl v2), some (.inl v3), some (.inl v4), some (.inl v5)]) (S := []) (M := mm V h) rfl rfl rfl c4.1 c4.2 ?_
        by_cases c5 : 0 ≤ v1 ∧ v1 < (6 : Int)
        case neg => replace hf := (if_neg c5).symm.trans hf; cases hf
        replace hf := (if_pos c5).symm.trans hf
        refine ok_iald (i := v1) (id := 76) (n := 6) (L := [some (.inr (.inr (.inl 63))), some (.inl v1), some (.inl v2), some (.inl v3), some (.inl v4), some (.inl v5)]) (S := [.inl (V 63 ((Int.tmod v4 (V 62 0)).toNat))]) (M := mm V h) rfl rfl rfl c5.1 c5.2 ?_
        by_cases c6 : 0 ≤ v1 ∧ v1 < (6 : Int)
        case neg => replace hf := (if_neg c6).symm.trans hf; cases hf
        replace hf := (if_pos c6).symm.trans hf
        refine ok_iald (i := v1) (id := 76) (n := 6) (L := [some (.inr (.inr (.inl 63))), some (.inl v1), some (.inl v2), some (.inl v3), some (.inl v4), some (.inl v5)]) (S := [.inl (w32 ((w32 ((V 63 ((Int.tmod v4 (V 62 0)).toNat)) + (V 76 v1.toNat))) - 1))]) (M := mm V h) rfl rfl rfl c6.1 c6.2 ?_
        by_cases c7 : (V 76 v1.toNat) = 0
        case pos => replace hf := (if_pos c7).symm.trans hf; cases hf
        replace hf := (if_neg c7).symm.trans hf
        refine ok_idiv (u := w32 ((w32 ((V 63 ((Int.tmod v4 (V 62 0)).toNat)) + (V 76 v1.toNat))) - 1)) (v := V 76 v1.toNat) (L := [some (.inr (.inr (.inl 63))), some (.inl v1), some (.inl v2), some (.inl v3), some (.inl v4), some (.inl v5)]) (S := []) (M := mm V h) rfl rfl c7 ?_
        by_cases c8 : 0 ≤ (w32 ((w32 (3 * v4)) + v3)) ∧ (w32 ((w32 (3 * v4)) + v3)) < (108 : Int)
        case neg => replace hf := (if_neg c8).symm.trans hf; cases hf
        replace hf := (if_pos c8).symm.trans hf
        refine ok_iald (i := w32 ((w32 (3 * v4)) + v3)) (id := 112) (n := 108) (L := [some (.inr (.inr (.inl 63))), some (.inl v1), some (.inl v2), some (.inl v3), some (.inl v4), some (.inl (w32 (Int.tdiv (w32 ((w32 ((V 63 ((Int.tmod v4 (V 62 0)).toNat)) + (V 76 v1.toNat))) - 1)) (V 76 v1.toNat))))]) (S := [.inl (w32 ((w32 (3 * v4)) + v3)), .inr (.inr (.inl 113))]) (M := mm V h) rfl rfl rfl c8.1 c8.2 ?_
        by_cases c9 : 0 ≤ (w32 ((w32 (3 * v4)) + v3)) ∧ (w32 ((w32 (3 * v4)) + v3)) < (108 : Int)
        case neg => replace hf := (if_neg c9).symm.trans hf; cases hf
        replace hf := (if_pos c9).symm.trans hf
        refine ok_iast (i := w32 ((w32 (3 * v4)) + v3)) (v := w32 ((V 112 ((w32 ((w32 (3 * v4)) + v3)).toNat)) + 1)) (id := 112) (n := 108) (L := [some (.inr (.inr (.inl 63))), some (.inl v1), some (.inl v2), some (.inl v3), some (.inl v4), some (.inl (w32 (Int.tdiv (w32 ((w32 ((V 63 ((Int.tmod v4 (V 62 0)).toNat)) + (V 76 v1.toNat))) - 1)) (V 76 v1.toNat))))]) (S := []) (M := mm V h) rfl rfl rfl c9.1 c9.2 ?_
        by_cases c10 : 0 ≤ v4 ∧ v4 < (36 : Int)
        case neg => replace hf := (if_neg c10).symm.trans hf; cases hf
        replace hf := (if_pos c10).symm.trans hf
        refine ok_iast (i := v4) (v := w32 (v2 + (w32 (Int.tdiv (w32 ((w32 ((V 63 ((Int.tmod v4 (V 62 0)).toNat)) + (V 76 v1.toNat))) - 1)) (V 76 v1.toNat))))) (id := 114) (n := 36) (L := [some (.inr (.inr (.inl 63))), some (.inl v1), some (.inl v2), some (.inl v3), some (.inl v4), some (.inl (w32 (Int.tdiv (w32 ((w32 ((V 63 ((Int.tmod v4 (V 62 0)).toNat)) + (V 76 v1.toNat))) - 1)) (V 76 v1.toNat))))]) (S := []) (M := mm (up V 112 ((w32 ((w32 (3 * v4)) + v3)).toNat) (w32 ((V 112 ((w32 ((w32 (3 * v4)) + v3)).toNat)) + 1))) h) rfl rfl rfl c10.1 c10.2 ?_
        by_cases c11 : 0 ≤ v4 ∧ v4 < (36 : Int)
        case neg => replace hf := (if_neg c11).symm.trans hf; cases hf
        replace hf := (if_pos c11).symm.trans hf
        refine ok_iast (i := v4) (v := v3) (id := 115) (n := 36) (L := [some (.inr (.inr (.inl 63))), some (.inl v1), some (.inl v2), some (.inl v3), some (.inl v4), some (.inl (w32 (Int.tdiv (w32 ((w32 ((V 63 ((Int.tmod v4 (V 62 0)).toNat)) + (V 76 v1.toNat))) - 1)) (V 76 v1.toNat))))]) (S := []) (M := mm (up (up V 112 ((w32 ((w32 (3 * v4)) + v3)).toNat) (w32 ((V 112 ((w32 ((w32 (3 * v4)) + v3)).toNat)) + 1))) 114 v4.toNat (w32 (v2 + (w32 (Int.tdiv (w32 ((w32 ((V 63 ((Int.tmod v4 (V 62 0)).toNat)) + (V 76 v1.toNat))) - 1)) (V 76 v1.toNat)))))) h) rfl rfl rfl c11.1 c11.2 ?_
        by_cases c12 : 0 ≤ v4 ∧ v4 < (36 : Int)
        case neg => replace hf := (if_neg c12).symm.trans hf; cases hf
        replace hf := (if_pos c12).symm.trans hf
        refine ok_iast (i := v4) (v := w32 (v2 + (w32 (Int.tdiv (w32 ((w32 ((V 63 ((Int.tmod v4 (V 62 0)).toNat)) + (V 76 v1.toNat))) - 1)) (V 76 v1.toNat))))) (id := 116) (n := 36) (L := [some (.inr (.inr (.inl 63))), some (.inl v1), some (.inl v2), some (.inl v3), some (.inl v4), some (.inl (w32 (Int.tdiv (w32 ((w32 ((V 63 ((Int.tmod v4 (V 62 0)).toNat)) + (V 76 v1.toNat))) - 1)) (V 76 v1.toNat))))]) (S := []) (M := mm (up (up (up V 112 ((w32 ((w32 (3 * v4)) + v3)).toNat) (w32 ((V 112 ((w32 ((w32 (3 * v4)) + v3)).toNat)) + 1))) 114 v4.toNat (w32 (v2 + (w32 (Int.tdiv (w32 ((w32 ((V 63 ((Int.tmod v4 (V 62 0)).toNat)) + (V 76 v1.toNat))) - 1)) (V 76 v1.toNat)))))) 115 v4.toNat v3) h) rfl rfl rfl c12.1 c12.2 ?_
        by_cases c13 : 0 ≤ v1 ∧ v1 < (6 : Int)
        case neg => replace hf := (if_neg c13).symm.trans hf; cases hf
        replace hf := (if_pos c13).symm.trans hf
        refine ok_iast (i := v1) (v := w32 (v2 + (w32 (Int.tdiv (w32 ((w32 ((V 63 ((Int.tmod v4 (V 62 0)).toNat)) + (V 76 v1.toNat))) - 1)) (V 76 v1.toNat))))) (id := 117) (n := 6) (L := [some (.inr (.inr (.inl 63))), some (.inl v1), some (.inl v2), some (.inl v3), some (.inl v4), some (.inl (w32 (Int.tdiv (w32 ((w32 ((V 63 ((Int.tmod v4 (V 62 0)).toNat)) + (V 76 v1.toNat))) - 1)) (V 76 v1.toNat))))]) (S := []) (M := mm (up (up (up (up V 112 ((w32 ((w32 (3 * v4)) + v3)).toNat) (w32 ((V 112 ((w32 ((w32 (3 * v4)) + v3)).toNat)) + 1))) 114 v4.toNat (w32 (v2 + (w32 (Int.tdiv (w32 ((w32 ((V 63 ((Int.tmod v4 (V 62 0)).toNat)) + (V 76 v1.toNat))) - 1)) (V 76 v1.toNat)))))) 115 v4.toNat v3) 116 v4.toNat (w32 (v2 + (w32 (Int.tdiv (w32 ((w32 ((V 63 ((Int.tmod v4 (V 62 0)).toNat)) + (V 76 v1.toNat))) - 1)) (V 76 v1.toNat)))))) h) rfl rfl rfl c13.1 c13.2 ?_
        obtain rfl := Option.some.inj hf
        refine ok_return (L := [some (.inr (.inr (.inl 63))), some (.inl v1), some (.inl v2), some (.inl v3), some (.inl v4), some (.inl (w32 (Int.tdiv (w32 ((w32 ((V 63 ((Int.tmod v4 (V 62 0)).toNat)) + (V 76 v1.toNat))) - 1)) (V 76 v1.toNat))))]) (M := mm (up (up (up (up (up V 112 ((w32 ((w32 (3 * v4)) + v3)).toNat) (w32 ((V 112 ((w32 ((w32 (3 * v4)) + v3)).toNat)) + 1))) 114 v4.toNat (w32 (v2 + (w32 (Int.tdiv (w32 ((w32 ((V 63 ((Int.tmod v4 (V 62 0)).toNat)) + (V 76 v1.toNat))) - 1)) (V 76 v1.toNat)))))) 115 v4.toNat v3) 116 v4.toNat (w32 (v2 + (w32 (Int.tdiv (w32 ((w32 ((V 63 ((Int.tmod v4 (V 62 0)).toNat)) + (V 76 v1.toNat))) - 1)) (V 76 v1.toNat)))))) 117 v1.toNat (w32 (v2 + (w32 (Int.tdiv (w32 ((w32 ((V 63 ((Int.tmod v4 (V 62 0)).toNat)) + (V 76 v1.toNat))) - 1)) (V 76 v1.toNat)))))) h) rfl rfl ?_
        exact ⟨rfl, rfl⟩
      ·
        replace hf := (if_pos c2).symm.trans hf
        obtain rfl := Option.some.inj hf
        refine ok_return (L := [some (.inr (.inr (.inl 63))), some (.inl v1), some (.inl v2), some (.inl v3), some (.inl v4), some (.inl v5)]) (M := mm V h) rfl rfl ?_
        exact ⟨rfl, rfl⟩
    ·
      replace hf := (if_pos c1).symm.trans hf
      obtain ⟨q14, e14, hf⟩ := obind hf
      refine ok_callA (L := [some (.inr (.inr (.inl 63))), some (.inl v1), some (.inl v2), some (.inl v3), some (.inl v4), some (.inl v5)]) (M := mm V h) (args := [.inr (.inr (.inl 63)), .inl v5, .inl v3, .inl v2]) (rest := []) (y2 := 219) rfl rfl rfl (Or.inl rfl) rfl rfl (Nat.le_of_ble_eq_true rfl) rfl rfl (Nat.le_of_ble_eq_true rfl) (Nat.le_of_ble_eq_true rfl) (s_Mo_mayRoll e14) ?_
      rintro _ _ ⟨rfl, rfl, hz14⟩
      refine ok_if_eq (x := q14) (L := [some (.inr (.inr (.inl 63))), some (.inl v1), some (.inl v2), some (.inl v3), some (.inl v4), some (.inl v5)]) (S := []) (M := mm V h) rfl rfl (fun c15 => ?_) (fun c15 => ?_)
      ·
        replace hf := (if_pos c15).symm.trans hf
        exact s_Mo_rollOne_12 hf ih
      ·
        replace hf := (if_neg c15).symm.trans hf
        refine ok_if_lt (x := v4) (L := [some (.inr (.inr (.inl 63))), some (.inl v1), some (.inl v2), some (.inl v3), some (.inl v4), some (.inl v5)]) (S := []) (M := mm V h) rfl rfl (fun c16 => ?_) (fun c16 => ?_)
        ·
          replace hf := (if_pos c16).symm.trans hf
          exact s_Mo_rollOne_11 hf ih
        ·
          replace hf := (if_neg (Int.not_lt.mpr c16)).symm.trans hf
          by_cases c17 : 0 ≤ v5 ∧ v5 < (36 : Int)
          case neg => replace hf := (if_neg c17).symm.trans hf; cases hf
          replace hf := (if_pos c17).symm.trans hf
          refine ok_iald (i := v5) (id := 97) (n := 36) (L := [some (.inr (.inr (.inl 63))), some (.inl v1), some (.inl v2), some (.inl v3), some (.inl v4), some (.inl v5)]) (S := [.inl v2, .inl v5, .inr (.inr (.inl 63))]) (M := mm V h) rfl rfl rfl c17.1 c17.2 ?_
          obtain ⟨q18, e18, hf⟩ := obind hf
          refine ok_callA (L := [some (.inr (.inr (.inl 63))), some (.inl v1), some (.inl v2), some (.inl v3), some (.inl v4), some (.inl v5)]) (M := mm V h) (args := [.inr (.inr (.inl 63)), .inl v5, .inl (w32 (v2 - (V 97 v5.toNat)))]) (rest := []) (y2 := 205) rfl rfl rfl (Or.inl rfl) rfl rfl (Nat.le_of_ble_eq_true rfl) rfl rfl (Nat.le_of_ble_eq_true rfl) (Nat.le_of_ble_eq_true rfl) (s_Mo_meanOf e18) ?_
          rintro _ _ ⟨rfl, rfl⟩
          by_cases c19 : 0 ≤ v4 ∧ v4 < (36 : Int)
          case neg => replace hf := (if_neg c19).symm.trans hf; cases hf
          replace hf := (if_pos c19).symm.trans hf
          refine ok_iald (i := v4) (id := 97) (n := 36) (L := [some (.inr (.inr (.inl 63))), some (.inl v1), some (.inl v2), some (.inl v3), some (.inl v4), some (.inl v5)]) (S := [.inl v2, .inl v4, .inr (.inr (.inl 63)), .inl q18]) (M := mm V h) rfl rfl rfl c19.1 c19.2 ?_
          obtain ⟨q20, e20, hf⟩ := obind hf
          refine ok_callA (L := [some (.inr (.inr (.inl 63))), some (.inl v1), some (.inl v2), some (.inl v3), some (.inl v4), some (.inl v5)]) (M := mm V h) (args := [.inr (.inr (.inl 63)), .inl v4, .inl (w32 (v2 - (V 97 v4.toNat)))]) (rest := [.inl q18]) (y2 := 205) rfl rfl rfl (Or.inl rfl) rfl rfl (Nat.le_of_ble_eq_true rfl) rfl rfl (Nat.le_of_ble_eq_true rfl) (Nat.le_of_ble_eq_true rfl) (s_Mo_meanOf e20) ?_
          rintro _ _ ⟨rfl, rfl⟩
          refine ok_ic_ge (x := q18) (u := q20) (L := [some (.inr (.inr (.inl 63))), some (.inl v1), some (.inl v2), some (.inl v3), some (.inl v4), some (.inl v5)]) (S := []) (M := mm V h) rfl rfl (fun c21 => ?_) (fun c21 => ?_)
          ·
            replace hf := (if_neg (Int.not_lt.mpr c21)).symm.trans hf
            exact s_Mo_rollOne_12 hf ih
          ·
            replace hf := (if_pos c21).symm.trans hf
            exact s_Mo_rollOne_11 hf ih
theorem s_Mo_rollOne_2 {X : Xs} {d : Nat} {h : HP} {V : VV} {v1 : Int} {v2 : Int} {v3 : Int} {v4 : Int} {v5 : Int} {n : Nat} {q : VV} (hf : f_Mo_rollOne_2 n V v1 v2 v3 v4 v5 = some q) : Ok X (d + 3) 218 2 ([some (.inr (.inr (.inl 63))), some (.inl v1), some (.inl v2), some (.inl v3), some (.inl v4), some (.inl v5)], [], mm V h) (fun M r => M = mm q h ∧ r = none) :=
  s_Mo_rollOne_2_n n V v1 v2 v3 v4 v5 hf
def f_Mo_rollOne (V : VV) (v1 : Int) (v2 : Int) : Option (VV) := if 0 ≤ v1 ∧ v1 < (6 : Int) then f_Mo_rollOne_2 FU V v1 v2 (V 75 v1.toNat) (-1) 0 else none
set_option maxRecDepth 20000 in
set_option maxHeartbeats 4000000 in
theorem s_Mo_rollOne {X : Xs} {d : Nat} {V : VV} {h : HP} {v1 : Int} {v2 : Int} {q : VV} (hf : f_Mo_rollOne V v1 v2 = some q) : Ok X (d + 3) 218 0 ([some (.inr (.inr (.inl 63))), some (.inl v1), some (.inl v2), none, none, none], [], mm V h) (fun M r => M = mm q h ∧ r = none) := by
  let QQ : Mm → Option AV → Prop := fun M r => M = mm q h ∧ r = none
  show Ok X (d + 3) 218 0 ([some (.inr (.inr (.inl 63))), some (.inl v1), some (.inl v2), none, none, none], [], mm V h) QQ
  by_cases c1 : 0 ≤ v1 ∧ v1 < (6 : Int)
  case neg => replace hf := (if_neg c1).symm.trans hf; cases hf
  replace hf := (if_pos c1).symm.trans hf
  refine ok_iald (i := v1) (id := 75) (n := 6) (L := [some (.inr (.inr (.inl 63))), some (.inl v1), some (.inl v2), none, none, none]) (S := []) (M := mm V h) rfl rfl rfl c1.1 c1.2 ?_
  refine ok_thru (L := [some (.inr (.inr (.inl 63))), some (.inl v1), some (.inl v2), some (.inl (V 75 v1.toNat)), some (.inl (-1)), some (.inl 0)]) (S := []) (M := mm V h) rfl rfl ?_
  exact s_Mo_rollOne_2 hf
def f_Mo_roll_5 (k1 : VV → Int → (Option (VV))) : Nat → VV → Int → Int → (Option (VV))
  | 0, _, _, _ => none
  | n + 1, V, v1, v2 => if v2 < 3 then if 0 ≤ (w32 ((w32 (3 * v1)) + v2)) ∧ (w32 ((w32 (3 * v1)) + v2)) < (108 : Int) then if 0 ≤ (w32 ((w32 (3 * v1)) + v2)) ∧ (w32 ((w32 (3 * v1)) + v2)) < (108 : Int) then f_Mo_roll_5 k1 n (up (up V 112 ((w32 ((w32 (3 * v1)) + v2)).toNat) 0) 113 ((w32 ((w32 (3 * v1)) + v2)).toNat) 0) v1 (w32 (v2 + 1)) else none else none else k1 V (w32 (v1 + 1))
set_option maxRecDepth 20000 in
set_option maxHeartbeats 4000000 in
theorem s_Mo_roll_5_n {X : Xs} {d : Nat} {k1 : VV → Int → (Option (VV))} {h : HP} {q : VV} (K1 : ∀ (V : VV) (v1 : Int) (z2 : Option AV), k1 V v1 = some q → Ok X (d + 4) 216 1 ([some (.inr (.inr (.inl 63))), some (.inl v1), z2], [], mm V h) (fun M r => M = mm q h ∧ r = none)) : ∀ (n : Nat) (V : VV) (v1 : Int) (v2 : Int), f_Mo_roll_5 k1 n V v1 v2 = some q → Ok X (d + 4) 216 5 ([some (.inr (.inr (.inl 63))), some (.inl v1), some (.inl v2)], [], mm V h) (fun M r => M = mm q h ∧ r = none) := by
  intro n
  induction n with
  | zero => intro V v1 v2 hf; cases hf
  | succ n ih =>
    intro V v1 v2 hf
    let QQ : Mm → Option AV → Prop := fun M r => M = mm q h ∧ r = none
    show Ok X (d + 4) 216 5 ([some (.inr (.inr (.inl 63))), some (.inl v1), some (.inl v2)], [], mm V h) QQ
    refine ok_ic_ge (x := v2) (u := 3) (L := [some (.inr (.inr (.inl 63))), some (.inl v1), some (.inl v2)]) (S := []) (M := mm V h) rfl rfl (fun c1 => ?_) (fun c1 => ?_)
    ·
      replace hf := (if_neg (Int.not_lt.mpr c1)).symm.trans hf
      refine ok_goto (L := [some (.inr (.inr (.inl 63))), some (.inl (w32 (v1 + 1))), some (.inl v2)]) (S := []) (M := mm V h) rfl rfl ?_
      exact K1 V (w32 (v1 + 1)) (some (.inl v2)) hf
    ·
      replace hf := (if_pos c1).symm.trans hf
      by_cases c2 : 0 ≤ (w32 ((w32 (3 * v1)) + v2)) ∧ (w32 ((w32 (3 * v1)) + v2)) < (108 : Int)
      case neg => replace hf := (if_neg c2).symm.trans hf; cases hf
      replace hf := (if_pos c2).symm.trans hf
      refine ok_iast (i := w32 ((w32 (3 * v1)) + v2)) (v := 0) (id := 112) (n := 108) (L := [some (.inr (.inr (.inl 63))), some (.inl v1), some (.inl v2)]) (S := []) (M := mm V h) rfl rfl rfl c2.1 c2.2 ?_
      by_cases c3 : 0 ≤ (w32 ((w32 (3 * v1)) + v2)) ∧ (w32 ((w32 (3 * v1)) + v2)) < (108 : Int)
      case neg => replace hf := (if_neg c3).symm.trans hf; cases hf
      replace hf := (if_pos c3).symm.trans hf
      refine ok_iast (i := w32 ((w32 (3 * v1)) + v2)) (v := 0) (id := 113) (n := 108) (L := [some (.inr (.inr (.inl 63))), some (.inl v1), some (.inl v2)]) (S := []) (M := mm (up V 112 ((w32 ((w32 (3 * v1)) + v2)).toNat) 0) h) rfl rfl rfl c3.1 c3.2 ?_
      refine ok_goto (L := [some (.inr (.inr (.inl 63))), some (.inl v1), some (.inl (w32 (v2 + 1)))]) (S := []) (M := mm (up (up V 112 ((w32 ((w32 (3 * v1)) + v2)).toNat) 0) 113 ((w32 ((w32 (3 * v1)) + v2)).toNat) 0) h) rfl rfl ?_
      exact ih (up (up V 112 ((w32 ((w32 (3 * v1)) + v2)).toNat) 0) 113 ((w32 ((w32 (3 * v1)) + v2)).toNat) 0) v1 (w32 (v2 + 1)) hf
theorem s_Mo_roll_5 {X : Xs} {d : Nat} {k1 : VV → Int → (Option (VV))} {h : HP} {V : VV} {v1 : Int} {v2 : Int} {n : Nat} {q : VV} (hf : f_Mo_roll_5 k1 n V v1 v2 = some q) (K1 : ∀ (V : VV) (v1 : Int) (z2 : Option AV), k1 V v1 = some q → Ok X (d + 4) 216 1 ([some (.inr (.inr (.inl 63))), some (.inl v1), z2], [], mm V h) (fun M r => M = mm q h ∧ r = none)) : Ok X (d + 4) 216 5 ([some (.inr (.inr (.inl 63))), some (.inl v1), some (.inl v2)], [], mm V h) (fun M r => M = mm q h ∧ r = none) :=
  s_Mo_roll_5_n K1 n V v1 v2 hf
def f_Mo_roll_22 (k15 : VV → Int → (Option (VV))) (k18 : VV → Int → Int → (Option (VV))) (V : VV) (v1 : Int) (v2 : Int) : Option (VV) := k18 V v1 (w32 (v2 + 1))
set_option maxRecDepth 20000 in
set_option maxHeartbeats 4000000 in
theorem s_Mo_roll_22 {X : Xs} {d : Nat} {k15 : VV → Int → (Option (VV))} {k18 : VV → Int → Int → (Option (VV))} {V : VV} {h : HP} {v1 : Int} {v2 : Int} {q : VV} (hf : f_Mo_roll_22 k15 k18 V v1 v2 = some q) (K15 : ∀ (V : VV) (v1 : Int) (z2 : Option AV), k15 V v1 = some q → Ok X (d + 4) 216 15 ([some (.inr (.inr (.inl 63))), some (.inl v1), z2], [], mm V h) (fun M r => M = mm q h ∧ r = none)) (K18 : ∀ (V : VV) (v1 : Int) (v2 : Int), k18 V v1 v2 = some q → Ok X (d + 4) 216 18 ([some (.inr (.inr (.inl 63))), some (.inl v1), some (.inl v2)], [], mm V h) (fun M r => M = mm q h ∧ r = none)) : Ok X (d + 4) 216 22 ([some (.inr (.inr (.inl 63))), some (.inl v1), some (.inl v2)], [], mm V h) (fun M r => M = mm q h ∧ r = none) := by
  let QQ : Mm → Option AV → Prop := fun M r => M = mm q h ∧ r = none
  show Ok X (d + 4) 216 22 ([some (.inr (.inr (.inl 63))), some (.inl v1), some (.inl v2)], [], mm V h) QQ
  refine ok_goto (L := [some (.inr (.inr (.inl 63))), some (.inl v1), some (.inl (w32 (v2 + 1)))]) (S := []) (M := mm V h) rfl rfl ?_
  exact K18 V v1 (w32 (v2 + 1)) hf
def f_Mo_roll_18 (k15 : VV → Int → (Option (VV))) : Nat → VV → Int → Int → (Option (VV))
  | 0, _, _, _ => none
  | n + 1, V, v1, v2 => if v2 < (V 62 33) then if 0 ≤ v2 ∧ v2 < (6 : Int) then if v1 < (V 117 v2.toNat) then f_Mo_roll_22 k15 (f_Mo_roll_18 k15 n) V v1 v2 else Option.bind (f_Mo_rollOne V v2 v1) (fun q4 => f_Mo_roll_22 k15 (f_Mo_roll_18 k15 n) q4 v1 v2) else none else k15 V (w32 (v1 + 1))
set_option maxRecDepth 20000 in
set_option maxHeartbeats 4000000 in
theorem s_Mo_roll_18_n {X : Xs} {d : Nat} {k15 : VV → Int → (Option (VV))} {h : HP} {q : VV} (K15 : ∀ (V : VV) (v1 : Int) (z2 : Option AV), k15 V v1 = some q → Ok X (d + 4) 216 15 ([some (.inr (.inr (.inl 63))), some (.inl v1), z2], [], mm V h) (fun M r => M = mm q h ∧ r = none)) : ∀ (n : Nat) (V : VV) (v1 : Int) (v2 : Int), f_Mo_roll_18 k15 n V v1 v2 = some q → Ok X (d + 4) 216 18 ([some (.inr (.inr (.inl 63))), some (.inl v1), some (.inl v2)], [], mm V h) (fun M r => M = mm q h ∧ r = none) := by
  intro n
  induction n with
  | zero => intro V v1 v2 hf; cases hf
  | succ n ih =>
    intro V v1 v2 hf
    let QQ : Mm → Option AV → Prop := fun M r => M = mm q h ∧ r = none
    show Ok X (d + 4) 216 18 ([some (.inr (.inr (.inl 63))), some (.inl v1), some (.inl v2)], [], mm V h) QQ
    refine ok_ic_ge (x := v2) (u := V 62 33) (L := [some (.inr (.inr (.inl 63))), some (.inl v1), some (.inl v2)]) (S := []) (M := mm V h) rfl rfl (fun c1 => ?_) (fun c1 => ?_)
    ·
      replace hf := (if_neg (Int.not_lt.mpr c1)).symm.trans hf
      refine ok_goto (L := [some (.inr (.inr (.inl 63))), some (.inl (w32 (v1 + 1))), some (.inl v2)]) (S := []) (M := mm V h) rfl rfl ?_
      exact K15 V (w32 (v1 + 1)) (some (.inl v2)) hf
    ·
      replace hf := (if_pos c1).symm.trans hf
      by_cases c2 : 0 ≤ v2 ∧ v2 < (6 : Int)
      case neg => replace hf := (if_neg c2).symm.trans hf; cases hf
      replace hf := (if_pos c2).symm.trans hf
      refine ok_iald (i := v2) (id := 117) (n := 6) (L := [some (.inr (.inr (.inl 63))), some (.inl v1), some (.inl v2)]) (S := []) (M := mm V h) rfl rfl rfl c2.1 c2.2 ?_
      refine ok_ic_gt (x := V 117 v2.toNat) (u := v1) (L := [some (.inr (.inr (.inl 63))), some (.inl v1), some (.inl v2)]) (S := []) (M := mm V h) rfl rfl (fun c3 => ?_) (fun c3 => ?_)
      ·
        replace hf := (if_pos c3).symm.trans hf
        exact s_Mo_roll_22 hf K15 ih
      ·
        replace hf := (if_neg (Int.not_lt.mpr c3)).symm.trans hf
        obtain ⟨q4, e4, hf⟩ := obind hf
        refine ok_callA (L := [some (.inr (.inr (.inl 63))), some (.inl v1), some (.inl v2)]) (M := mm V h) (args := [.inr (.inr (.inl 63)), .inl v2, .inl v1]) (rest := []) (y2 := 218) rfl rfl rfl (Or.inl rfl) rfl rfl (Nat.le_of_ble_eq_true rfl) rfl rfl (Nat.le_of_ble_eq_true rfl) (Nat.le_of_ble_eq_true rfl) (s_Mo_rollOne e4) ?_
        rintro _ _ ⟨rfl, rfl⟩
        exact s_Mo_roll_22 hf K15 ih
theorem s_Mo_roll_18 {X : Xs} {d : Nat} {k15 : VV → Int → (Option (VV))} {h : HP} {V : VV} {v1 : Int} {v2 : Int} {n : Nat} {q : VV} (hf : f_Mo_roll_18 k15 n V v1 v2 = some q) (K15 : ∀ (V : VV) (v1 : Int) (z2 : Option AV), k15 V v1 = some q → Ok X (d + 4) 216 15 ([some (.inr (.inr (.inl 63))), some (.inl v1), z2], [], mm V h) (fun M r => M = mm q h ∧ r = none)) : Ok X (d + 4) 216 18 ([some (.inr (.inr (.inl 63))), some (.inl v1), some (.inl v2)], [], mm V h) (fun M r => M = mm q h ∧ r = none) :=
  s_Mo_roll_18_n K15 n V v1 v2 hf
def f_Mo_roll_15 : Nat → VV → Int → (Option (VV))
  | 0, _, _ => none
  | n + 1, V, v1 => if (w32 ((V 62 77) + 600)) < v1 then some V else Option.bind (f_Mo_settle V v1) (fun q2 => f_Mo_roll_18 (f_Mo_roll_15 n) FU q2 v1 0)
set_option maxRecDepth 20000 in
set_option maxHeartbeats 4000000 in
theorem s_Mo_roll_15_n {X : Xs} {d : Nat} {h : HP} {q : VV} : ∀ (n : Nat) (V : VV) (v1 : Int) (z2 : Option AV), f_Mo_roll_15 n V v1 = some q → Ok X (d + 4) 216 15 ([some (.inr (.inr (.inl 63))), some (.inl v1), z2], [], mm V h) (fun M r => M = mm q h ∧ r = none) := by
  intro n
  induction n with
  | zero => intro V v1 z2 hf; cases hf
  | succ n ih =>
    intro V v1 z2 hf
    let QQ : Mm → Option AV → Prop := fun M r => M = mm q h ∧ r = none
    show Ok X (d + 4) 216 15 ([some (.inr (.inr (.inl 63))), some (.inl v1), z2], [], mm V h) QQ
    refine ok_ic_gt (x := v1) (u := w32 ((V 62 77) + 600)) (L := [some (.inr (.inr (.inl 63))), some (.inl v1), z2]) (S := []) (M := mm V h) rfl rfl (fun c1 => ?_) (fun c1 => ?_)
    ·
      replace hf := (if_pos c1).symm.trans hf
      obtain rfl := Option.some.inj hf
      refine ok_return (L := [some (.inr (.inr (.inl 63))), some (.inl v1), z2]) (M := mm V h) rfl rfl ?_
      exact ⟨rfl, rfl⟩
    ·
      replace hf := (if_neg (Int.not_lt.mpr c1)).symm.trans hf
      obtain ⟨q2, e2, hf⟩ := obind hf
      refine ok_callA (L := [some (.inr (.inr (.inl 63))), some (.inl v1), z2]) (M := mm V h) (args := [.inr (.inr (.inl 63)), .inl v1]) (rest := []) (y2 := 217) rfl rfl rfl (Or.inl rfl) rfl rfl (Nat.le_of_ble_eq_true rfl) rfl rfl (Nat.le_of_ble_eq_true rfl) (Nat.le_of_ble_eq_true rfl) (s_Mo_settle e2) ?_
      rintro _ _ ⟨rfl, rfl⟩
      refine ok_thru (L := [some (.inr (.inr (.inl 63))), some (.inl v1), some (.inl 0)]) (S := []) (M := mm q2 h) rfl rfl ?_
      exact s_Mo_roll_18 hf ih
theorem s_Mo_roll_15 {X : Xs} {d : Nat} {h : HP} {V : VV} {v1 : Int} {z2 : Option AV} {n : Nat} {q : VV} (hf : f_Mo_roll_15 n V v1 = some q) : Ok X (d + 4) 216 15 ([some (.inr (.inr (.inl 63))), some (.inl v1), z2], [], mm V h) (fun M r => M = mm q h ∧ r = none) :=
  s_Mo_roll_15_n n V v1 z2 hf
def f_Mo_roll_11 : Nat → VV → Int → (Option (VV))
  | 0, _, _ => none
  | n + 1, V, v1 => if v1 < (V 62 33) then if 0 ≤ v1 ∧ v1 < (6 : Int) then f_Mo_roll_11 n (up V 117 v1.toNat 0) (w32 (v1 + 1)) else none else f_Mo_roll_15 FU V 0
set_option maxRecDepth 20000 in
set_option maxHeartbeats 4000000 in
theorem s_Mo_roll_11_n {X : Xs} {d : Nat} {h : HP} {q : VV} : ∀ (n : Nat) (V : VV) (v1 : Int) (z2 : Option AV), f_Mo_roll_11 n V v1 = some q → Ok X (d + 4) 216 11 ([some (.inr (.inr (.inl 63))), some (.inl v1), z2], [], mm V h) (fun M r => M = mm q h ∧ r = none) := by
  intro n
  induction n with
  | zero => intro V v1 z2 hf; cases hf
  | succ n ih =>
    intro V v1 z2 hf
    let QQ : Mm → Option AV → Prop := fun M r => M = mm q h ∧ r = none
    show Ok X (d + 4) 216 11 ([some (.inr (.inr (.inl 63))), some (.inl v1), z2], [], mm V h) QQ
    refine ok_ic_ge (x := v1) (u := V 62 33) (L := [some (.inr (.inr (.inl 63))), some (.inl v1), z2]) (S := []) (M := mm V h) rfl rfl (fun c1 => ?_) (fun c1 => ?_)
    ·
      replace hf := (if_neg (Int.not_lt.mpr c1)).symm.trans hf
      refine ok_thru (L := [some (.inr (.inr (.inl 63))), some (.inl 0), z2]) (S := []) (M := mm V h) rfl rfl ?_
      exact s_Mo_roll_15 hf
    ·
      replace hf := (if_pos c1).symm.trans hf
      by_cases c2 : 0 ≤ v1 ∧ v1 < (6 : Int)
      case neg => replace hf := (if_neg c2).symm.trans hf; cases hf
      replace hf := (if_pos c2).symm.trans hf
      refine ok_iast (i := v1) (v := 0) (id := 117) (n := 6) (L := [some (.inr (.inr (.inl 63))), some (.inl v1), z2]) (S := []) (M := mm V h) rfl rfl rfl c2.1 c2.2 ?_
      refine ok_goto (L := [some (.inr (.inr (.inl 63))), some (.inl (w32 (v1 + 1))), z2]) (S := []) (M := mm (up V 117 v1.toNat 0) h) rfl rfl ?_
      exact ih (up V 117 v1.toNat 0) (w32 (v1 + 1)) z2 hf
theorem s_Mo_roll_11 {X : Xs} {d : Nat} {h : HP} {V : VV} {v1 : Int} {z2 : Option AV} {n : Nat} {q : VV} (hf : f_Mo_roll_11 n V v1 = some q) : Ok X (d + 4) 216 11 ([some (.inr (.inr (.inl 63))), some (.inl v1), z2], [], mm V h) (fun M r => M = mm q h ∧ r = none) :=
  s_Mo_roll_11_n n V v1 z2 hf
def f_Mo_roll_1 : Nat → VV → Int → (Option (VV))
  | 0, _, _ => none
  | n + 1, V, v1 => if v1 < (V 62 13) then if 0 ≤ v1 ∧ v1 < (36 : Int) then if 0 ≤ v1 ∧ v1 < (36 : Int) then f_Mo_roll_5 (f_Mo_roll_1 n) FU (up (up V 114 v1.toNat (-1)) 116 v1.toNat (-1)) v1 0 else none else none else f_Mo_roll_11 FU V 0
set_option maxRecDepth 20000 in
set_option maxHeartbeats 4000000 in
theorem s_Mo_roll_1_n {X : Xs} {d : Nat} {h : HP} {q : VV} : ∀ (n : Nat) (V : VV) (v1 : Int) (z2 : Option AV), f_Mo_roll_1 n V v1 = some q → Ok X (d + 4) 216 1 ([some (.inr (.inr (.inl 63))), some (.inl v1), z2], [], mm V h) (fun M r => M = mm q h ∧ r = none) := by
  intro n
  induction n with
  | zero => intro V v1 z2 hf; cases hf
  | succ n ih =>
    intro V v1 z2 hf
    let QQ : Mm → Option AV → Prop := fun M r => M = mm q h ∧ r = none
    show Ok X (d + 4) 216 1 ([some (.inr (.inr (.inl 63))), some (.inl v1), z2], [], mm V h) QQ
    refine ok_ic_ge (x := v1) (u := V 62 13) (L := [some (.inr (.inr (.inl 63))), some (.inl v1), z2]) (S := []) (M := mm V h) rfl rfl (fun c1 => ?_) (fun c1 => ?_)
    ·
      replace hf := (if_neg (Int.not_lt.mpr c1)).symm.trans hf
      refine ok_thru (L := [some (.inr (.inr (.inl 63))), some (.inl 0), z2]) (S := []) (M := mm V h) rfl rfl ?_
      exact s_Mo_roll_11 hf
    ·
      replace hf := (if_pos c1).symm.trans hf
      by_cases c2 : 0 ≤ v1 ∧ v1 < (36 : Int)
      case neg => replace hf := (if_neg c2).symm.trans hf; cases hf
      replace hf := (if_pos c2).symm.trans hf
      refine ok_iast (i := v1) (v := (-1)) (id := 114) (n := 36) (L := [some (.inr (.inr (.inl 63))), some (.inl v1), z2]) (S := []) (M := mm V h) rfl rfl rfl c2.1 c2.2 ?_
      by_cases c3 : 0 ≤ v1 ∧ v1 < (36 : Int)
      case neg => replace hf := (if_neg c3).symm.trans hf; cases hf
      replace hf := (if_pos c3).symm.trans hf
      refine ok_iast (i := v1) (v := (-1)) (id := 116) (n := 36) (L := [some (.inr (.inr (.inl 63))), some (.inl v1), z2]) (S := []) (M := mm (up V 114 v1.toNat (-1)) h) rfl rfl rfl c3.1 c3.2 ?_
      refine ok_thru (L := [some (.inr (.inr (.inl 63))), some (.inl v1), some (.inl 0)]) (S := []) (M := mm (up (up V 114 v1.toNat (-1)) 116 v1.toNat (-1)) h) rfl rfl ?_
      exact s_Mo_roll_5 hf ih
theorem s_Mo_roll_1 {X : Xs} {d : Nat} {h : HP} {V : VV} {v1 : Int} {z2 : Option AV} {n : Nat} {q : VV} (hf : f_Mo_roll_1 n V v1 = some q) : Ok X (d + 4) 216 1 ([some (.inr (.inr (.inl 63))), some (.inl v1), z2], [], mm V h) (fun M r => M = mm q h ∧ r = none) :=
  s_Mo_roll_1_n n V v1 z2 hf
def f_Mo_roll (V : VV)  : Option (VV) := f_Mo_roll_1 FU V 0
set_option maxRecDepth 20000 in
set_option maxHeartbeats 4000000 in
theorem s_Mo_roll {X : Xs} {d : Nat} {V : VV} {h : HP} {q : VV} (hf : f_Mo_roll V = some q) : Ok X (d + 4) 216 0 ([some (.inr (.inr (.inl 63))), none, none], [], mm V h) (fun M r => M = mm q h ∧ r = none) := by
  let QQ : Mm → Option AV → Prop := fun M r => M = mm q h ∧ r = none
  show Ok X (d + 4) 216 0 ([some (.inr (.inr (.inl 63))), none, none], [], mm V h) QQ
  refine ok_thru (L := [some (.inr (.inr (.inl 63))), some (.inl 0), none]) (S := []) (M := mm V h) rfl rfl ?_
  exact s_Mo_roll_1 hf
def f_Mo_isCold_7 (V : VV)  : Option (Int) := some 0
set_option maxRecDepth 20000 in
set_option maxHeartbeats 4000000 in
theorem s_Mo_isCold_7 {X : Xs} {d : Nat} {V : VV} {h : HP} {w1 : Int} {q : Int} (hf : f_Mo_isCold_7 V = some q) : Ok X (d + 2) 220 7 ([some (.inr (.inr (.inl 63))), some (.inl w1)], [], mm V h) (fun M r => M = mm V h ∧ r = some (.inl q) ∧ (q = 0 ∨ q = 1)) := by
  let QQ : Mm → Option AV → Prop := fun M r => M = mm V h ∧ r = some (.inl q) ∧ (q = 0 ∨ q = 1)
  show Ok X (d + 2) 220 7 ([some (.inr (.inr (.inl 63))), some (.inl w1)], [], mm V h) QQ
  refine ok_thru (L := [some (.inr (.inr (.inl 63))), some (.inl w1)]) (S := [.inl 0]) (M := mm V h) rfl rfl ?_
  obtain rfl := Option.some.inj hf
  have hz : (0 : Int) = 0 ∨ (0 : Int) = 1 := by
    first | exact Or.inl rfl | exact Or.inr rfl | assumption | (repeat' split) <;> first | exact Or.inl rfl | exact Or.inr rfl | assumption
  refine ok_zreturn (L := [some (.inr (.inr (.inl 63))), some (.inl w1)]) (M := mm V h) (x := 0) rfl rfl hz ?_
  exact ⟨rfl, rfl, hz⟩
def f_Mo_isCold (V : VV) (v1 : Int) : Option (Int) := if (V 62 0) = 0 then none else if 0 < (Int.tmod v1 (V 62 0)) then if 0 ≤ v1 ∧ v1 < (36 : Int) then if 0 ≤ (w32 (v1 - 1)) ∧ (w32 (v1 - 1)) < (36 : Int) then Option.bind (f_Mo_meanOf V (w32 (v1 - 1)) (w32 ((V 96 v1.toNat) - (V 97 ((w32 (v1 - 1)).toNat))))) (fun q5 => if q5 < (V 62 28) then some 1 else f_Mo_isCold_7 V) else none else none else f_Mo_isCold_7 V
set_option maxRecDepth 20000 in
set_option maxHeartbeats 4000000 in
theorem s_Mo_isCold {X : Xs} {d : Nat} {V : VV} {h : HP} {v1 : Int} {q : Int} (hf : f_Mo_isCold V v1 = some q) : Ok X (d + 2) 220 0 ([some (.inr (.inr (.inl 63))), some (.inl v1)], [], mm V h) (fun M r => M = mm V h ∧ r = some (.inl q) ∧ (q = 0 ∨ q = 1)) := by
  let QQ : Mm → Option AV → Prop := fun M r => M = mm V h ∧ r = some (.inl q) ∧ (q = 0 ∨ q = 1)
  show Ok X (d + 2) 220 0 ([some (.inr (.inr (.inl 63))), some (.inl v1)], [], mm V h) QQ
  by_cases c1 : (V 62 0) = 0
  case pos => replace hf := (if_pos c1).symm.trans hf; cases hf
  replace hf := (if_neg c1).symm.trans hf
  refine ok_irem (u := v1) (v := V 62 0) (L := [some (.inr (.inr (.inl 63))), some (.inl v1)]) (S := []) (M := mm V h) rfl rfl c1 ?_
  refine ok_if_le (x := Int.tmod v1 (V 62 0)) (L := [some (.inr (.inr (.inl 63))), some (.inl v1)]) (S := []) (M := mm V h) rfl rfl (fun c2 => ?_) (fun c2 => ?_)
  ·
    replace hf := (if_neg (Int.not_lt.mpr c2)).symm.trans hf
    exact s_Mo_isCold_7 hf
  ·
    replace hf := (if_pos c2).symm.trans hf
    by_cases c3 : 0 ≤ v1 ∧ v1 < (36 : Int)
    case neg => replace hf := (if_neg c3).symm.trans hf; cases hf
    replace hf := (if_pos c3).symm.trans hf
    refine ok_iald (i := v1) (id := 96) (n := 36) (L := [some (.inr (.inr (.inl 63))), some (.inl v1)]) (S := [.inl (w32 (v1 - 1)), .inr (.inr (.inl 63))]) (M := mm V h) rfl rfl rfl c3.1 c3.2 ?_
    by_cases c4 : 0 ≤ (w32 (v1 - 1)) ∧ (w32 (v1 - 1)) < (36 : Int)
    case neg => replace hf := (if_neg c4).symm.trans hf; cases hf
    replace hf := (if_pos c4).symm.trans hf
    refine ok_iald (i := w32 (v1 - 1)) (id := 97) (n := 36) (L := [some (.inr (.inr (.inl 63))), some (.inl v1)]) (S := [.inl (V 96 v1.toNat), .inl (w32 (v1 - 1)), .inr (.inr (.inl 63))]) (M := mm V h) rfl rfl rfl c4.1 c4.2 ?_
    obtain ⟨q5, e5, hf⟩ := obind hf
    refine ok_callA (L := [some (.inr (.inr (.inl 63))), some (.inl v1)]) (M := mm V h) (args := [.inr (.inr (.inl 63)), .inl (w32 (v1 - 1)), .inl (w32 ((V 96 v1.toNat) - (V 97 ((w32 (v1 - 1)).toNat))))]) (rest := []) (y2 := 205) rfl rfl rfl (Or.inl rfl) rfl rfl (Nat.le_of_ble_eq_true rfl) rfl rfl (Nat.le_of_ble_eq_true rfl) (Nat.le_of_ble_eq_true rfl) (s_Mo_meanOf e5) ?_
    rintro _ _ ⟨rfl, rfl⟩
    refine ok_ic_ge (x := q5) (u := V 62 28) (L := [some (.inr (.inr (.inl 63))), some (.inl v1)]) (S := []) (M := mm V h) rfl rfl (fun c6 => ?_) (fun c6 => ?_)
    ·
      replace hf := (if_neg (Int.not_lt.mpr c6)).symm.trans hf
      exact s_Mo_isCold_7 hf
    ·
      replace hf := (if_pos c6).symm.trans hf
      refine ok_goto (L := [some (.inr (.inr (.inl 63))), some (.inl v1)]) (S := [.inl 1]) (M := mm V h) rfl rfl ?_
      obtain rfl := Option.some.inj hf
      have hz : (1 : Int) = 0 ∨ (1 : Int) = 1 := by
        first | exact Or.inl rfl | exact Or.inr rfl | assumption | (repeat' split) <;> first | exact Or.inl rfl | exact Or.inr rfl | assumption
      refine ok_zreturn (L := [some (.inr (.inr (.inl 63))), some (.inl v1)]) (M := mm V h) (x := 1) rfl rfl hz ?_
      exact ⟨rfl, rfl, hz⟩
def f_Mo_missedOf_1 : Nat → VV → Int → Int → Int → (Option (Int))
  | 0, _, _, _, _ => none
  | n + 1, V, v1, v2, v3 => if v3 < 3 then if 0 ≤ v3 ∧ v3 < (3 : Int) then if 0 ≤ (w32 ((w32 (3 * v1)) + v3)) ∧ (w32 ((w32 (3 * v1)) + v3)) < (108 : Int) then f_Mo_missedOf_1 n V v1 (w32 (v2 + (w32 ((V 79 v3.toNat) - (V 112 ((w32 ((w32 (3 * v1)) + v3)).toNat)))))) (w32 (v3 + 1)) else none else none else some v2
set_option maxRecDepth 20000 in
set_option maxHeartbeats 4000000 in
theorem s_Mo_missedOf_1_n {X : Xs} {d : Nat} {V : VV} {h : HP} {q : Int} : ∀ (n : Nat) (v1 : Int) (v2 : Int) (v3 : Int), f_Mo_missedOf_1 n V v1 v2 v3 = some q → Ok X (d + 1) 222 1 ([some (.inr (.inr (.inl 63))), some (.inl v1), some (.inl v2), some (.inl v3)], [], mm V h) (fun M r => M = mm V h ∧ r = some (.inl q)) := by
  intro n
  induction n with
  | zero => intro v1 v2 v3 hf; cases hf
  | succ n ih =>
    intro v1 v2 v3 hf
    let QQ : Mm → Option AV → Prop := fun M r => M = mm V h ∧ r = some (.inl q)
    show Ok X (d + 1) 222 1 ([some (.inr (.inr (.inl 63))), some (.inl v1), some (.inl v2), some (.inl v3)], [], mm V h) QQ
    refine ok_ic_ge (x := v3) (u := 3) (L := [some (.inr (.inr (.inl 63))), some (.inl v1), some (.inl v2), some (.inl v3)]) (S := []) (M := mm V h) rfl rfl (fun c1 => ?_) (fun c1 => ?_)
    ·
      replace hf := (if_neg (Int.not_lt.mpr c1)).symm.trans hf
      obtain rfl := Option.some.inj hf
      refine ok_ireturn (L := [some (.inr (.inr (.inl 63))), some (.inl v1), some (.inl v2), some (.inl v3)]) (M := mm V h) (x := v2) rfl rfl ?_
      exact ⟨rfl, rfl⟩
    ·
      replace hf := (if_pos c1).symm.trans hf
      by_cases c2 : 0 ≤ v3 ∧ v3 < (3 : Int)
      case neg => replace hf := (if_neg c2).symm.trans hf; cases hf
      replace hf := (if_pos c2).symm.trans hf
      refine ok_iald (i := v3) (id := 79) (n := 3) (L := [some (.inr (.inr (.inl 63))), some (.inl v1), some (.inl v2), some (.inl v3)]) (S := [.inl v2]) (M := mm V h) rfl rfl rfl c2.1 c2.2 ?_
      by_cases c3 : 0 ≤ (w32 ((w32 (3 * v1)) + v3)) ∧ (w32 ((w32 (3 * v1)) + v3)) < (108 : Int)
      case neg => replace hf := (if_neg c3).symm.trans hf; cases hf
      replace hf := (if_pos c3).symm.trans hf
      refine ok_iald (i := w32 ((w32 (3 * v1)) + v3)) (id := 112) (n := 108) (L := [some (.inr (.inr (.inl 63))), some (.inl v1), some (.inl v2), some (.inl v3)]) (S := [.inl (V 79 v3.toNat), .inl v2]) (M := mm V h) rfl rfl rfl c3.1 c3.2 ?_
      refine ok_goto (L := [some (.inr (.inr (.inl 63))), some (.inl v1), some (.inl (w32 (v2 + (w32 ((V 79 v3.toNat) - (V 112 ((w32 ((w32 (3 * v1)) + v3)).toNat))))))), some (.inl (w32 (v3 + 1)))]) (S := []) (M := mm V h) rfl rfl ?_
      exact ih v1 (w32 (v2 + (w32 ((V 79 v3.toNat) - (V 112 ((w32 ((w32 (3 * v1)) + v3)).toNat)))))) (w32 (v3 + 1)) hf
theorem s_Mo_missedOf_1 {X : Xs} {d : Nat} {V : VV} {h : HP} {v1 : Int} {v2 : Int} {v3 : Int} {n : Nat} {q : Int} (hf : f_Mo_missedOf_1 n V v1 v2 v3 = some q) : Ok X (d + 1) 222 1 ([some (.inr (.inr (.inl 63))), some (.inl v1), some (.inl v2), some (.inl v3)], [], mm V h) (fun M r => M = mm V h ∧ r = some (.inl q)) :=
  s_Mo_missedOf_1_n n v1 v2 v3 hf
def f_Mo_missedOf (V : VV) (v1 : Int) : Option (Int) := f_Mo_missedOf_1 FU V v1 0 0
set_option maxRecDepth 20000 in
set_option maxHeartbeats 4000000 in
theorem s_Mo_missedOf {X : Xs} {d : Nat} {V : VV} {h : HP} {v1 : Int} {q : Int} (hf : f_Mo_missedOf V v1 = some q) : Ok X (d + 1) 222 0 ([some (.inr (.inr (.inl 63))), some (.inl v1), none, none], [], mm V h) (fun M r => M = mm V h ∧ r = some (.inl q)) := by
  let QQ : Mm → Option AV → Prop := fun M r => M = mm V h ∧ r = some (.inl q)
  show Ok X (d + 1) 222 0 ([some (.inr (.inr (.inl 63))), some (.inl v1), none, none], [], mm V h) QQ
  refine ok_thru (L := [some (.inr (.inr (.inl 63))), some (.inl v1), some (.inl 0), some (.inl 0)]) (S := []) (M := mm V h) rfl rfl ?_
  exact s_Mo_missedOf_1 hf
def f_Mo_denseOf (V : VV) (v1 : Int) : Option (Int) := Option.bind (f_Mo_missedOf V v1) (fun q1 => Option.bind (f_Mo_isCold V v1) (fun q2 => some (if (w32 ((w32 (100 - (w32 (4 * q1)))) - (if q2 = 0 then 0 else 6 : Int))) < 0 then 0 else w32 ((w32 (100 - (w32 (4 * q1)))) - (if q2 = 0 then 0 else 6 : Int)) : Int)))
set_option maxRecDepth 20000 in
set_option maxHeartbeats 4000000 in
theorem s_Mo_denseOf {X : Xs} {d : Nat} {V : VV} {h : HP} {v1 : Int} {q : Int} (hf : f_Mo_denseOf V v1 = some q) : Ok X (d + 3) 221 0 ([some (.inr (.inr (.inl 63))), some (.inl v1), none], [], mm V h) (fun M r => M = mm V h ∧ r = some (.inl q)) := by
  let QQ : Mm → Option AV → Prop := fun M r => M = mm V h ∧ r = some (.inl q)
  show Ok X (d + 3) 221 0 ([some (.inr (.inr (.inl 63))), some (.inl v1), none], [], mm V h) QQ
  obtain ⟨q1, e1, hf⟩ := obind hf
  refine ok_callA (L := [some (.inr (.inr (.inl 63))), some (.inl v1), none]) (M := mm V h) (args := [.inr (.inr (.inl 63)), .inl v1]) (rest := [.inl 4, .inl 100]) (y2 := 222) rfl rfl rfl (Or.inl rfl) rfl rfl (Nat.le_of_ble_eq_true rfl) rfl rfl (Nat.le_of_ble_eq_true rfl) (Nat.le_of_ble_eq_true rfl) (s_Mo_missedOf e1) ?_
  rintro _ _ ⟨rfl, rfl⟩
  obtain ⟨q2, e2, hf⟩ := obind hf
  refine ok_callA (L := [some (.inr (.inr (.inl 63))), some (.inl v1), none]) (M := mm V h) (args := [.inr (.inr (.inl 63)), .inl v1]) (rest := [.inl (w32 (100 - (w32 (4 * q1))))]) (y2 := 220) rfl rfl rfl (Or.inl rfl) rfl rfl (Nat.le_of_ble_eq_true rfl) rfl rfl (Nat.le_of_ble_eq_true rfl) (Nat.le_of_ble_eq_true rfl) (s_Mo_isCold e2) ?_
  rintro _ _ ⟨rfl, rfl, hz2⟩
  have JN3 : Ok X (d + 3) 221 5 ([some (.inr (.inr (.inl 63))), some (.inl v1), none], [.inl (if q2 = 0 then 0 else 6 : Int), .inl (w32 (100 - (w32 (4 * q1))))], mm V h) QQ := by
    have JN4 : Ok X (d + 3) 221 8 ([some (.inr (.inr (.inl 63))), some (.inl v1), some (.inl (w32 ((w32 (100 - (w32 (4 * q1)))) - (if q2 = 0 then 0 else 6 : Int))))], [.inl (if (w32 ((w32 (100 - (w32 (4 * q1)))) - (if q2 = 0 then 0 else 6 : Int))) < 0 then 0 else w32 ((w32 (100 - (w32 (4 * q1)))) - (if q2 = 0 then 0 else 6 : Int)) : Int)], mm V h) QQ := by
      obtain rfl := Option.some.inj hf
      refine ok_ireturn (L := [some (.inr (.inr (.inl 63))), some (.inl v1), some (.inl (w32 ((w32 (100 - (w32 (4 * q1)))) - (if q2 = 0 then 0 else 6 : Int))))]) (M := mm V h) (x := (if (w32 ((w32 (100 - (w32 (4 * q1)))) - (if q2 = 0 then 0 else 6 : Int))) < 0 then 0 else w32 ((w32 (100 - (w32 (4 * q1)))) - (if q2 = 0 then 0 else 6 : Int)) : Int)) rfl rfl ?_
      exact ⟨rfl, rfl⟩
    clear hf
    refine ok_if_ge (x := w32 ((w32 (100 - (w32 (4 * q1)))) - (if q2 = 0 then 0 else 6 : Int))) (L := [some (.inr (.inr (.inl 63))), some (.inl v1), some (.inl (w32 ((w32 (100 - (w32 (4 * q1)))) - (if q2 = 0 then 0 else 6 : Int))))]) (S := []) (M := mm V h) rfl rfl (fun c5 => ?_) (fun c5 => ?_)
    ·
      simp only [if_neg (Int.not_lt.mpr c5)] at JN4
      refine ok_thru (L := [some (.inr (.inr (.inl 63))), some (.inl v1), some (.inl (w32 ((w32 (100 - (w32 (4 * q1)))) - (if q2 = 0 then 0 else 6 : Int))))]) (S := [.inl (w32 ((w32 (100 - (w32 (4 * q1)))) - (if q2 = 0 then 0 else 6 : Int)))]) (M := mm V h) rfl rfl ?_
      first | exact JN4 | (simp only [if_neg (Int.not_lt.mpr c5)]; exact JN4)
    ·
      simp only [if_pos c5] at JN4
      refine ok_goto (L := [some (.inr (.inr (.inl 63))), some (.inl v1), some (.inl (w32 ((w32 (100 - (w32 (4 * q1)))) - (if q2 = 0 then 0 else 6 : Int))))]) (S := [.inl 0]) (M := mm V h) rfl rfl ?_
      first | exact JN4 | (simp only [if_pos c5]; exact JN4)
  clear hf
  refine ok_if_eq (x := q2) (L := [some (.inr (.inr (.inl 63))), some (.inl v1), none]) (S := [.inl (w32 (100 - (w32 (4 * q1))))]) (M := mm V h) rfl rfl (fun c6 => ?_) (fun c6 => ?_)
  ·
    simp only [if_pos c6] at JN3
    refine ok_thru (L := [some (.inr (.inr (.inl 63))), some (.inl v1), none]) (S := [.inl 0, .inl (w32 (100 - (w32 (4 * q1))))]) (M := mm V h) rfl rfl ?_
    first | exact JN3 | (simp only [if_pos c6]; exact JN3)
  ·
    simp only [if_neg c6] at JN3
    refine ok_goto (L := [some (.inr (.inr (.inl 63))), some (.inl v1), none]) (S := [.inl 6, .inl (w32 (100 - (w32 (4 * q1))))]) (M := mm V h) rfl rfl ?_
    first | exact JN3 | (simp only [if_neg c6]; exact JN3)
