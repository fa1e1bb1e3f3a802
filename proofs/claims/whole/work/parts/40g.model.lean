/-! shallow functions of the model (printed by wip/tools/gen40.py) -/
def f_Mo_paves_35 (k1 : VV → Int → Int → Int → (Option (VV))) (V : VV) (v1 : Int) (v2 : Int) (v3 : Int) : Option (VV) := k1 V v1 v2 v3
set_option maxRecDepth 20000 in
set_option maxHeartbeats 4000000 in
theorem s_Mo_paves_35 {X : Xs} {d : Nat} {k1 : VV → Int → Int → Int → (Option (VV))} {V : VV} {h : HP} {v1 : Int} {v2 : Int} {v3 : Int} {w4 : Int} {w5 : Int} {q : VV} (hf : f_Mo_paves_35 k1 V v1 v2 v3 = some q) (K1 : ∀ (V : VV) (v1 : Int) (v2 : Int) (v3 : Int) (z4 : Option AV) (z5 : Option AV), k1 V v1 v2 v3 = some q → Ok X (d + 3) 203 1 ([some (.inr (.inr (.inl 63))), some (.inl v1), some (.inl v2), some (.inl v3), z4, z5], [], mm V h) (fun M r => M = mm q h ∧ r = none)) : Ok X (d + 3) 203 35 ([some (.inr (.inr (.inl 63))), some (.inl v1), some (.inl v2), some (.inl v3), some (.inl w4), some (.inl w5)], [], mm V h) (fun M r => M = mm q h ∧ r = none) := by
  let QQ : Mm → Option AV → Prop := fun M r => M = mm q h ∧ r = none
  show Ok X (d + 3) 203 35 ([some (.inr (.inr (.inl 63))), some (.inl v1), some (.inl v2), some (.inl v3), some (.inl w4), some (.inl w5)], [], mm V h) QQ
  refine ok_goto (L := [some (.inr (.inr (.inl 63))), some (.inl v1), some (.inl v2), some (.inl v3), some (.inl w4), some (.inl w5)]) (S := []) (M := mm V h) rfl rfl ?_
  exact K1 V v1 v2 v3 (some (.inl w4)) (some (.inl w5)) hf
def f_Mo_paves_29 (k1 : VV → Int → Int → Int → (Option (VV))) (V : VV) (v1 : Int) (v2 : Int) (v3 : Int) : Option (VV) := if 0 ≤ (V 62 74) ∧ (V 62 74) < (36 : Int) then if 0 ≤ (V 62 74) ∧ (V 62 74) < (36 : Int) then if (V 95 ((V 62 74).toNat)) = (V 70 ((V 62 74).toNat)) then if 0 ≤ (V 62 74) ∧ (V 62 74) < (36 : Int) then Option.bind (f_Mo_cool (up (up V 62 77 v1) 97 ((V 62 74).toNat) v1) (V 62 74)) (fun q5 => f_Mo_paves_35 k1 (up q5 62 74 (w32 ((q5 62 74) + 1))) v1 v2 v3) else none else f_Mo_paves_35 k1 (up V 62 77 v1) v1 v2 v3 else none else none
set_option maxRecDepth 20000 in
set_option maxHeartbeats 4000000 in
theorem s_Mo_paves_29 {X : Xs} {d : Nat} {k1 : VV → Int → Int → Int → (Option (VV))} {V : VV} {h : HP} {v1 : Int} {v2 : Int} {v3 : Int} {w4 : Int} {w5 : Int} {q : VV} (hf : f_Mo_paves_29 k1 V v1 v2 v3 = some q) (K1 : ∀ (V : VV) (v1 : Int) (v2 : Int) (v3 : Int) (z4 : Option AV) (z5 : Option AV), k1 V v1 v2 v3 = some q → Ok X (d + 3) 203 1 ([some (.inr (.inr (.inl 63))), some (.inl v1), some (.inl v2), some (.inl v3), z4, z5], [], mm V h) (fun M r => M = mm q h ∧ r = none)) : Ok X (d + 3) 203 29 ([some (.inr (.inr (.inl 63))), some (.inl v1), some (.inl v2), some (.inl v3), some (.inl w4), some (.inl w5)], [], mm V h) (fun M r => M = mm q h ∧ r = none) := by
  let QQ : Mm → Option AV → Prop := fun M r => M = mm q h ∧ r = none
  show Ok X (d + 3) 203 29 ([some (.inr (.inr (.inl 63))), some (.inl v1), some (.inl v2), some (.inl v3), some (.inl w4), some (.inl w5)], [], mm V h) QQ
  by_cases c1 : 0 ≤ (V 62 74) ∧ (V 62 74) < (36 : Int)
  case neg => replace hf := (if_neg c1).symm.trans hf; cases hf
  replace hf := (if_pos c1).symm.trans hf
  refine ok_iald (i := V 62 74) (id := 95) (n := 36) (L := [some (.inr (.inr (.inl 63))), some (.inl v1), some (.inl v2), some (.inl v3), some (.inl w4), some (.inl w5)]) (S := []) (M := mm (up V 62 77 v1) h) rfl rfl rfl c1.1 c1.2 ?_
  by_cases c2 : 0 ≤ (V 62 74) ∧ (V 62 74) < (36 : Int)
  case neg => replace hf := (if_neg c2).symm.trans hf; cases hf
  replace hf := (if_pos c2).symm.trans hf
  refine ok_iald (i := V 62 74) (id := 70) (n := 36) (L := [some (.inr (.inr (.inl 63))), some (.inl v1), some (.inl v2), some (.inl v3), some (.inl w4), some (.inl w5)]) (S := [.inl (V 95 ((V 62 74).toNat))]) (M := mm (up V 62 77 v1) h) rfl rfl rfl c2.1 c2.2 ?_
  refine ok_ic_ne (x := V 95 ((V 62 74).toNat)) (u := V 70 ((V 62 74).toNat)) (L := [some (.inr (.inr (.inl 63))), some (.inl v1), some (.inl v2), some (.inl v3), some (.inl w4), some (.inl w5)]) (S := []) (M := mm (up V 62 77 v1) h) rfl rfl (fun c3 => ?_) (fun c3 => ?_)
  ·
    replace hf := (if_neg c3).symm.trans hf
    exact s_Mo_paves_35 hf K1
  ·
    replace hf := (if_pos c3).symm.trans hf
    by_cases c4 : 0 ≤ (V 62 74) ∧ (V 62 74) < (36 : Int)
    case neg => replace hf := (if_neg c4).symm.trans hf; cases hf
    replace hf := (if_pos c4).symm.trans hf
    refine ok_iast (i := V 62 74) (v := v1) (id := 97) (n := 36) (L := [some (.inr (.inr (.inl 63))), some (.inl v1), some (.inl v2), some (.inl v3), some (.inl w4), some (.inl w5)]) (S := []) (M := mm (up V 62 77 v1) h) rfl rfl rfl c4.1 c4.2 ?_
    obtain ⟨q5, e5, hf⟩ := obind hf
    refine ok_callA (L := [some (.inr (.inr (.inl 63))), some (.inl v1), some (.inl v2), some (.inl v3), some (.inl w4), some (.inl w5)]) (M := mm (up (up V 62 77 v1) 97 ((V 62 74).toNat) v1) h) (args := [.inr (.inr (.inl 63)), .inl (V 62 74)]) (rest := []) (y2 := 208) rfl rfl rfl (Or.inl rfl) rfl rfl (Nat.le_of_ble_eq_true rfl) rfl rfl (Nat.le_of_ble_eq_true rfl) (Nat.le_of_ble_eq_true rfl) (s_Mo_cool e5) ?_
    rintro _ _ ⟨rfl, rfl⟩
    refine ok_thru (L := [some (.inr (.inr (.inl 63))), some (.inl v1), some (.inl v2), some (.inl v3), some (.inl w4), some (.inl w5)]) (S := []) (M := mm (up q5 62 74 (w32 ((q5 62 74) + 1))) h) rfl rfl ?_
    exact s_Mo_paves_35 hf K1
def f_Mo_paves_25 (k1 : VV → Int → Int → Int → (Option (VV))) (V : VV) (v1 : Int) (v2 : Int) (v3 : Int) (v5 : Int) : Option (VV) := if 0 ≤ (V 62 74) ∧ (V 62 74) < (36 : Int) then if 0 ≤ (V 62 74) ∧ (V 62 74) < (36 : Int) then if (V 62 78) < 0 then f_Mo_paves_29 k1 (up (up (up (up V 95 ((V 62 74).toNat) (w32 ((V 95 ((V 62 74).toNat)) + v5))) 62 75 (w32 ((V 62 75) - v5))) 62 73 (w32 ((V 62 73) + v5))) 62 78 v1) v1 (w32 (v2 + v5)) v3 else f_Mo_paves_29 k1 (up (up (up V 95 ((V 62 74).toNat) (w32 ((V 95 ((V 62 74).toNat)) + v5))) 62 75 (w32 ((V 62 75) - v5))) 62 73 (w32 ((V 62 73) + v5))) v1 (w32 (v2 + v5)) v3 else none else none
set_option maxRecDepth 20000 in
set_option maxHeartbeats 4000000 in
theorem s_Mo_paves_25 {X : Xs} {d : Nat} {k1 : VV → Int → Int → Int → (Option (VV))} {V : VV} {h : HP} {v1 : Int} {v2 : Int} {v3 : Int} {v5 : Int} {w4 : Int} {q : VV} (hf : f_Mo_paves_25 k1 V v1 v2 v3 v5 = some q) (K1 : ∀ (V : VV) (v1 : Int) (v2 : Int) (v3 : Int) (z4 : Option AV) (z5 : Option AV), k1 V v1 v2 v3 = some q → Ok X (d + 3) 203 1 ([some (.inr (.inr (.inl 63))), some (.inl v1), some (.inl v2), some (.inl v3), z4, z5], [], mm V h) (fun M r => M = mm q h ∧ r = none)) : Ok X (d + 3) 203 25 ([some (.inr (.inr (.inl 63))), some (.inl v1), some (.inl v2), some (.inl v3), some (.inl w4), some (.inl v5)], [], mm V h) (fun M r => M = mm q h ∧ r = none) := by
  let QQ : Mm → Option AV → Prop := fun M r => M = mm q h ∧ r = none
  show Ok X (d + 3) 203 25 ([some (.inr (.inr (.inl 63))), some (.inl v1), some (.inl v2), some (.inl v3), some (.inl w4), some (.inl v5)], [], mm V h) QQ
  by_cases c1 : 0 ≤ (V 62 74) ∧ (V 62 74) < (36 : Int)
  case neg => replace hf := (if_neg c1).symm.trans hf; cases hf
  replace hf := (if_pos c1).symm.trans hf
  refine ok_iald (i := V 62 74) (id := 95) (n := 36) (L := [some (.inr (.inr (.inl 63))), some (.inl v1), some (.inl v2), some (.inl v3), some (.inl w4), some (.inl v5)]) (S := [.inl (V 62 74), .inr (.inr (.inl 96))]) (M := mm V h) rfl rfl rfl c1.1 c1.2 ?_
  by_cases c2 : 0 ≤ (V 62 74) ∧ (V 62 74) < (36 : Int)
  case neg => replace hf := (if_neg c2).symm.trans hf; cases hf
  replace hf := (if_pos c2).symm.trans hf
  refine ok_iast (i := V 62 74) (v := w32 ((V 95 ((V 62 74).toNat)) + v5)) (id := 95) (n := 36) (L := [some (.inr (.inr (.inl 63))), some (.inl v1), some (.inl v2), some (.inl v3), some (.inl w4), some (.inl v5)]) (S := []) (M := mm V h) rfl rfl rfl c2.1 c2.2 ?_
  refine ok_if_ge (x := V 62 78) (L := [some (.inr (.inr (.inl 63))), some (.inl v1), some (.inl (w32 (v2 + v5))), some (.inl v3), some (.inl w4), some (.inl v5)]) (S := []) (M := mm (up (up (up V 95 ((V 62 74).toNat) (w32 ((V 95 ((V 62 74).toNat)) + v5))) 62 75 (w32 ((V 62 75) - v5))) 62 73 (w32 ((V 62 73) + v5))) h) rfl rfl (fun c3 => ?_) (fun c3 => ?_)
  ·
    replace hf := (if_neg (Int.not_lt.mpr c3)).symm.trans hf
    exact s_Mo_paves_29 hf K1
  ·
    replace hf := (if_pos c3).symm.trans hf
    refine ok_thru (L := [some (.inr (.inr (.inl 63))), some (.inl v1), some (.inl (w32 (v2 + v5))), some (.inl v3), some (.inl w4), some (.inl v5)]) (S := []) (M := mm (up (up (up (up V 95 ((V 62 74).toNat) (w32 ((V 95 ((V 62 74).toNat)) + v5))) 62 75 (w32 ((V 62 75) - v5))) 62 73 (w32 ((V 62 73) + v5))) 62 78 v1) h) rfl rfl ?_
    exact s_Mo_paves_29 hf K1
def f_Mo_paves_17 (k1 : VV → Int → Int → Int → (Option (VV))) (V : VV) (v1 : Int) (v2 : Int) (v3 : Int) : Option (VV) := if (if (V 62 75) < (w32 ((V 62 92) - v2)) then V 62 75 else w32 ((V 62 92) - v2) : Int) = 0 then k1 V v1 v2 v3 else if 0 ≤ (V 62 74) ∧ (V 62 74) < (36 : Int) then if (V 95 ((V 62 74).toNat)) = 0 then if 0 ≤ (V 62 74) ∧ (V 62 74) < (36 : Int) then f_Mo_paves_25 k1 (up V 96 ((V 62 74).toNat) v1) v1 v2 v3 (if (V 62 75) < (w32 ((V 62 92) - v2)) then V 62 75 else w32 ((V 62 92) - v2) : Int) else none else f_Mo_paves_25 k1 V v1 v2 v3 (if (V 62 75) < (w32 ((V 62 92) - v2)) then V 62 75 else w32 ((V 62 92) - v2) : Int) else none
set_option maxRecDepth 20000 in
set_option maxHeartbeats 4000000 in
theorem s_Mo_paves_17 {X : Xs} {d : Nat} {k1 : VV → Int → Int → Int → (Option (VV))} {V : VV} {h : HP} {v1 : Int} {v2 : Int} {v3 : Int} {w4 : Int} {z5 : Option AV} {q : VV} (hf : f_Mo_paves_17 k1 V v1 v2 v3 = some q) (K1 : ∀ (V : VV) (v1 : Int) (v2 : Int) (v3 : Int) (z4 : Option AV) (z5 : Option AV), k1 V v1 v2 v3 = some q → Ok X (d + 3) 203 1 ([some (.inr (.inr (.inl 63))), some (.inl v1), some (.inl v2), some (.inl v3), z4, z5], [], mm V h) (fun M r => M = mm q h ∧ r = none)) : Ok X (d + 3) 203 17 ([some (.inr (.inr (.inl 63))), some (.inl v1), some (.inl v2), some (.inl v3), some (.inl w4), z5], [], mm V h) (fun M r => M = mm q h ∧ r = none) := by
  let QQ : Mm → Option AV → Prop := fun M r => M = mm q h ∧ r = none
  show Ok X (d + 3) 203 17 ([some (.inr (.inr (.inl 63))), some (.inl v1), some (.inl v2), some (.inl v3), some (.inl w4), z5], [], mm V h) QQ
  have JN1 : Ok X (d + 3) 203 20 ([some (.inr (.inr (.inl 63))), some (.inl v1), some (.inl v2), some (.inl v3), some (.inl w4), z5], [.inl (if (V 62 75) < (w32 ((V 62 92) - v2)) then V 62 75 else w32 ((V 62 92) - v2) : Int)], mm V h) QQ := by
    refine ok_if_ne (x := (if (V 62 75) < (w32 ((V 62 92) - v2)) then V 62 75 else w32 ((V 62 92) - v2) : Int)) (L := [some (.inr (.inr (.inl 63))), some (.inl v1), some (.inl v2), some (.inl v3), some (.inl w4), some (.inl (if (V 62 75) < (w32 ((V 62 92) - v2)) then V 62 75 else w32 ((V 62 92) - v2) : Int))]) (S := []) (M := mm V h) rfl rfl (fun c2 => ?_) (fun c2 => ?_)
    ·
      replace hf := (if_neg c2).symm.trans hf
      by_cases c3 : 0 ≤ (V 62 74) ∧ (V 62 74) < (36 : Int)
      case neg => replace hf := (if_neg c3).symm.trans hf; cases hf
      replace hf := (if_pos c3).symm.trans hf
      refine ok_iald (i := V 62 74) (id := 95) (n := 36) (L := [some (.inr (.inr (.inl 63))), some (.inl v1), some (.inl v2), some (.inl v3), some (.inl w4), some (.inl (if (V 62 75) < (w32 ((V 62 92) - v2)) then V 62 75 else w32 ((V 62 92) - v2) : Int))]) (S := []) (M := mm V h) rfl rfl rfl c3.1 c3.2 ?_
      refine ok_if_ne (x := V 95 ((V 62 74).toNat)) (L := [some (.inr (.inr (.inl 63))), some (.inl v1), some (.inl v2), some (.inl v3), some (.inl w4), some (.inl (if (V 62 75) < (w32 ((V 62 92) - v2)) then V 62 75 else w32 ((V 62 92) - v2) : Int))]) (S := []) (M := mm V h) rfl rfl (fun c4 => ?_) (fun c4 => ?_)
      ·
        replace hf := (if_neg c4).symm.trans hf
        exact s_Mo_paves_25 hf K1
      ·
        replace hf := (if_pos c4).symm.trans hf
        by_cases c5 : 0 ≤ (V 62 74) ∧ (V 62 74) < (36 : Int)
        case neg => replace hf := (if_neg c5).symm.trans hf; cases hf
        replace hf := (if_pos c5).symm.trans hf
        refine ok_iast (i := V 62 74) (v := v1) (id := 96) (n := 36) (L := [some (.inr (.inr (.inl 63))), some (.inl v1), some (.inl v2), some (.inl v3), some (.inl w4), some (.inl (if (V 62 75) < (w32 ((V 62 92) - v2)) then V 62 75 else w32 ((V 62 92) - v2) : Int))]) (S := []) (M := mm V h) rfl rfl rfl c5.1 c5.2 ?_
        exact s_Mo_paves_25 hf K1
    ·
      replace hf := (if_pos c2).symm.trans hf
      refine ok_goto (L := [some (.inr (.inr (.inl 63))), some (.inl v1), some (.inl v2), some (.inl v3), some (.inl w4), some (.inl (if (V 62 75) < (w32 ((V 62 92) - v2)) then V 62 75 else w32 ((V 62 92) - v2) : Int))]) (S := []) (M := mm V h) rfl rfl ?_
      exact K1 V v1 v2 v3 (some (.inl w4)) (some (.inl (if (V 62 75) < (w32 ((V 62 92) - v2)) then V 62 75 else w32 ((V 62 92) - v2) : Int))) hf
  clear hf
  refine ok_ic_ge (x := V 62 75) (u := w32 ((V 62 92) - v2)) (L := [some (.inr (.inr (.inl 63))), some (.inl v1), some (.inl v2), some (.inl v3), some (.inl w4), z5]) (S := []) (M := mm V h) rfl rfl (fun c6 => ?_) (fun c6 => ?_)
  ·
    simp only [if_neg (Int.not_lt.mpr c6)] at JN1
    refine ok_thru (L := [some (.inr (.inr (.inl 63))), some (.inl v1), some (.inl v2), some (.inl v3), some (.inl w4), z5]) (S := [.inl (w32 ((V 62 92) - v2))]) (M := mm V h) rfl rfl ?_
    first | exact JN1 | (simp only [if_neg (Int.not_lt.mpr c6)]; exact JN1)
  ·
    simp only [if_pos c6] at JN1
    refine ok_goto (L := [some (.inr (.inr (.inl 63))), some (.inl v1), some (.inl v2), some (.inl v3), some (.inl w4), z5]) (S := [.inl (V 62 75)]) (M := mm V h) rfl rfl ?_
    first | exact JN1 | (simp only [if_pos c6]; exact JN1)
def f_Mo_paves_11 (k1 : VV → Int → Int → Int → (Option (VV))) (V : VV) (v1 : Int) (v2 : Int) (t0 : Int) : Option (VV) := if t0 < 0 then f_Mo_paves_17 k1 V v1 v2 (if 0 < (V 62 75) then 1 else (if t0 < 0 then 0 else 1 : Int) : Int) else Option.bind (f_Mo_takes V t0 v1) (fun q3 => f_Mo_paves_17 k1 q3 v1 v2 (if 0 < (V 62 75) then 1 else (if t0 < 0 then 0 else 1 : Int) : Int))
set_option maxRecDepth 20000 in
set_option maxHeartbeats 4000000 in
theorem s_Mo_paves_11 {X : Xs} {d : Nat} {k1 : VV → Int → Int → Int → (Option (VV))} {V : VV} {h : HP} {v1 : Int} {v2 : Int} {t0 : Int} {w3 : Int} {z4 : Option AV} {z5 : Option AV} {q : VV} (hf : f_Mo_paves_11 k1 V v1 v2 t0 = some q) (K1 : ∀ (V : VV) (v1 : Int) (v2 : Int) (v3 : Int) (z4 : Option AV) (z5 : Option AV), k1 V v1 v2 v3 = some q → Ok X (d + 3) 203 1 ([some (.inr (.inr (.inl 63))), some (.inl v1), some (.inl v2), some (.inl v3), z4, z5], [], mm V h) (fun M r => M = mm q h ∧ r = none)) : Ok X (d + 3) 203 11 ([some (.inr (.inr (.inl 63))), some (.inl v1), some (.inl v2), some (.inl w3), z4, z5], [.inl t0], mm V h) (fun M r => M = mm q h ∧ r = none) := by
  let QQ : Mm → Option AV → Prop := fun M r => M = mm q h ∧ r = none
  show Ok X (d + 3) 203 11 ([some (.inr (.inr (.inl 63))), some (.inl v1), some (.inl v2), some (.inl w3), z4, z5], [.inl t0], mm V h) QQ
  have JN1 : Ok X (d + 3) 203 15 ([some (.inr (.inr (.inl 63))), some (.inl v1), some (.inl v2), some (.inl w3), some (.inl t0), z5], [.inl (if 0 < (V 62 75) then 1 else (if t0 < 0 then 0 else 1 : Int) : Int)], mm V h) QQ := by
    refine ok_if_lt (x := t0) (L := [some (.inr (.inr (.inl 63))), some (.inl v1), some (.inl v2), some (.inl (if 0 < (V 62 75) then 1 else (if t0 < 0 then 0 else 1 : Int) : Int)), some (.inl t0), z5]) (S := []) (M := mm V h) rfl rfl (fun c2 => ?_) (fun c2 => ?_)
    ·
      replace hf := (if_pos c2).symm.trans hf
      exact s_Mo_paves_17 hf K1
    ·
      replace hf := (if_neg (Int.not_lt.mpr c2)).symm.trans hf
      obtain ⟨q3, e3, hf⟩ := obind hf
      refine ok_callA (L := [some (.inr (.inr (.inl 63))), some (.inl v1), some (.inl v2), some (.inl (if 0 < (V 62 75) then 1 else (if t0 < 0 then 0 else 1 : Int) : Int)), some (.inl t0), z5]) (M := mm V h) (args := [.inr (.inr (.inl 63)), .inl t0, .inl v1]) (rest := []) (y2 := 207) rfl rfl rfl (Or.inl rfl) rfl rfl (Nat.le_of_ble_eq_true rfl) rfl rfl (Nat.le_of_ble_eq_true rfl) (Nat.le_of_ble_eq_true rfl) (s_Mo_takes e3) ?_
      rintro _ _ ⟨rfl, rfl⟩
      exact s_Mo_paves_17 hf K1
  clear hf
  refine ok_if_gt (x := V 62 75) (L := [some (.inr (.inr (.inl 63))), some (.inl v1), some (.inl v2), some (.inl w3), some (.inl t0), z5]) (S := []) (M := mm V h) rfl rfl (fun c4 => ?_) (fun c4 => ?_)
  ·
    simp only [if_pos c4] at JN1
    refine ok_goto (L := [some (.inr (.inr (.inl 63))), some (.inl v1), some (.inl v2), some (.inl w3), some (.inl t0), z5]) (S := [.inl 1]) (M := mm V h) rfl rfl ?_
    first | exact JN1 | (simp only [if_pos c4]; exact JN1)
  ·
    simp only [if_neg (Int.not_lt.mpr c4)] at JN1
    refine ok_if_lt (x := t0) (L := [some (.inr (.inr (.inl 63))), some (.inl v1), some (.inl v2), some (.inl w3), some (.inl t0), z5]) (S := []) (M := mm V h) rfl rfl (fun c5 => ?_) (fun c5 => ?_)
    ·
      simp only [if_pos c5] at JN1
      refine ok_thru (L := [some (.inr (.inr (.inl 63))), some (.inl v1), some (.inl v2), some (.inl w3), some (.inl t0), z5]) (S := [.inl 0]) (M := mm V h) rfl rfl ?_
      first | exact JN1 | (simp only [if_neg (Int.not_lt.mpr c4), if_pos c5]; exact JN1)
    ·
      simp only [if_neg (Int.not_lt.mpr c5)] at JN1
      refine ok_goto (L := [some (.inr (.inr (.inl 63))), some (.inl v1), some (.inl v2), some (.inl w3), some (.inl t0), z5]) (S := [.inl 1]) (M := mm V h) rfl rfl ?_
      first | exact JN1 | (simp only [if_neg (Int.not_lt.mpr c4), if_neg (Int.not_lt.mpr c5)]; exact JN1)
def f_Mo_paves_1 : Nat → VV → Int → Int → Int → (Option (VV))
  | 0, _, _, _, _ => none
  | n + 1, V, v1, v2, v3 => if v3 = 0 then some V else if v2 < (V 62 92) then if (V 62 74) < (V 62 13) then Option.bind (f_Mo_isFirm V v1) (fun q4 => if q4 = 0 then some V else if (V 62 75) = 0 then Option.bind (f_Mo_firstWaiting V (V 62 74)) (fun q7 => f_Mo_paves_11 (f_Mo_paves_1 n) V v1 v2 q7) else f_Mo_paves_11 (f_Mo_paves_1 n) V v1 v2 (-1)) else some V else some V
set_option maxRecDepth 20000 in
set_option maxHeartbeats 4000000 in
theorem s_Mo_paves_1_n {X : Xs} {d : Nat} {h : HP} {q : VV} : ∀ (n : Nat) (V : VV) (v1 : Int) (v2 : Int) (v3 : Int) (z4 : Option AV) (z5 : Option AV), f_Mo_paves_1 n V v1 v2 v3 = some q → Ok X (d + 3) 203 1 ([some (.inr (.inr (.inl 63))), some (.inl v1), some (.inl v2), some (.inl v3), z4, z5], [], mm V h) (fun M r => M = mm q h ∧ r = none) := by
  intro n
  induction n with
  | zero => intro V v1 v2 v3 z4 z5 hf; cases hf
  | succ n ih =>
    intro V v1 v2 v3 z4 z5 hf
    let QQ : Mm → Option AV → Prop := fun M r => M = mm q h ∧ r = none
    show Ok X (d + 3) 203 1 ([some (.inr (.inr (.inl 63))), some (.inl v1), some (.inl v2), some (.inl v3), z4, z5], [], mm V h) QQ
    refine ok_if_eq (x := v3) (L := [some (.inr (.inr (.inl 63))), some (.inl v1), some (.inl v2), some (.inl v3), z4, z5]) (S := []) (M := mm V h) rfl rfl (fun c1 => ?_) (fun c1 => ?_)
    ·
      replace hf := (if_pos c1).symm.trans hf
      obtain rfl := Option.some.inj hf
      refine ok_return (L := [some (.inr (.inr (.inl 63))), some (.inl v1), some (.inl v2), some (.inl v3), z4, z5]) (M := mm V h) rfl rfl ?_
      exact ⟨rfl, rfl⟩
    ·
      replace hf := (if_neg c1).symm.trans hf
      refine ok_ic_ge (x := v2) (u := V 62 92) (L := [some (.inr (.inr (.inl 63))), some (.inl v1), some (.inl v2), some (.inl v3), z4, z5]) (S := []) (M := mm V h) rfl rfl (fun c2 => ?_) (fun c2 => ?_)
      ·
        replace hf := (if_neg (Int.not_lt.mpr c2)).symm.trans hf
        obtain rfl := Option.some.inj hf
        refine ok_return (L := [some (.inr (.inr (.inl 63))), some (.inl v1), some (.inl v2), some (.inl v3), z4, z5]) (M := mm V h) rfl rfl ?_
        exact ⟨rfl, rfl⟩
      ·
        replace hf := (if_pos c2).symm.trans hf
        refine ok_ic_ge (x := V 62 74) (u := V 62 13) (L := [some (.inr (.inr (.inl 63))), some (.inl v1), some (.inl v2), some (.inl v3), z4, z5]) (S := []) (M := mm V h) rfl rfl (fun c3 => ?_) (fun c3 => ?_)
        ·
          replace hf := (if_neg (Int.not_lt.mpr c3)).symm.trans hf
          obtain rfl := Option.some.inj hf
          refine ok_return (L := [some (.inr (.inr (.inl 63))), some (.inl v1), some (.inl v2), some (.inl v3), z4, z5]) (M := mm V h) rfl rfl ?_
          exact ⟨rfl, rfl⟩
        ·
          replace hf := (if_pos c3).symm.trans hf
          obtain ⟨q4, e4, hf⟩ := obind hf
          refine ok_callA (L := [some (.inr (.inr (.inl 63))), some (.inl v1), some (.inl v2), some (.inl v3), z4, z5]) (M := mm V h) (args := [.inr (.inr (.inl 63)), .inl v1]) (rest := []) (y2 := 204) rfl rfl rfl (Or.inl rfl) rfl rfl (Nat.le_of_ble_eq_true rfl) rfl rfl (Nat.le_of_ble_eq_true rfl) (Nat.le_of_ble_eq_true rfl) (s_Mo_isFirm e4) ?_
          rintro _ _ ⟨rfl, rfl, hz4⟩
          refine ok_if_ne (x := q4) (L := [some (.inr (.inr (.inl 63))), some (.inl v1), some (.inl v2), some (.inl v3), z4, z5]) (S := []) (M := mm V h) rfl rfl (fun c5 => ?_) (fun c5 => ?_)
          ·
            replace hf := (if_neg c5).symm.trans hf
            refine ok_if_ne (x := V 62 75) (L := [some (.inr (.inr (.inl 63))), some (.inl v1), some (.inl v2), some (.inl v3), z4, z5]) (S := []) (M := mm V h) rfl rfl (fun c6 => ?_) (fun c6 => ?_)
            ·
              replace hf := (if_neg c6).symm.trans hf
              refine ok_thru (L := [some (.inr (.inr (.inl 63))), some (.inl v1), some (.inl v2), some (.inl v3), z4, z5]) (S := [.inl (-1)]) (M := mm V h) rfl rfl ?_
              exact s_Mo_paves_11 hf ih
            ·
              replace hf := (if_pos c6).symm.trans hf
              obtain ⟨q7, e7, hf⟩ := obind hf
              refine ok_callA (L := [some (.inr (.inr (.inl 63))), some (.inl v1), some (.inl v2), some (.inl v3), z4, z5]) (M := mm V h) (args := [.inr (.inr (.inl 63)), .inl (V 62 74)]) (rest := []) (y2 := 206) rfl rfl rfl (Or.inl rfl) rfl rfl (Nat.le_of_ble_eq_true rfl) rfl rfl (Nat.le_of_ble_eq_true rfl) (Nat.le_of_ble_eq_true rfl) (s_Mo_firstWaiting e7) ?_
              rintro _ _ ⟨rfl, rfl⟩
              refine ok_goto (L := [some (.inr (.inr (.inl 63))), some (.inl v1), some (.inl v2), some (.inl v3), z4, z5]) (S := [.inl q7]) (M := mm V h) rfl rfl ?_
              exact s_Mo_paves_11 hf ih
          ·
            replace hf := (if_pos c5).symm.trans hf
            obtain rfl := Option.some.inj hf
            refine ok_return (L := [some (.inr (.inr (.inl 63))), some (.inl v1), some (.inl v2), some (.inl v3), z4, z5]) (M := mm V h) rfl rfl ?_
            exact ⟨rfl, rfl⟩
theorem s_Mo_paves_1 {X : Xs} {d : Nat} {h : HP} {V : VV} {v1 : Int} {v2 : Int} {v3 : Int} {z4 : Option AV} {z5 : Option AV} {n : Nat} {q : VV} (hf : f_Mo_paves_1 n V v1 v2 v3 = some q) : Ok X (d + 3) 203 1 ([some (.inr (.inr (.inl 63))), some (.inl v1), some (.inl v2), some (.inl v3), z4, z5], [], mm V h) (fun M r => M = mm q h ∧ r = none) :=
  s_Mo_paves_1_n n V v1 v2 v3 z4 z5 hf
def f_Mo_paves (V : VV) (v1 : Int) : Option (VV) := f_Mo_paves_1 FU V v1 0 1
set_option maxRecDepth 20000 in
set_option maxHeartbeats 4000000 in
theorem s_Mo_paves {X : Xs} {d : Nat} {V : VV} {h : HP} {v1 : Int} {q : VV} (hf : f_Mo_paves V v1 = some q) : Ok X (d + 3) 203 0 ([some (.inr (.inr (.inl 63))), some (.inl v1), none, none, none, none], [], mm V h) (fun M r => M = mm q h ∧ r = none) := by
  let QQ : Mm → Option AV → Prop := fun M r => M = mm q h ∧ r = none
  show Ok X (d + 3) 203 0 ([some (.inr (.inr (.inl 63))), some (.inl v1), none, none, none, none], [], mm V h) QQ
  refine ok_thru (L := [some (.inr (.inr (.inl 63))), some (.inl v1), some (.inl 0), some (.inl 1), none, none]) (S := []) (M := mm V h) rfl rfl ?_
  exact s_Mo_paves_1 hf
def f_Mo_goes_41 (V : VV)  : Option (VV × Int) := some (V, (if (V 62 74) = (V 62 13) then 1 else 0 : Int))
set_option maxRecDepth 20000 in
set_option maxHeartbeats 4000000 in
theorem s_Mo_goes_41 {X : Xs} {d : Nat} {V : VV} {h : HP} {w1 : Int} {w2 : Int} {w3 : Int} {z4 : Option AV} {q : VV × Int} (hf : f_Mo_goes_41 V = some q) : Ok X (d + 5) 194 41 ([some (.inr (.inr (.inl 63))), some (.inl w1), some (.inl w2), some (.inl w3), z4], [], mm V h) (fun M r => M = mm q.1 h ∧ r = some (.inl q.2) ∧ (q.2 = 0 ∨ q.2 = 1)) := by
  let QQ : Mm → Option AV → Prop := fun M r => M = mm q.1 h ∧ r = some (.inl q.2) ∧ (q.2 = 0 ∨ q.2 = 1)
  show Ok X (d + 5) 194 41 ([some (.inr (.inr (.inl 63))), some (.inl w1), some (.inl w2), some (.inl w3), z4], [], mm V h) QQ
  have JN1 : Ok X (d + 5) 194 44 ([some (.inr (.inr (.inl 63))), some (.inl w1), some (.inl w2), some (.inl w3), z4], [.inl (if (V 62 74) = (V 62 13) then 1 else 0 : Int)], mm V h) QQ := by
    obtain rfl := Option.some.inj hf
    have hz : ((if (V 62 74) = (V 62 13) then 1 else 0 : Int) : Int) = 0 ∨ ((if (V 62 74) = (V 62 13) then 1 else 0 : Int) : Int) = 1 := by
      first | exact Or.inl rfl | exact Or.inr rfl | assumption | (repeat' split) <;> first | exact Or.inl rfl | exact Or.inr rfl | assumption
    refine ok_zreturn (L := [some (.inr (.inr (.inl 63))), some (.inl w1), some (.inl w2), some (.inl w3), z4]) (M := mm V h) (x := (if (V 62 74) = (V 62 13) then 1 else 0 : Int)) rfl rfl hz ?_
    exact ⟨rfl, rfl, hz⟩
  clear hf
  refine ok_ic_ne (x := V 62 74) (u := V 62 13) (L := [some (.inr (.inr (.inl 63))), some (.inl w1), some (.inl w2), some (.inl w3), z4]) (S := []) (M := mm V h) rfl rfl (fun c2 => ?_) (fun c2 => ?_)
  ·
    simp only [if_neg c2] at JN1
    refine ok_thru (L := [some (.inr (.inr (.inl 63))), some (.inl w1), some (.inl w2), some (.inl w3), z4]) (S := [.inl 0]) (M := mm V h) rfl rfl ?_
    first | exact JN1 | (simp only [if_neg c2]; exact JN1)
  ·
    simp only [if_pos c2] at JN1
    refine ok_goto (L := [some (.inr (.inr (.inl 63))), some (.inl w1), some (.inl w2), some (.inl w3), z4]) (S := [.inl 1]) (M := mm V h) rfl rfl ?_
    first | exact JN1 | (simp only [if_pos c2]; exact JN1)
def f_Mo_goes_24 (k7 : VV → Int → Int → (Option (VV × Int))) (k10 : VV → Int → Int → Int → (Option (VV × Int))) (V : VV) (v1 : Int) (v3 : Int) (v4 : Int) : Option (VV × Int) := k10 V v1 v3 (w32 (v4 + 1))
set_option maxRecDepth 20000 in
set_option maxHeartbeats 4000000 in
theorem s_Mo_goes_24 {X : Xs} {d : Nat} {k7 : VV → Int → Int → (Option (VV × Int))} {k10 : VV → Int → Int → Int → (Option (VV × Int))} {V : VV} {h : HP} {v1 : Int} {v3 : Int} {v4 : Int} {w2 : Int} {q : VV × Int} (hf : f_Mo_goes_24 k7 k10 V v1 v3 v4 = some q) (K7 : ∀ (V : VV) (v1 : Int) (v3 : Int) (w2 : Int) (z4 : Option AV), k7 V v1 v3 = some q → Ok X (d + 5) 194 7 ([some (.inr (.inr (.inl 63))), some (.inl v1), some (.inl w2), some (.inl v3), z4], [], mm V h) (fun M r => M = mm q.1 h ∧ r = some (.inl q.2) ∧ (q.2 = 0 ∨ q.2 = 1))) (K10 : ∀ (V : VV) (v1 : Int) (v3 : Int) (v4 : Int) (w2 : Int), k10 V v1 v3 v4 = some q → Ok X (d + 5) 194 10 ([some (.inr (.inr (.inl 63))), some (.inl v1), some (.inl w2), some (.inl v3), some (.inl v4)], [], mm V h) (fun M r => M = mm q.1 h ∧ r = some (.inl q.2) ∧ (q.2 = 0 ∨ q.2 = 1))) : Ok X (d + 5) 194 24 ([some (.inr (.inr (.inl 63))), some (.inl v1), some (.inl w2), some (.inl v3), some (.inl v4)], [], mm V h) (fun M r => M = mm q.1 h ∧ r = some (.inl q.2) ∧ (q.2 = 0 ∨ q.2 = 1)) := by
  let QQ : Mm → Option AV → Prop := fun M r => M = mm q.1 h ∧ r = some (.inl q.2) ∧ (q.2 = 0 ∨ q.2 = 1)
  show Ok X (d + 5) 194 24 ([some (.inr (.inr (.inl 63))), some (.inl v1), some (.inl w2), some (.inl v3), some (.inl v4)], [], mm V h) QQ
  refine ok_goto (L := [some (.inr (.inr (.inl 63))), some (.inl v1), some (.inl w2), some (.inl v3), some (.inl (w32 (v4 + 1)))]) (S := []) (M := mm V h) rfl rfl ?_
  exact K10 V v1 v3 (w32 (v4 + 1)) w2 hf
def f_Mo_goes_23 (k7 : VV → Int → Int → (Option (VV × Int))) (k10 : VV → Int → Int → Int → (Option (VV × Int))) (V : VV) (v1 : Int) (v3 : Int) (v4 : Int) (t1 : Int) (t2 : Int) : Option (VV × Int) := if 0 ≤ t1 ∧ t1 < (3 : Int) then f_Mo_goes_24 k7 k10 (up V 91 t1.toNat t2) v1 v3 v4 else none
set_option maxRecDepth 20000 in
set_option maxHeartbeats 4000000 in
theorem s_Mo_goes_23 {X : Xs} {d : Nat} {k7 : VV → Int → Int → (Option (VV × Int))} {k10 : VV → Int → Int → Int → (Option (VV × Int))} {V : VV} {h : HP} {v1 : Int} {v3 : Int} {v4 : Int} {t1 : Int} {t2 : Int} {w2 : Int} {q : VV × Int} (hf : f_Mo_goes_23 k7 k10 V v1 v3 v4 t1 t2 = some q) (K7 : ∀ (V : VV) (v1 : Int) (v3 : Int) (w2 : Int) (z4 : Option AV), k7 V v1 v3 = some q → Ok X (d + 5) 194 7 ([some (.inr (.inr (.inl 63))), some (.inl v1), some (.inl w2), some (.inl v3), z4], [], mm V h) (fun M r => M = mm q.1 h ∧ r = some (.inl q.2) ∧ (q.2 = 0 ∨ q.2 = 1))) (K10 : ∀ (V : VV) (v1 : Int) (v3 : Int) (v4 : Int) (w2 : Int), k10 V v1 v3 v4 = some q → Ok X (d + 5) 194 10 ([some (.inr (.inr (.inl 63))), some (.inl v1), some (.inl w2), some (.inl v3), some (.inl v4)], [], mm V h) (fun M r => M = mm q.1 h ∧ r = some (.inl q.2) ∧ (q.2 = 0 ∨ q.2 = 1))) : Ok X (d + 5) 194 23 ([some (.inr (.inr (.inl 63))), some (.inl v1), some (.inl w2), some (.inl v3), some (.inl v4)], [.inl t2, .inl t1, .inr (.inr (.inl 92))], mm V h) (fun M r => M = mm q.1 h ∧ r = some (.inl q.2) ∧ (q.2 = 0 ∨ q.2 = 1)) := by
  let QQ : Mm → Option AV → Prop := fun M r => M = mm q.1 h ∧ r = some (.inl q.2) ∧ (q.2 = 0 ∨ q.2 = 1)
  show Ok X (d + 5) 194 23 ([some (.inr (.inr (.inl 63))), some (.inl v1), some (.inl w2), some (.inl v3), some (.inl v4)], [.inl t2, .inl t1, .inr (.inr (.inl 92))], mm V h) QQ
  by_cases c1 : 0 ≤ t1 ∧ t1 < (3 : Int)
  case neg => replace hf := (if_neg c1).symm.trans hf; cases hf
  replace hf := (if_pos c1).symm.trans hf
  refine ok_iast (i := t1) (v := t2) (id := 91) (n := 3) (L := [some (.inr (.inr (.inl 63))), some (.inl v1), some (.inl w2), some (.inl v3), some (.inl v4)]) (S := []) (M := mm V h) rfl rfl rfl c1.1 c1.2 ?_
  exact s_Mo_goes_24 hf K7 K10
def f_Mo_goes_32 (k7 : VV → Int → Int → (Option (VV × Int))) (k28 : VV → Int → Int → Int → (Option (VV × Int))) (V : VV) (v1 : Int) (v3 : Int) (v4 : Int) : Option (VV × Int) := k28 V v1 v3 (w32 (v4 + 1))
set_option maxRecDepth 20000 in
set_option maxHeartbeats 4000000 in
theorem s_Mo_goes_32 {X : Xs} {d : Nat} {k7 : VV → Int → Int → (Option (VV × Int))} {k28 : VV → Int → Int → Int → (Option (VV × Int))} {V : VV} {h : HP} {v1 : Int} {v3 : Int} {v4 : Int} {w2 : Int} {q : VV × Int} (hf : f_Mo_goes_32 k7 k28 V v1 v3 v4 = some q) (K7 : ∀ (V : VV) (v1 : Int) (v3 : Int) (w2 : Int) (z4 : Option AV), k7 V v1 v3 = some q → Ok X (d + 5) 194 7 ([some (.inr (.inr (.inl 63))), some (.inl v1), some (.inl w2), some (.inl v3), z4], [], mm V h) (fun M r => M = mm q.1 h ∧ r = some (.inl q.2) ∧ (q.2 = 0 ∨ q.2 = 1))) (K28 : ∀ (V : VV) (v1 : Int) (v3 : Int) (v4 : Int) (w2 : Int), k28 V v1 v3 v4 = some q → Ok X (d + 5) 194 28 ([some (.inr (.inr (.inl 63))), some (.inl v1), some (.inl w2), some (.inl v3), some (.inl v4)], [], mm V h) (fun M r => M = mm q.1 h ∧ r = some (.inl q.2) ∧ (q.2 = 0 ∨ q.2 = 1))) : Ok X (d + 5) 194 32 ([some (.inr (.inr (.inl 63))), some (.inl v1), some (.inl w2), some (.inl v3), some (.inl v4)], [], mm V h) (fun M r => M = mm q.1 h ∧ r = some (.inl q.2) ∧ (q.2 = 0 ∨ q.2 = 1)) := by
  let QQ : Mm → Option AV → Prop := fun M r => M = mm q.1 h ∧ r = some (.inl q.2) ∧ (q.2 = 0 ∨ q.2 = 1)
  show Ok X (d + 5) 194 32 ([some (.inr (.inr (.inl 63))), some (.inl v1), some (.inl w2), some (.inl v3), some (.inl v4)], [], mm V h) QQ
  refine ok_goto (L := [some (.inr (.inr (.inl 63))), some (.inl v1), some (.inl w2), some (.inl v3), some (.inl (w32 (v4 + 1)))]) (S := []) (M := mm V h) rfl rfl ?_
  exact K28 V v1 v3 (w32 (v4 + 1)) w2 hf
def f_Mo_goes_40 (k7 : VV → Int → Int → (Option (VV × Int))) (V : VV) (v1 : Int) (v3 : Int) : Option (VV × Int) := k7 V v1 (w32 (v3 + 1))
set_option maxRecDepth 20000 in
set_option maxHeartbeats 4000000 in
theorem s_Mo_goes_40 {X : Xs} {d : Nat} {k7 : VV → Int → Int → (Option (VV × Int))} {V : VV} {h : HP} {v1 : Int} {v3 : Int} {w2 : Int} {w4 : Int} {q : VV × Int} (hf : f_Mo_goes_40 k7 V v1 v3 = some q) (K7 : ∀ (V : VV) (v1 : Int) (v3 : Int) (w2 : Int) (z4 : Option AV), k7 V v1 v3 = some q → Ok X (d + 5) 194 7 ([some (.inr (.inr (.inl 63))), some (.inl v1), some (.inl w2), some (.inl v3), z4], [], mm V h) (fun M r => M = mm q.1 h ∧ r = some (.inl q.2) ∧ (q.2 = 0 ∨ q.2 = 1))) : Ok X (d + 5) 194 40 ([some (.inr (.inr (.inl 63))), some (.inl v1), some (.inl w2), some (.inl v3), some (.inl w4)], [], mm V h) (fun M r => M = mm q.1 h ∧ r = some (.inl q.2) ∧ (q.2 = 0 ∨ q.2 = 1)) := by
  let QQ : Mm → Option AV → Prop := fun M r => M = mm q.1 h ∧ r = some (.inl q.2) ∧ (q.2 = 0 ∨ q.2 = 1)
  show Ok X (d + 5) 194 40 ([some (.inr (.inr (.inl 63))), some (.inl v1), some (.inl w2), some (.inl v3), some (.inl w4)], [], mm V h) QQ
  refine ok_goto (L := [some (.inr (.inr (.inl 63))), some (.inl v1), some (.inl w2), some (.inl (w32 (v3 + 1))), some (.inl w4)]) (S := []) (M := mm V h) rfl rfl ?_
  exact K7 V v1 (w32 (v3 + 1)) w2 (some (.inl w4)) hf
def f_Mo_goes_28 (k7 : VV → Int → Int → (Option (VV × Int))) : Nat → VV → Int → Int → Int → (Option (VV × Int))
  | 0, _, _, _, _ => none
  | n + 1, V, v1, v3, v4 => if v4 < (V 62 22) then if 0 ≤ v4 ∧ v4 < (16 : Int) then if (V 86 v4.toNat) = 0 then Option.bind (f_Mo_order V v4 v3) (fun q9 => f_Mo_goes_32 k7 (f_Mo_goes_28 k7 n) q9 v1 v3 v4) else f_Mo_goes_32 k7 (f_Mo_goes_28 k7 n) V v1 v3 v4 else none else Option.bind (f_Mo_isOpen V v1 v3) (fun q2 => if q2 = 0 then f_Mo_goes_40 k7 V v1 v3 else Option.bind (f_Mo_paves V v3) (fun q4 => if (q4 62 73) = (V 62 73) then if (q4 62 78) < 0 then f_Mo_goes_40 k7 q4 v1 v3 else f_Mo_goes_40 k7 (up q4 62 76 (w32 ((q4 62 76) + 1))) v1 v3 else f_Mo_goes_40 k7 q4 v1 v3))
set_option maxRecDepth 20000 in
set_option maxHeartbeats 4000000 in
theorem s_Mo_goes_28_n {X : Xs} {d : Nat} {k7 : VV → Int → Int → (Option (VV × Int))} {h : HP} {q : VV × Int} (K7 : ∀ (V : VV) (v1 : Int) (v3 : Int) (w2 : Int) (z4 : Option AV), k7 V v1 v3 = some q → Ok X (d + 5) 194 7 ([some (.inr (.inr (.inl 63))), some (.inl v1), some (.inl w2), some (.inl v3), z4], [], mm V h) (fun M r => M = mm q.1 h ∧ r = some (.inl q.2) ∧ (q.2 = 0 ∨ q.2 = 1))) : ∀ (n : Nat) (V : VV) (v1 : Int) (v3 : Int) (v4 : Int) (w2 : Int), f_Mo_goes_28 k7 n V v1 v3 v4 = some q → Ok X (d + 5) 194 28 ([some (.inr (.inr (.inl 63))), some (.inl v1), some (.inl w2), some (.inl v3), some (.inl v4)], [], mm V h) (fun M r => M = mm q.1 h ∧ r = some (.inl q.2) ∧ (q.2 = 0 ∨ q.2 = 1)) := by
  intro n
  induction n with
  | zero => intro V v1 v3 v4 w2 hf; cases hf
  | succ n ih =>
    intro V v1 v3 v4 w2 hf
    let QQ : Mm → Option AV → Prop := fun M r => M = mm q.1 h ∧ r = some (.inl q.2) ∧ (q.2 = 0 ∨ q.2 = 1)
    show Ok X (d + 5) 194 28 ([some (.inr (.inr (.inl 63))), some (.inl v1), some (.inl w2), some (.inl v3), some (.inl v4)], [], mm V h) QQ
    refine ok_ic_ge (x := v4) (u := V 62 22) (L := [some (.inr (.inr (.inl 63))), some (.inl v1), some (.inl w2), some (.inl v3), some (.inl v4)]) (S := []) (M := mm V h) rfl rfl (fun c1 => ?_) (fun c1 => ?_)
    ·
      replace hf := (if_neg (Int.not_lt.mpr c1)).symm.trans hf
      obtain ⟨q2, e2, hf⟩ := obind hf
      refine ok_callA (L := [some (.inr (.inr (.inl 63))), some (.inl v1), some (.inl w2), some (.inl v3), some (.inl v4)]) (M := mm V h) (args := [.inr (.inr (.inl 63)), .inl v1, .inl v3]) (rest := []) (y2 := 188) rfl rfl rfl (Or.inl rfl) rfl rfl (Nat.le_of_ble_eq_true rfl) rfl rfl (Nat.le_of_ble_eq_true rfl) (Nat.le_of_ble_eq_true rfl) (s_Mo_isOpen e2) ?_
      rintro _ _ ⟨rfl, rfl, hz2⟩
      refine ok_if_ne (x := q2) (L := [some (.inr (.inr (.inl 63))), some (.inl v1), some (.inl w2), some (.inl v3), some (.inl v4)]) (S := []) (M := mm V h) rfl rfl (fun c3 => ?_) (fun c3 => ?_)
      ·
        replace hf := (if_neg c3).symm.trans hf
        obtain ⟨q4, e4, hf⟩ := obind hf
        refine ok_callA (L := [some (.inr (.inr (.inl 63))), some (.inl v1), some (.inl w2), some (.inl v3), some (.inl (V 62 73))]) (M := mm V h) (args := [.inr (.inr (.inl 63)), .inl v3]) (rest := []) (y2 := 203) rfl rfl rfl (Or.inl rfl) rfl rfl (Nat.le_of_ble_eq_true rfl) rfl rfl (Nat.le_of_ble_eq_true rfl) (Nat.le_of_ble_eq_true rfl) (s_Mo_paves e4) ?_
        rintro _ _ ⟨rfl, rfl⟩
        refine ok_ic_ne (x := q4 62 73) (u := V 62 73) (L := [some (.inr (.inr (.inl 63))), some (.inl v1), some (.inl w2), some (.inl v3), some (.inl (V 62 73))]) (S := []) (M := mm q4 h) rfl rfl (fun c5 => ?_) (fun c5 => ?_)
        ·
          replace hf := (if_neg c5).symm.trans hf
          exact s_Mo_goes_40 hf K7
        ·
          replace hf := (if_pos c5).symm.trans hf
          refine ok_if_lt (x := q4 62 78) (L := [some (.inr (.inr (.inl 63))), some (.inl v1), some (.inl w2), some (.inl v3), some (.inl (V 62 73))]) (S := []) (M := mm q4 h) rfl rfl (fun c6 => ?_) (fun c6 => ?_)
          ·
            replace hf := (if_pos c6).symm.trans hf
            exact s_Mo_goes_40 hf K7
          ·
            replace hf := (if_neg (Int.not_lt.mpr c6)).symm.trans hf
            refine ok_thru (L := [some (.inr (.inr (.inl 63))), some (.inl v1), some (.inl w2), some (.inl v3), some (.inl (V 62 73))]) (S := []) (M := mm (up q4 62 76 (w32 ((q4 62 76) + 1))) h) rfl rfl ?_
            exact s_Mo_goes_40 hf K7
      ·
        replace hf := (if_pos c3).symm.trans hf
        refine ok_goto (L := [some (.inr (.inr (.inl 63))), some (.inl v1), some (.inl w2), some (.inl v3), some (.inl v4)]) (S := []) (M := mm V h) rfl rfl ?_
        exact s_Mo_goes_40 hf K7
    ·
      replace hf := (if_pos c1).symm.trans hf
      by_cases c7 : 0 ≤ v4 ∧ v4 < (16 : Int)
      case neg => replace hf := (if_neg c7).symm.trans hf; cases hf
      replace hf := (if_pos c7).symm.trans hf
      refine ok_iald (i := v4) (id := 86) (n := 16) (L := [some (.inr (.inr (.inl 63))), some (.inl v1), some (.inl w2), some (.inl v3), some (.inl v4)]) (S := []) (M := mm V h) rfl rfl rfl c7.1 c7.2 ?_
      refine ok_if_ne (x := V 86 v4.toNat) (L := [some (.inr (.inr (.inl 63))), some (.inl v1), some (.inl w2), some (.inl v3), some (.inl v4)]) (S := []) (M := mm V h) rfl rfl (fun c8 => ?_) (fun c8 => ?_)
      ·
        replace hf := (if_neg c8).symm.trans hf
        exact s_Mo_goes_32 hf K7 ih
      ·
        replace hf := (if_pos c8).symm.trans hf
        obtain ⟨q9, e9, hf⟩ := obind hf
        refine ok_callA (L := [some (.inr (.inr (.inl 63))), some (.inl v1), some (.inl w2), some (.inl v3), some (.inl v4)]) (M := mm V h) (args := [.inr (.inr (.inl 63)), .inl v4, .inl v3]) (rest := []) (y2 := 200) rfl rfl rfl (Or.inl rfl) rfl rfl (Nat.le_of_ble_eq_true rfl) rfl rfl (Nat.le_of_ble_eq_true rfl) (Nat.le_of_ble_eq_true rfl) (s_Mo_order e9) ?_
        rintro _ _ ⟨rfl, rfl⟩
        exact s_Mo_goes_32 hf K7 ih
theorem s_Mo_goes_28 {X : Xs} {d : Nat} {k7 : VV → Int → Int → (Option (VV × Int))} {h : HP} {V : VV} {v1 : Int} {v3 : Int} {v4 : Int} {w2 : Int} {n : Nat} {q : VV × Int} (hf : f_Mo_goes_28 k7 n V v1 v3 v4 = some q) (K7 : ∀ (V : VV) (v1 : Int) (v3 : Int) (w2 : Int) (z4 : Option AV), k7 V v1 v3 = some q → Ok X (d + 5) 194 7 ([some (.inr (.inr (.inl 63))), some (.inl v1), some (.inl w2), some (.inl v3), z4], [], mm V h) (fun M r => M = mm q.1 h ∧ r = some (.inl q.2) ∧ (q.2 = 0 ∨ q.2 = 1))) : Ok X (d + 5) 194 28 ([some (.inr (.inr (.inl 63))), some (.inl v1), some (.inl w2), some (.inl v3), some (.inl v4)], [], mm V h) (fun M r => M = mm q.1 h ∧ r = some (.inl q.2) ∧ (q.2 = 0 ∨ q.2 = 1)) :=
  s_Mo_goes_28_n K7 n V v1 v3 v4 w2 hf
def f_Mo_goes_10 (k7 : VV → Int → Int → (Option (VV × Int))) : Nat → VV → Int → Int → Int → (Option (VV × Int))
  | 0, _, _, _, _ => none
  | n + 1, V, v1, v3, v4 => if v4 < (V 62 17) then Option.bind (f_Mo_isShut V v1 v4 v3) (fun q4 => if q4 = 0 then if 0 ≤ v4 ∧ v4 < (3 : Int) then if 0 ≤ v4 ∧ v4 < (3 : Int) then if 0 ≤ v4 ∧ v4 < (3 : Int) then if (V 73 v4.toNat) < (w32 ((V 91 v4.toNat) + (V 72 v4.toNat))) then if 0 ≤ v4 ∧ v4 < (3 : Int) then f_Mo_goes_23 k7 (f_Mo_goes_10 k7 n) V v1 v3 v4 v4 (V 73 v4.toNat) else none else if 0 ≤ v4 ∧ v4 < (3 : Int) then if 0 ≤ v4 ∧ v4 < (3 : Int) then f_Mo_goes_23 k7 (f_Mo_goes_10 k7 n) V v1 v3 v4 v4 (w32 ((V 91 v4.toNat) + (V 72 v4.toNat))) else none else none else none else none else none else f_Mo_goes_24 k7 (f_Mo_goes_10 k7 n) V v1 v3 v4) else Option.bind (f_Mo_comeIn V v3) (fun q2 => Option.bind (f_Mo_plantsGo q2 v3) (fun q3 => f_Mo_goes_28 k7 FU q3 v1 v3 0))
set_option maxRecDepth 20000 in
set_option maxHeartbeats 4000000 in
theorem s_Mo_goes_10_n {X : Xs} {d : Nat} {k7 : VV → Int → Int → (Option (VV × Int))} {h : HP} {q : VV × Int} (K7 : ∀ (V : VV) (v1 : Int) (v3 : Int) (w2 : Int) (z4 : Option AV), k7 V v1 v3 = some q → Ok X (d + 5) 194 7 ([some (.inr (.inr (.inl 63))), some (.inl v1), some (.inl w2), some (.inl v3), z4], [], mm V h) (fun M r => M = mm q.1 h ∧ r = some (.inl q.2) ∧ (q.2 = 0 ∨ q.2 = 1))) : ∀ (n : Nat) (V : VV) (v1 : Int) (v3 : Int) (v4 : Int) (w2 : Int), f_Mo_goes_10 k7 n V v1 v3 v4 = some q → Ok X (d + 5) 194 10 ([some (.inr (.inr (.inl 63))), some (.inl v1), some (.inl w2), some (.inl v3), some (.inl v4)], [], mm V h) (fun M r => M = mm q.1 h ∧ r = some (.inl q.2) ∧ (q.2 = 0 ∨ q.2 = 1)) := by
  intro n
  induction n with
  | zero => intro V v1 v3 v4 w2 hf; cases hf
  | succ n ih =>
    intro V v1 v3 v4 w2 hf
    let QQ : Mm → Option AV → Prop := fun M r => M = mm q.1 h ∧ r = some (.inl q.2) ∧ (q.2 = 0 ∨ q.2 = 1)
    show Ok X (d + 5) 194 10 ([some (.inr (.inr (.inl 63))), some (.inl v1), some (.inl w2), some (.inl v3), some (.inl v4)], [], mm V h) QQ
    refine ok_ic_ge (x := v4) (u := V 62 17) (L := [some (.inr (.inr (.inl 63))), some (.inl v1), some (.inl w2), some (.inl v3), some (.inl v4)]) (S := []) (M := mm V h) rfl rfl (fun c1 => ?_) (fun c1 => ?_)
    ·
      replace hf := (if_neg (Int.not_lt.mpr c1)).symm.trans hf
      obtain ⟨q2, e2, hf⟩ := obind hf
      refine ok_callA (L := [some (.inr (.inr (.inl 63))), some (.inl v1), some (.inl w2), some (.inl v3), some (.inl v4)]) (M := mm V h) (args := [.inr (.inr (.inl 63)), .inl v3]) (rest := []) (y2 := 197) rfl rfl rfl (Or.inl rfl) rfl rfl (Nat.le_of_ble_eq_true rfl) rfl rfl (Nat.le_of_ble_eq_true rfl) (Nat.le_of_ble_eq_true rfl) (s_Mo_comeIn e2) ?_
      rintro _ _ ⟨rfl, rfl⟩
      obtain ⟨q3, e3, hf⟩ := obind hf
      refine ok_callA (L := [some (.inr (.inr (.inl 63))), some (.inl v1), some (.inl w2), some (.inl v3), some (.inl v4)]) (M := mm q2 h) (args := [.inr (.inr (.inl 63)), .inl v3]) (rest := []) (y2 := 198) rfl rfl rfl (Or.inl rfl) rfl rfl (Nat.le_of_ble_eq_true rfl) rfl rfl (Nat.le_of_ble_eq_true rfl) (Nat.le_of_ble_eq_true rfl) (s_Mo_plantsGo e3) ?_
      rintro _ _ ⟨rfl, rfl⟩
      refine ok_thru (L := [some (.inr (.inr (.inl 63))), some (.inl v1), some (.inl w2), some (.inl v3), some (.inl 0)]) (S := []) (M := mm q3 h) rfl rfl ?_
      exact s_Mo_goes_28 hf K7
    ·
      replace hf := (if_pos c1).symm.trans hf
      obtain ⟨q4, e4, hf⟩ := obind hf
      refine ok_callA (L := [some (.inr (.inr (.inl 63))), some (.inl v1), some (.inl w2), some (.inl v3), some (.inl v4)]) (M := mm V h) (args := [.inr (.inr (.inl 63)), .inl v1, .inl v4, .inl v3]) (rest := []) (y2 := 191) rfl rfl rfl (Or.inl rfl) rfl rfl (Nat.le_of_ble_eq_true rfl) rfl rfl (Nat.le_of_ble_eq_true rfl) (Nat.le_of_ble_eq_true rfl) (s_Mo_isShut e4) ?_
      rintro _ _ ⟨rfl, rfl, hz4⟩
      refine ok_if_eq (x := q4) (L := [some (.inr (.inr (.inl 63))), some (.inl v1), some (.inl w2), some (.inl v3), some (.inl v4)]) (S := []) (M := mm V h) rfl rfl (fun c5 => ?_) (fun c5 => ?_)
      ·
        replace hf := (if_pos c5).symm.trans hf
        by_cases c6 : 0 ≤ v4 ∧ v4 < (3 : Int)
        case neg => replace hf := (if_neg c6).symm.trans hf; cases hf
        replace hf := (if_pos c6).symm.trans hf
        refine ok_iald (i := v4) (id := 91) (n := 3) (L := [some (.inr (.inr (.inl 63))), some (.inl v1), some (.inl w2), some (.inl v3), some (.inl v4)]) (S := [.inl v4, .inr (.inr (.inl 92))]) (M := mm V h) rfl rfl rfl c6.1 c6.2 ?_
        by_cases c7 : 0 ≤ v4 ∧ v4 < (3 : Int)
        case neg => replace hf := (if_neg c7).symm.trans hf; cases hf
        replace hf := (if_pos c7).symm.trans hf
        refine ok_iald (i := v4) (id := 72) (n := 3) (L := [some (.inr (.inr (.inl 63))), some (.inl v1), some (.inl w2), some (.inl v3), some (.inl v4)]) (S := [.inl (V 91 v4.toNat), .inl v4, .inr (.inr (.inl 92))]) (M := mm V h) rfl rfl rfl c7.1 c7.2 ?_
        by_cases c8 : 0 ≤ v4 ∧ v4 < (3 : Int)
        case neg => replace hf := (if_neg c8).symm.trans hf; cases hf
        replace hf := (if_pos c8).symm.trans hf
        refine ok_iald (i := v4) (id := 73) (n := 3) (L := [some (.inr (.inr (.inl 63))), some (.inl v1), some (.inl w2), some (.inl v3), some (.inl v4)]) (S := [.inl (w32 ((V 91 v4.toNat) + (V 72 v4.toNat))), .inl v4, .inr (.inr (.inl 92))]) (M := mm V h) rfl rfl rfl c8.1 c8.2 ?_
        refine ok_ic_le (x := w32 ((V 91 v4.toNat) + (V 72 v4.toNat))) (u := V 73 v4.toNat) (L := [some (.inr (.inr (.inl 63))), some (.inl v1), some (.inl w2), some (.inl v3), some (.inl v4)]) (S := [.inl v4, .inr (.inr (.inl 92))]) (M := mm V h) rfl rfl (fun c9 => ?_) (fun c9 => ?_)
        ·
          replace hf := (if_neg (Int.not_lt.mpr c9)).symm.trans hf
          by_cases c10 : 0 ≤ v4 ∧ v4 < (3 : Int)
          case neg => replace hf := (if_neg c10).symm.trans hf; cases hf
          replace hf := (if_pos c10).symm.trans hf
          refine ok_iald (i := v4) (id := 91) (n := 3) (L := [some (.inr (.inr (.inl 63))), some (.inl v1), some (.inl w2), some (.inl v3), some (.inl v4)]) (S := [.inl v4, .inr (.inr (.inl 92))]) (M := mm V h) rfl rfl rfl c10.1 c10.2 ?_
          by_cases c11 : 0 ≤ v4 ∧ v4 < (3 : Int)
          case neg => replace hf := (if_neg c11).symm.trans hf; cases hf
          replace hf := (if_pos c11).symm.trans hf
          refine ok_iald (i := v4) (id := 72) (n := 3) (L := [some (.inr (.inr (.inl 63))), some (.inl v1), some (.inl w2), some (.inl v3), some (.inl v4)]) (S := [.inl (V 91 v4.toNat), .inl v4, .inr (.inr (.inl 92))]) (M := mm V h) rfl rfl rfl c11.1 c11.2 ?_
          refine ok_thru (L := [some (.inr (.inr (.inl 63))), some (.inl v1), some (.inl w2), some (.inl v3), some (.inl v4)]) (S := [.inl (w32 ((V 91 v4.toNat) + (V 72 v4.toNat))), .inl v4, .inr (.inr (.inl 92))]) (M := mm V h) rfl rfl ?_
          exact s_Mo_goes_23 hf K7 ih
        ·
          replace hf := (if_pos c9).symm.trans hf
          by_cases c12 : 0 ≤ v4 ∧ v4 < (3 : Int)
          case neg => replace hf := (if_neg c12).symm.trans hf; cases hf
          replace hf := (if_pos c12).symm.trans hf
          refine ok_iald (i := v4) (id := 73) (n := 3) (L := [some (.inr (.inr (.inl 63))), some (.inl v1), some (.inl w2), some (.inl v3), some (.inl v4)]) (S := [.inl v4, .inr (.inr (.inl 92))]) (M := mm V h) rfl rfl rfl c12.1 c12.2 ?_
          refine ok_goto (L := [some (.inr (.inr (.inl 63))), some (.inl v1), some (.inl w2), some (.inl v3), some (.inl v4)]) (S := [.inl (V 73 v4.toNat), .inl v4, .inr (.inr (.inl 92))]) (M := mm V h) rfl rfl ?_
          exact s_Mo_goes_23 hf K7 ih
      ·
        replace hf := (if_neg c5).symm.trans hf
        refine ok_goto (L := [some (.inr (.inr (.inl 63))), some (.inl v1), some (.inl w2), some (.inl v3), some (.inl v4)]) (S := []) (M := mm V h) rfl rfl ?_
        exact s_Mo_goes_24 hf K7 ih
theorem s_Mo_goes_10 {X : Xs} {d : Nat} {k7 : VV → Int → Int → (Option (VV × Int))} {h : HP} {V : VV} {v1 : Int} {v3 : Int} {v4 : Int} {w2 : Int} {n : Nat} {q : VV × Int} (hf : f_Mo_goes_10 k7 n V v1 v3 v4 = some q) (K7 : ∀ (V : VV) (v1 : Int) (v3 : Int) (w2 : Int) (z4 : Option AV), k7 V v1 v3 = some q → Ok X (d + 5) 194 7 ([some (.inr (.inr (.inl 63))), some (.inl v1), some (.inl w2), some (.inl v3), z4], [], mm V h) (fun M r => M = mm q.1 h ∧ r = some (.inl q.2) ∧ (q.2 = 0 ∨ q.2 = 1))) : Ok X (d + 5) 194 10 ([some (.inr (.inr (.inl 63))), some (.inl v1), some (.inl w2), some (.inl v3), some (.inl v4)], [], mm V h) (fun M r => M = mm q.1 h ∧ r = some (.inl q.2) ∧ (q.2 = 0 ∨ q.2 = 1)) :=
  s_Mo_goes_10_n K7 n V v1 v3 v4 w2 hf
def f_Mo_goes_7 : Nat → VV → Int → Int → (Option (VV × Int))
  | 0, _, _, _ => none
  | n + 1, V, v1, v3 => if 4319 < v3 then f_Mo_goes_41 V else if (V 62 74) < (V 62 13) then f_Mo_goes_10 (f_Mo_goes_7 n) FU V v1 v3 0 else f_Mo_goes_41 V
set_option maxRecDepth 20000 in
set_option maxHeartbeats 4000000 in
theorem s_Mo_goes_7_n {X : Xs} {d : Nat} {h : HP} {q : VV × Int} : ∀ (n : Nat) (V : VV) (v1 : Int) (v3 : Int) (w2 : Int) (z4 : Option AV), f_Mo_goes_7 n V v1 v3 = some q → Ok X (d + 5) 194 7 ([some (.inr (.inr (.inl 63))), some (.inl v1), some (.inl w2), some (.inl v3), z4], [], mm V h) (fun M r => M = mm q.1 h ∧ r = some (.inl q.2) ∧ (q.2 = 0 ∨ q.2 = 1)) := by
  intro n
  induction n with
  | zero => intro V v1 v3 w2 z4 hf; cases hf
  | succ n ih =>
    intro V v1 v3 w2 z4 hf
    let QQ : Mm → Option AV → Prop := fun M r => M = mm q.1 h ∧ r = some (.inl q.2) ∧ (q.2 = 0 ∨ q.2 = 1)
    show Ok X (d + 5) 194 7 ([some (.inr (.inr (.inl 63))), some (.inl v1), some (.inl w2), some (.inl v3), z4], [], mm V h) QQ
    refine ok_ic_gt (x := v3) (u := 4319) (L := [some (.inr (.inr (.inl 63))), some (.inl v1), some (.inl w2), some (.inl v3), z4]) (S := []) (M := mm V h) rfl rfl (fun c1 => ?_) (fun c1 => ?_)
    ·
      replace hf := (if_pos c1).symm.trans hf
      exact s_Mo_goes_41 hf
    ·
      replace hf := (if_neg (Int.not_lt.mpr c1)).symm.trans hf
      refine ok_ic_ge (x := V 62 74) (u := V 62 13) (L := [some (.inr (.inr (.inl 63))), some (.inl v1), some (.inl w2), some (.inl v3), z4]) (S := []) (M := mm V h) rfl rfl (fun c2 => ?_) (fun c2 => ?_)
      ·
        replace hf := (if_neg (Int.not_lt.mpr c2)).symm.trans hf
        exact s_Mo_goes_41 hf
      ·
        replace hf := (if_pos c2).symm.trans hf
        refine ok_thru (L := [some (.inr (.inr (.inl 63))), some (.inl v1), some (.inl w2), some (.inl v3), some (.inl 0)]) (S := []) (M := mm V h) rfl rfl ?_
        exact s_Mo_goes_10 hf ih
theorem s_Mo_goes_7 {X : Xs} {d : Nat} {h : HP} {V : VV} {v1 : Int} {v3 : Int} {w2 : Int} {z4 : Option AV} {n : Nat} {q : VV × Int} (hf : f_Mo_goes_7 n V v1 v3 = some q) : Ok X (d + 5) 194 7 ([some (.inr (.inr (.inl 63))), some (.inl v1), some (.inl w2), some (.inl v3), z4], [], mm V h) (fun M r => M = mm q.1 h ∧ r = some (.inl q.2) ∧ (q.2 = 0 ∨ q.2 = 1)) :=
  s_Mo_goes_7_n n V v1 v3 w2 z4 hf
def f_Mo_goes (V : VV) (v1 : Int) (v2 : Int) : Option (VV × Int) := Option.bind (f_Mo_hasJobs V) (fun q1 => if q1.2 = 0 then some (q1.1, 0) else Option.bind (f_Mo_hasPlants q1.1) (fun q3 => if q3 = 0 then some (q1.1, 0) else Option.bind (f_Mo_begin q1.1 v1 v2) (fun q5 => f_Mo_goes_7 FU q5 v1 0)))
set_option maxRecDepth 20000 in
set_option maxHeartbeats 4000000 in
theorem s_Mo_goes {X : Xs} {d : Nat} {V : VV} {h : HP} {v1 : Int} {v2 : Int} {q : VV × Int} (hf : f_Mo_goes V v1 v2 = some q) : Ok X (d + 5) 194 0 ([some (.inr (.inr (.inl 63))), some (.inl v1), some (.inl v2), none, none], [], mm V h) (fun M r => M = mm q.1 h ∧ r = some (.inl q.2) ∧ (q.2 = 0 ∨ q.2 = 1)) := by
  let QQ : Mm → Option AV → Prop := fun M r => M = mm q.1 h ∧ r = some (.inl q.2) ∧ (q.2 = 0 ∨ q.2 = 1)
  show Ok X (d + 5) 194 0 ([some (.inr (.inr (.inl 63))), some (.inl v1), some (.inl v2), none, none], [], mm V h) QQ
  obtain ⟨q1, e1, hf⟩ := obind hf
  refine ok_callA (L := [some (.inr (.inr (.inl 63))), some (.inl v1), some (.inl v2), none, none]) (M := mm V h) (args := [.inr (.inr (.inl 63))]) (rest := []) (y2 := 162) rfl rfl rfl (Or.inl rfl) rfl rfl (Nat.le_of_ble_eq_true rfl) rfl rfl (Nat.le_of_ble_eq_true rfl) (Nat.le_of_ble_eq_true rfl) (s_Mo_hasJobs e1) ?_
  rintro _ _ ⟨rfl, rfl, hz1⟩
  refine ok_if_eq (x := q1.2) (L := [some (.inr (.inr (.inl 63))), some (.inl v1), some (.inl v2), none, none]) (S := []) (M := mm q1.1 h) rfl rfl (fun c2 => ?_) (fun c2 => ?_)
  ·
    replace hf := (if_pos c2).symm.trans hf
    obtain rfl := Option.some.inj hf
    have hz : (0 : Int) = 0 ∨ (0 : Int) = 1 := by
      first | exact Or.inl rfl | exact Or.inr rfl | assumption | (repeat' split) <;> first | exact Or.inl rfl | exact Or.inr rfl | assumption
    refine ok_zreturn (L := [some (.inr (.inr (.inl 63))), some (.inl v1), some (.inl v2), none, none]) (M := mm q1.1 h) (x := 0) rfl rfl hz ?_
    exact ⟨rfl, rfl, hz⟩
  ·
    replace hf := (if_neg c2).symm.trans hf
    obtain ⟨q3, e3, hf⟩ := obind hf
    refine ok_callA (L := [some (.inr (.inr (.inl 63))), some (.inl v1), some (.inl v2), none, none]) (M := mm q1.1 h) (args := [.inr (.inr (.inl 63))]) (rest := []) (y2 := 195) rfl rfl rfl (Or.inl rfl) rfl rfl (Nat.le_of_ble_eq_true rfl) rfl rfl (Nat.le_of_ble_eq_true rfl) (Nat.le_of_ble_eq_true rfl) (s_Mo_hasPlants e3) ?_
    rintro _ _ ⟨rfl, rfl, hz3⟩
    refine ok_if_ne (x := q3) (L := [some (.inr (.inr (.inl 63))), some (.inl v1), some (.inl v2), none, none]) (S := []) (M := mm q1.1 h) rfl rfl (fun c4 => ?_) (fun c4 => ?_)
    ·
      replace hf := (if_neg c4).symm.trans hf
      obtain ⟨q5, e5, hf⟩ := obind hf
      refine ok_callA (L := [some (.inr (.inr (.inl 63))), some (.inl v1), some (.inl v2), none, none]) (M := mm q1.1 h) (args := [.inr (.inr (.inl 63)), .inl v1, .inl v2]) (rest := []) (y2 := 196) rfl rfl rfl (Or.inl rfl) rfl rfl (Nat.le_of_ble_eq_true rfl) rfl rfl (Nat.le_of_ble_eq_true rfl) (Nat.le_of_ble_eq_true rfl) (s_Mo_begin e5) ?_
      rintro _ _ ⟨rfl, rfl⟩
      refine ok_thru (L := [some (.inr (.inr (.inl 63))), some (.inl v1), some (.inl v2), some (.inl 0), none]) (S := []) (M := mm q5 h) rfl rfl ?_
      exact s_Mo_goes_7 hf
    ·
      replace hf := (if_pos c4).symm.trans hf
      obtain rfl := Option.some.inj hf
      have hz : (0 : Int) = 0 ∨ (0 : Int) = 1 := by
        first | exact Or.inl rfl | exact Or.inr rfl | assumption | (repeat' split) <;> first | exact Or.inl rfl | exact Or.inr rfl | assumption
      refine ok_zreturn (L := [some (.inr (.inr (.inl 63))), some (.inl v1), some (.inl v2), none, none]) (M := mm q1.1 h) (x := 0) rfl rfl hz ?_
      exact ⟨rfl, rfl, hz⟩
def f_Mo_isRun_8 (V : VV)  : Option (VV × Int) := some (V, 0)
set_option maxRecDepth 20000 in
set_option maxHeartbeats 4000000 in
theorem s_Mo_isRun_8 {X : Xs} {d : Nat} {V : VV} {h : HP} {w1 : Int} {w2 : Int} {q : VV × Int} (hf : f_Mo_isRun_8 V = some q) : Ok X (d + 6) 193 8 ([some (.inr (.inr (.inl 63))), some (.inl w1), some (.inl w2)], [], mm V h) (fun M r => M = mm q.1 h ∧ r = some (.inl q.2) ∧ (q.2 = 0 ∨ q.2 = 1)) := by
  let QQ : Mm → Option AV → Prop := fun M r => M = mm q.1 h ∧ r = some (.inl q.2) ∧ (q.2 = 0 ∨ q.2 = 1)
  show Ok X (d + 6) 193 8 ([some (.inr (.inr (.inl 63))), some (.inl w1), some (.inl w2)], [], mm V h) QQ
  refine ok_thru (L := [some (.inr (.inr (.inl 63))), some (.inl w1), some (.inl w2)]) (S := [.inl 0]) (M := mm V h) rfl rfl ?_
  obtain rfl := Option.some.inj hf
  have hz : (0 : Int) = 0 ∨ (0 : Int) = 1 := by
    first | exact Or.inl rfl | exact Or.inr rfl | assumption | (repeat' split) <;> first | exact Or.inl rfl | exact Or.inr rfl | assumption
  refine ok_zreturn (L := [some (.inr (.inr (.inl 63))), some (.inl w1), some (.inl w2)]) (M := mm V h) (x := 0) rfl rfl hz ?_
  exact ⟨rfl, rfl, hz⟩
def f_Mo_isRun (V : VV) (v1 : Int) (v2 : Int) : Option (VV × Int) := if (f_Mo_isIn V v1 0 (w32 ((f_Mo_manyWorlds V) - 1))) = 0 then f_Mo_isRun_8 V else if (f_Mo_isIn V v2 1 20) = 0 then f_Mo_isRun_8 V else Option.bind (f_Mo_goes V v1 v2) (fun q6 => if q6.2 = 0 then f_Mo_isRun_8 q6.1 else some (q6.1, 1))
set_option maxRecDepth 20000 in
set_option maxHeartbeats 4000000 in
theorem s_Mo_isRun {X : Xs} {d : Nat} {V : VV} {h : HP} {v1 : Int} {v2 : Int} {q : VV × Int} (hf : f_Mo_isRun V v1 v2 = some q) : Ok X (d + 6) 193 0 ([some (.inr (.inr (.inl 63))), some (.inl v1), some (.inl v2)], [], mm V h) (fun M r => M = mm q.1 h ∧ r = some (.inl q.2) ∧ (q.2 = 0 ∨ q.2 = 1)) := by
  let QQ : Mm → Option AV → Prop := fun M r => M = mm q.1 h ∧ r = some (.inl q.2) ∧ (q.2 = 0 ∨ q.2 = 1)
  show Ok X (d + 6) 193 0 ([some (.inr (.inr (.inl 63))), some (.inl v1), some (.inl v2)], [], mm V h) QQ
  refine ok_callA (L := [some (.inr (.inr (.inl 63))), some (.inl v1), some (.inl v2)]) (M := mm V h) (args := [.inr (.inr (.inl 63))]) (rest := [.inl 0, .inl v1]) (y2 := 187) rfl rfl rfl (Or.inl rfl) rfl rfl (Nat.le_of_ble_eq_true rfl) rfl rfl (Nat.le_of_ble_eq_true rfl) (Nat.le_of_ble_eq_true rfl) (s_Mo_manyWorlds rfl) ?_
  rintro _ _ ⟨rfl, rfl⟩
  refine ok_callA (L := [some (.inr (.inr (.inl 63))), some (.inl v1), some (.inl v2)]) (M := mm V h) (args := [.inl v1, .inl 0, .inl (w32 ((f_Mo_manyWorlds V) - 1))]) (rest := []) (y2 := 152) rfl rfl rfl (Or.inr (Or.inl rfl)) rfl rfl (Nat.le_of_ble_eq_true rfl) rfl rfl (Nat.le_of_ble_eq_true rfl) (Nat.le_of_ble_eq_true rfl) (s_Mo_isIn rfl) ?_
  rintro _ _ ⟨rfl, rfl, hz2⟩
  refine ok_if_eq (x := f_Mo_isIn V v1 0 (w32 ((f_Mo_manyWorlds V) - 1))) (L := [some (.inr (.inr (.inl 63))), some (.inl v1), some (.inl v2)]) (S := []) (M := mm V h) rfl rfl (fun c3 => ?_) (fun c3 => ?_)
  ·
    replace hf := (if_pos c3).symm.trans hf
    exact s_Mo_isRun_8 hf
  ·
    replace hf := (if_neg c3).symm.trans hf
    refine ok_callA (L := [some (.inr (.inr (.inl 63))), some (.inl v1), some (.inl v2)]) (M := mm V h) (args := [.inl v2, .inl 1, .inl 20]) (rest := []) (y2 := 152) rfl rfl rfl (Or.inr (Or.inl rfl)) rfl rfl (Nat.le_of_ble_eq_true rfl) rfl rfl (Nat.le_of_ble_eq_true rfl) (Nat.le_of_ble_eq_true rfl) (s_Mo_isIn rfl) ?_
    rintro _ _ ⟨rfl, rfl, hz4⟩
    refine ok_if_eq (x := f_Mo_isIn V v2 1 20) (L := [some (.inr (.inr (.inl 63))), some (.inl v1), some (.inl v2)]) (S := []) (M := mm V h) rfl rfl (fun c5 => ?_) (fun c5 => ?_)
    ·
      replace hf := (if_pos c5).symm.trans hf
      exact s_Mo_isRun_8 hf
    ·
      replace hf := (if_neg c5).symm.trans hf
      obtain ⟨q6, e6, hf⟩ := obind hf
      refine ok_callA (L := [some (.inr (.inr (.inl 63))), some (.inl v1), some (.inl v2)]) (M := mm V h) (args := [.inr (.inr (.inl 63)), .inl v1, .inl v2]) (rest := []) (y2 := 194) rfl rfl rfl (Or.inl rfl) rfl rfl (Nat.le_of_ble_eq_true rfl) rfl rfl (Nat.le_of_ble_eq_true rfl) (Nat.le_of_ble_eq_true rfl) (s_Mo_goes e6) ?_
      rintro _ _ ⟨rfl, rfl, hz6⟩
      refine ok_if_eq (x := q6.2) (L := [some (.inr (.inr (.inl 63))), some (.inl v1), some (.inl v2)]) (S := []) (M := mm q6.1 h) rfl rfl (fun c7 => ?_) (fun c7 => ?_)
      ·
        replace hf := (if_pos c7).symm.trans hf
        exact s_Mo_isRun_8 hf
      ·
        replace hf := (if_neg c7).symm.trans hf
        refine ok_goto (L := [some (.inr (.inr (.inl 63))), some (.inl v1), some (.inl v2)]) (S := [.inl 1]) (M := mm q6.1 h) rfl rfl ?_
        obtain rfl := Option.some.inj hf
        have hz : (1 : Int) = 0 ∨ (1 : Int) = 1 := by
          first | exact Or.inl rfl | exact Or.inr rfl | assumption | (repeat' split) <;> first | exact Or.inl rfl | exact Or.inr rfl | assumption
        refine ok_zreturn (L := [some (.inr (.inr (.inl 63))), some (.inl v1), some (.inl v2)]) (M := mm q6.1 h) (x := 1) rfl rfl hz ?_
        exact ⟨rfl, rfl, hz⟩
def f_Mo_run (V : VV) (v1 : Int) (v2 : Int) (v3 : Int) : Option (VV × Int) := Option.bind (f_Mo_isRun V v1 v2) (fun q1 => if q1.2 = 0 then some (q1.1, (-1)) else if v3 = 0 then some (q1.1, q1.1 62 76) else if v3 = 1 then some (q1.1, q1.1 62 77) else if v3 = 2 then some (q1.1, q1.1 62 72) else if v3 = 3 then some (q1.1, q1.1 62 78) else if v3 = 4 then some (q1.1, q1.1 62 79) else if v3 = 5 then some (q1.1, q1.1 62 80) else some (q1.1, (-1)))
set_option maxRecDepth 20000 in
set_option maxHeartbeats 4000000 in
theorem s_Mo_run {X : Xs} {d : Nat} {V : VV} {h : HP} {v1 : Int} {v2 : Int} {v3 : Int} {q : VV × Int} (hf : f_Mo_run V v1 v2 v3 = some q) : Ok X (d + 7) 192 0 ([some (.inr (.inr (.inl 63))), some (.inl v1), some (.inl v2), some (.inl v3)], [], mm V h) (fun M r => M = mm q.1 h ∧ r = some (.inl q.2)) := by
  let QQ : Mm → Option AV → Prop := fun M r => M = mm q.1 h ∧ r = some (.inl q.2)
  show Ok X (d + 7) 192 0 ([some (.inr (.inr (.inl 63))), some (.inl v1), some (.inl v2), some (.inl v3)], [], mm V h) QQ
  obtain ⟨q1, e1, hf⟩ := obind hf
  refine ok_callA (L := [some (.inr (.inr (.inl 63))), some (.inl v1), some (.inl v2), some (.inl v3)]) (M := mm V h) (args := [.inr (.inr (.inl 63)), .inl v1, .inl v2]) (rest := []) (y2 := 193) rfl rfl rfl (Or.inl rfl) rfl rfl (Nat.le_of_ble_eq_true rfl) rfl rfl (Nat.le_of_ble_eq_true rfl) (Nat.le_of_ble_eq_true rfl) (s_Mo_isRun e1) ?_
  rintro _ _ ⟨rfl, rfl, hz1⟩
  refine ok_if_ne (x := q1.2) (L := [some (.inr (.inr (.inl 63))), some (.inl v1), some (.inl v2), some (.inl v3)]) (S := []) (M := mm q1.1 h) rfl rfl (fun c2 => ?_) (fun c2 => ?_)
  ·
    replace hf := (if_neg c2).symm.trans hf
    by_cases c3 : v3 = 0
    ·
      replace hf := (if_pos c3).symm.trans hf
      refine ok_sw (x := v3) (b1 := 4) (L := [some (.inr (.inr (.inl 63))), some (.inl v1), some (.inl v2), some (.inl v3)]) (S := []) (M := mm q1.1 h) rfl rfl (by rw [c3]; rfl) ?_
      obtain rfl := Option.some.inj hf
      refine ok_ireturn (L := [some (.inr (.inr (.inl 63))), some (.inl v1), some (.inl v2), some (.inl v3)]) (M := mm q1.1 h) (x := q1.1 62 76) rfl rfl ?_
      exact ⟨rfl, rfl⟩
    replace hf := (if_neg c3).symm.trans hf
    by_cases c4 : v3 = 1
    ·
      replace hf := (if_pos c4).symm.trans hf
      refine ok_sw (x := v3) (b1 := 5) (L := [some (.inr (.inr (.inl 63))), some (.inl v1), some (.inl v2), some (.inl v3)]) (S := []) (M := mm q1.1 h) rfl rfl (by rw [c4]; rfl) ?_
      obtain rfl := Option.some.inj hf
      refine ok_ireturn (L := [some (.inr (.inr (.inl 63))), some (.inl v1), some (.inl v2), some (.inl v3)]) (M := mm q1.1 h) (x := q1.1 62 77) rfl rfl ?_
      exact ⟨rfl, rfl⟩
    replace hf := (if_neg c4).symm.trans hf
    by_cases c5 : v3 = 2
    ·
      replace hf := (if_pos c5).symm.trans hf
      refine ok_sw (x := v3) (b1 := 6) (L := [some (.inr (.inr (.inl 63))), some (.inl v1), some (.inl v2), some (.inl v3)]) (S := []) (M := mm q1.1 h) rfl rfl (by rw [c5]; rfl) ?_
      obtain rfl := Option.some.inj hf
      refine ok_ireturn (L := [some (.inr (.inr (.inl 63))), some (.inl v1), some (.inl v2), some (.inl v3)]) (M := mm q1.1 h) (x := q1.1 62 72) rfl rfl ?_
      exact ⟨rfl, rfl⟩
    replace hf := (if_neg c5).symm.trans hf
    by_cases c6 : v3 = 3
    ·
      replace hf := (if_pos c6).symm.trans hf
      refine ok_sw (x := v3) (b1 := 7) (L := [some (.inr (.inr (.inl 63))), some (.inl v1), some (.inl v2), some (.inl v3)]) (S := []) (M := mm q1.1 h) rfl rfl (by rw [c6]; rfl) ?_
      obtain rfl := Option.some.inj hf
      refine ok_ireturn (L := [some (.inr (.inr (.inl 63))), some (.inl v1), some (.inl v2), some (.inl v3)]) (M := mm q1.1 h) (x := q1.1 62 78) rfl rfl ?_
      exact ⟨rfl, rfl⟩
    replace hf := (if_neg c6).symm.trans hf
    by_cases c7 : v3 = 4
    ·
      replace hf := (if_pos c7).symm.trans hf
      refine ok_sw (x := v3) (b1 := 8) (L := [some (.inr (.inr (.inl 63))), some (.inl v1), some (.inl v2), some (.inl v3)]) (S := []) (M := mm q1.1 h) rfl rfl (by rw [c7]; rfl) ?_
      obtain rfl := Option.some.inj hf
      refine ok_ireturn (L := [some (.inr (.inr (.inl 63))), some (.inl v1), some (.inl v2), some (.inl v3)]) (M := mm q1.1 h) (x := q1.1 62 79) rfl rfl ?_
      exact ⟨rfl, rfl⟩
    replace hf := (if_neg c7).symm.trans hf
    by_cases c8 : v3 = 5
    ·
      replace hf := (if_pos c8).symm.trans hf
      refine ok_sw (x := v3) (b1 := 9) (L := [some (.inr (.inr (.inl 63))), some (.inl v1), some (.inl v2), some (.inl v3)]) (S := []) (M := mm q1.1 h) rfl rfl (by rw [c8]; rfl) ?_
      obtain rfl := Option.some.inj hf
      refine ok_ireturn (L := [some (.inr (.inr (.inl 63))), some (.inl v1), some (.inl v2), some (.inl v3)]) (M := mm q1.1 h) (x := q1.1 62 80) rfl rfl ?_
      exact ⟨rfl, rfl⟩
    replace hf := (if_neg c8).symm.trans hf
    refine ok_sw (x := v3) (b1 := 10) (L := [some (.inr (.inr (.inl 63))), some (.inl v1), some (.inl v2), some (.inl v3)]) (S := []) (M := mm q1.1 h) rfl rfl (if_pos (by omega)) ?_
    obtain rfl := Option.some.inj hf
    refine ok_ireturn (L := [some (.inr (.inr (.inl 63))), some (.inl v1), some (.inl v2), some (.inl v3)]) (M := mm q1.1 h) (x := (-1)) rfl rfl ?_
    exact ⟨rfl, rfl⟩
  ·
    replace hf := (if_pos c2).symm.trans hf
    obtain rfl := Option.some.inj hf
    refine ok_ireturn (L := [some (.inr (.inr (.inl 63))), some (.inl v1), some (.inl v2), some (.inl v3)]) (M := mm q1.1 h) (x := (-1)) rfl rfl ?_
    exact ⟨rfl, rfl⟩
