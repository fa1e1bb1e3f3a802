/-! shallow functions of the model (printed by wip/tools/gen40.py) -/
def f_Mo_manyWorlds (V : VV)  : Int := (if (V 62 49) = 0 then 1 else V 62 49 : Int)
set_option maxRecDepth 20000 in
set_option maxHeartbeats 4000000 in
theorem s_Mo_manyWorlds {X : Xs} {d : Nat} {V : VV} {h : HP} {q : Int} (hf : f_Mo_manyWorlds V = q) : Ok X (d + 1) 187 0 ([some (.inr (.inr (.inl 63)))], [], mm V h) (fun M r => M = mm V h ∧ r = some (.inl q)) := by
  let QQ : Mm → Option AV → Prop := fun M r => M = mm V h ∧ r = some (.inl q)
  show Ok X (d + 1) 187 0 ([some (.inr (.inr (.inl 63)))], [], mm V h) QQ
  have JN1 : Ok X (d + 1) 187 3 ([some (.inr (.inr (.inl 63)))], [.inl (if (V 62 49) = 0 then 1 else V 62 49 : Int)], mm V h) QQ := by
    have hq : ((if (V 62 49) = 0 then 1 else V 62 49 : Int)) = q := hf
    subst hq
    refine ok_ireturn (L := [some (.inr (.inr (.inl 63)))]) (M := mm V h) (x := (if (V 62 49) = 0 then 1 else V 62 49 : Int)) rfl rfl ?_
    exact ⟨rfl, rfl⟩
  clear hf
  refine ok_if_ne (x := V 62 49) (L := [some (.inr (.inr (.inl 63)))]) (S := []) (M := mm V h) rfl rfl (fun c2 => ?_) (fun c2 => ?_)
  ·
    simp only [if_neg c2] at JN1
    refine ok_thru (L := [some (.inr (.inr (.inl 63)))]) (S := [.inl (V 62 49)]) (M := mm V h) rfl rfl ?_
    first | exact JN1 | (simp only [if_neg c2]; exact JN1)
  ·
    simp only [if_pos c2] at JN1
    refine ok_goto (L := [some (.inr (.inr (.inl 63)))]) (S := [.inl 1]) (M := mm V h) rfl rfl ?_
    first | exact JN1 | (simp only [if_pos c2]; exact JN1)
def f_Mo_holds_7 (V : VV)  : Option (Int) := some 0
set_option maxRecDepth 20000 in
set_option maxHeartbeats 4000000 in
theorem s_Mo_holds_7 {X : Xs} {d : Nat} {V : VV} {h : HP} {w1 : Int} {w2 : Int} {w3 : Int} {q : Int} (hf : f_Mo_holds_7 V = some q) : Ok X (d + 1) 189 7 ([some (.inr (.inr (.inl 63))), some (.inl w1), some (.inl w2), some (.inl w3)], [], mm V h) (fun M r => M = mm V h ∧ r = some (.inl q) ∧ (q = 0 ∨ q = 1)) := by
  let QQ : Mm → Option AV → Prop := fun M r => M = mm V h ∧ r = some (.inl q) ∧ (q = 0 ∨ q = 1)
  show Ok X (d + 1) 189 7 ([some (.inr (.inr (.inl 63))), some (.inl w1), some (.inl w2), some (.inl w3)], [], mm V h) QQ
  refine ok_thru (L := [some (.inr (.inr (.inl 63))), some (.inl w1), some (.inl w2), some (.inl w3)]) (S := [.inl 0]) (M := mm V h) rfl rfl ?_
  obtain rfl := Option.some.inj hf
  have hz : (0 : Int) = 0 ∨ (0 : Int) = 1 := by
    first | exact Or.inl rfl | exact Or.inr rfl | assumption | (repeat' split) <;> first | exact Or.inl rfl | exact Or.inr rfl | assumption
  refine ok_zreturn (L := [some (.inr (.inr (.inl 63))), some (.inl w1), some (.inl w2), some (.inl w3)]) (M := mm V h) (x := 0) rfl rfl hz ?_
  exact ⟨rfl, rfl, hz⟩
def f_Mo_holds_6 (V : VV)  : Option (Int) := some 1
set_option maxRecDepth 20000 in
set_option maxHeartbeats 4000000 in
theorem s_Mo_holds_6 {X : Xs} {d : Nat} {V : VV} {h : HP} {w1 : Int} {w2 : Int} {w3 : Int} {q : Int} (hf : f_Mo_holds_6 V = some q) : Ok X (d + 1) 189 6 ([some (.inr (.inr (.inl 63))), some (.inl w1), some (.inl w2), some (.inl w3)], [], mm V h) (fun M r => M = mm V h ∧ r = some (.inl q) ∧ (q = 0 ∨ q = 1)) := by
  let QQ : Mm → Option AV → Prop := fun M r => M = mm V h ∧ r = some (.inl q) ∧ (q = 0 ∨ q = 1)
  show Ok X (d + 1) 189 6 ([some (.inr (.inr (.inl 63))), some (.inl w1), some (.inl w2), some (.inl w3)], [], mm V h) QQ
  refine ok_goto (L := [some (.inr (.inr (.inl 63))), some (.inl w1), some (.inl w2), some (.inl w3)]) (S := [.inl 1]) (M := mm V h) rfl rfl ?_
  obtain rfl := Option.some.inj hf
  have hz : (1 : Int) = 0 ∨ (1 : Int) = 1 := by
    first | exact Or.inl rfl | exact Or.inr rfl | assumption | (repeat' split) <;> first | exact Or.inl rfl | exact Or.inr rfl | assumption
  refine ok_zreturn (L := [some (.inr (.inr (.inl 63))), some (.inl w1), some (.inl w2), some (.inl w3)]) (M := mm V h) (x := 1) rfl rfl hz ?_
  exact ⟨rfl, rfl, hz⟩
def f_Mo_holds (V : VV) (v1 : Int) (v2 : Int) (v3 : Int) : Option (Int) := if 0 ≤ v1 ∧ v1 < (80 : Int) then if (V 81 v1.toNat) = v2 then if 0 ≤ v1 ∧ v1 < (80 : Int) then if (V 82 v1.toNat) < 0 then f_Mo_holds_6 V else if 0 ≤ v1 ∧ v1 < (80 : Int) then if (V 82 v1.toNat) = v3 then f_Mo_holds_6 V else f_Mo_holds_7 V else none else none else f_Mo_holds_7 V else none
set_option maxRecDepth 20000 in
set_option maxHeartbeats 4000000 in
theorem s_Mo_holds {X : Xs} {d : Nat} {V : VV} {h : HP} {v1 : Int} {v2 : Int} {v3 : Int} {q : Int} (hf : f_Mo_holds V v1 v2 v3 = some q) : Ok X (d + 1) 189 0 ([some (.inr (.inr (.inl 63))), some (.inl v1), some (.inl v2), some (.inl v3)], [], mm V h) (fun M r => M = mm V h ∧ r = some (.inl q) ∧ (q = 0 ∨ q = 1)) := by
  let QQ : Mm → Option AV → Prop := fun M r => M = mm V h ∧ r = some (.inl q) ∧ (q = 0 ∨ q = 1)
  show Ok X (d + 1) 189 0 ([some (.inr (.inr (.inl 63))), some (.inl v1), some (.inl v2), some (.inl v3)], [], mm V h) QQ
  by_cases c1 : 0 ≤ v1 ∧ v1 < (80 : Int)
  case neg => replace hf := (if_neg c1).symm.trans hf; cases hf
  replace hf := (if_pos c1).symm.trans hf
  refine ok_iald (i := v1) (id := 81) (n := 80) (L := [some (.inr (.inr (.inl 63))), some (.inl v1), some (.inl v2), some (.inl v3)]) (S := []) (M := mm V h) rfl rfl rfl c1.1 c1.2 ?_
  refine ok_ic_ne (x := V 81 v1.toNat) (u := v2) (L := [some (.inr (.inr (.inl 63))), some (.inl v1), some (.inl v2), some (.inl v3)]) (S := []) (M := mm V h) rfl rfl (fun c2 => ?_) (fun c2 => ?_)
  ·
    replace hf := (if_neg c2).symm.trans hf
    exact s_Mo_holds_7 hf
  ·
    replace hf := (if_pos c2).symm.trans hf
    by_cases c3 : 0 ≤ v1 ∧ v1 < (80 : Int)
    case neg => replace hf := (if_neg c3).symm.trans hf; cases hf
    replace hf := (if_pos c3).symm.trans hf
    refine ok_iald (i := v1) (id := 82) (n := 80) (L := [some (.inr (.inr (.inl 63))), some (.inl v1), some (.inl v2), some (.inl v3)]) (S := []) (M := mm V h) rfl rfl rfl c3.1 c3.2 ?_
    refine ok_if_lt (x := V 82 v1.toNat) (L := [some (.inr (.inr (.inl 63))), some (.inl v1), some (.inl v2), some (.inl v3)]) (S := []) (M := mm V h) rfl rfl (fun c4 => ?_) (fun c4 => ?_)
    ·
      replace hf := (if_pos c4).symm.trans hf
      exact s_Mo_holds_6 hf
    ·
      replace hf := (if_neg (Int.not_lt.mpr c4)).symm.trans hf
      by_cases c5 : 0 ≤ v1 ∧ v1 < (80 : Int)
      case neg => replace hf := (if_neg c5).symm.trans hf; cases hf
      replace hf := (if_pos c5).symm.trans hf
      refine ok_iald (i := v1) (id := 82) (n := 80) (L := [some (.inr (.inr (.inl 63))), some (.inl v1), some (.inl v2), some (.inl v3)]) (S := []) (M := mm V h) rfl rfl rfl c5.1 c5.2 ?_
      refine ok_ic_ne (x := V 82 v1.toNat) (u := v3) (L := [some (.inr (.inr (.inl 63))), some (.inl v1), some (.inl v2), some (.inl v3)]) (S := []) (M := mm V h) rfl rfl (fun c6 => ?_) (fun c6 => ?_)
      ·
        replace hf := (if_neg c6).symm.trans hf
        exact s_Mo_holds_7 hf
      ·
        replace hf := (if_pos c6).symm.trans hf
        exact s_Mo_holds_6 hf
def f_Mo_isOpen_20 (k1 : VV → Int → Int → Int → Int → Int → (Option (Int))) (V : VV) (v1 : Int) (v2 : Int) (v3 : Int) (v4 : Int) (v5 : Int) : Option (Int) := k1 V v1 v2 v3 v4 (w32 (v5 + 1))
set_option maxRecDepth 20000 in
set_option maxHeartbeats 4000000 in
theorem s_Mo_isOpen_20 {X : Xs} {d : Nat} {k1 : VV → Int → Int → Int → Int → Int → (Option (Int))} {V : VV} {h : HP} {v1 : Int} {v2 : Int} {v3 : Int} {v4 : Int} {v5 : Int} {q : Int} (hf : f_Mo_isOpen_20 k1 V v1 v2 v3 v4 v5 = some q) (K1 : ∀ (v1 : Int) (v2 : Int) (v3 : Int) (v4 : Int) (v5 : Int), k1 V v1 v2 v3 v4 v5 = some q → Ok X (d + 2) 188 1 ([some (.inr (.inr (.inl 63))), some (.inl v1), some (.inl v2), some (.inl v3), some (.inl v4), some (.inl v5)], [], mm V h) (fun M r => M = mm V h ∧ r = some (.inl q) ∧ (q = 0 ∨ q = 1))) : Ok X (d + 2) 188 20 ([some (.inr (.inr (.inl 63))), some (.inl v1), some (.inl v2), some (.inl v3), some (.inl v4), some (.inl v5)], [], mm V h) (fun M r => M = mm V h ∧ r = some (.inl q) ∧ (q = 0 ∨ q = 1)) := by
  let QQ : Mm → Option AV → Prop := fun M r => M = mm V h ∧ r = some (.inl q) ∧ (q = 0 ∨ q = 1)
  show Ok X (d + 2) 188 20 ([some (.inr (.inr (.inl 63))), some (.inl v1), some (.inl v2), some (.inl v3), some (.inl v4), some (.inl v5)], [], mm V h) QQ
  refine ok_goto (L := [some (.inr (.inr (.inl 63))), some (.inl v1), some (.inl v2), some (.inl v3), some (.inl v4), some (.inl (w32 (v5 + 1)))]) (S := []) (M := mm V h) rfl rfl ?_
  exact K1 v1 v2 v3 v4 (w32 (v5 + 1)) hf
def f_Mo_isOpen_19 (k1 : VV → Int → Int → Int → Int → Int → (Option (Int))) (V : VV) (v1 : Int) (v2 : Int) (v3 : Int) (v5 : Int) (t0 : Int) : Option (Int) := f_Mo_isOpen_20 k1 V v1 v2 v3 t0 v5
set_option maxRecDepth 20000 in
set_option maxHeartbeats 4000000 in
theorem s_Mo_isOpen_19 {X : Xs} {d : Nat} {k1 : VV → Int → Int → Int → Int → Int → (Option (Int))} {V : VV} {h : HP} {v1 : Int} {v2 : Int} {v3 : Int} {v5 : Int} {t0 : Int} {w4 : Int} {q : Int} (hf : f_Mo_isOpen_19 k1 V v1 v2 v3 v5 t0 = some q) (K1 : ∀ (v1 : Int) (v2 : Int) (v3 : Int) (v4 : Int) (v5 : Int), k1 V v1 v2 v3 v4 v5 = some q → Ok X (d + 2) 188 1 ([some (.inr (.inr (.inl 63))), some (.inl v1), some (.inl v2), some (.inl v3), some (.inl v4), some (.inl v5)], [], mm V h) (fun M r => M = mm V h ∧ r = some (.inl q) ∧ (q = 0 ∨ q = 1))) : Ok X (d + 2) 188 19 ([some (.inr (.inr (.inl 63))), some (.inl v1), some (.inl v2), some (.inl v3), some (.inl w4), some (.inl v5)], [.inl t0], mm V h) (fun M r => M = mm V h ∧ r = some (.inl q) ∧ (q = 0 ∨ q = 1)) := by
  let QQ : Mm → Option AV → Prop := fun M r => M = mm V h ∧ r = some (.inl q) ∧ (q = 0 ∨ q = 1)
  show Ok X (d + 2) 188 19 ([some (.inr (.inr (.inl 63))), some (.inl v1), some (.inl v2), some (.inl v3), some (.inl w4), some (.inl v5)], [.inl t0], mm V h) QQ
  refine ok_thru (L := [some (.inr (.inr (.inl 63))), some (.inl v1), some (.inl v2), some (.inl v3), some (.inl t0), some (.inl v5)]) (S := []) (M := mm V h) rfl rfl ?_
  exact s_Mo_isOpen_20 hf K1
def f_Mo_isOpen_17 (k1 : VV → Int → Int → Int → Int → Int → (Option (Int))) (V : VV) (v1 : Int) (v2 : Int) (v3 : Int) (v5 : Int) : Option (Int) := f_Mo_isOpen_19 k1 V v1 v2 v3 v5 1
set_option maxRecDepth 20000 in
set_option maxHeartbeats 4000000 in
theorem s_Mo_isOpen_17 {X : Xs} {d : Nat} {k1 : VV → Int → Int → Int → Int → Int → (Option (Int))} {V : VV} {h : HP} {v1 : Int} {v2 : Int} {v3 : Int} {v5 : Int} {w4 : Int} {q : Int} (hf : f_Mo_isOpen_17 k1 V v1 v2 v3 v5 = some q) (K1 : ∀ (v1 : Int) (v2 : Int) (v3 : Int) (v4 : Int) (v5 : Int), k1 V v1 v2 v3 v4 v5 = some q → Ok X (d + 2) 188 1 ([some (.inr (.inr (.inl 63))), some (.inl v1), some (.inl v2), some (.inl v3), some (.inl v4), some (.inl v5)], [], mm V h) (fun M r => M = mm V h ∧ r = some (.inl q) ∧ (q = 0 ∨ q = 1))) : Ok X (d + 2) 188 17 ([some (.inr (.inr (.inl 63))), some (.inl v1), some (.inl v2), some (.inl v3), some (.inl w4), some (.inl v5)], [], mm V h) (fun M r => M = mm V h ∧ r = some (.inl q) ∧ (q = 0 ∨ q = 1)) := by
  let QQ : Mm → Option AV → Prop := fun M r => M = mm V h ∧ r = some (.inl q) ∧ (q = 0 ∨ q = 1)
  show Ok X (d + 2) 188 17 ([some (.inr (.inr (.inl 63))), some (.inl v1), some (.inl v2), some (.inl v3), some (.inl w4), some (.inl v5)], [], mm V h) QQ
  refine ok_goto (L := [some (.inr (.inr (.inl 63))), some (.inl v1), some (.inl v2), some (.inl v3), some (.inl w4), some (.inl v5)]) (S := [.inl 1]) (M := mm V h) rfl rfl ?_
  exact s_Mo_isOpen_19 hf K1
def f_Mo_isOpen_9 (k1 : VV → Int → Int → Int → Int → Int → (Option (Int))) (V : VV) (v1 : Int) (v2 : Int) (v3 : Int) (v4 : Int) (v5 : Int) : Option (Int) := Option.bind (f_Mo_holds V v5 4 v1) (fun q1 => if q1 = 0 then f_Mo_isOpen_20 k1 V v1 v2 v3 v4 v5 else if v4 = 0 then if 0 ≤ v5 ∧ v5 < (80 : Int) then if 0 ≤ v5 ∧ v5 < (80 : Int) then if (f_Mo_isIn V v2 (V 84 v5.toNat) (V 85 v5.toNat)) = 0 then f_Mo_isOpen_19 k1 V v1 v2 1 v5 0 else f_Mo_isOpen_17 k1 V v1 v2 1 v5 else none else none else f_Mo_isOpen_17 k1 V v1 v2 1 v5)
set_option maxRecDepth 20000 in
set_option maxHeartbeats 4000000 in
theorem s_Mo_isOpen_9 {X : Xs} {d : Nat} {k1 : VV → Int → Int → Int → Int → Int → (Option (Int))} {V : VV} {h : HP} {v1 : Int} {v2 : Int} {v3 : Int} {v4 : Int} {v5 : Int} {q : Int} (hf : f_Mo_isOpen_9 k1 V v1 v2 v3 v4 v5 = some q) (K1 : ∀ (v1 : Int) (v2 : Int) (v3 : Int) (v4 : Int) (v5 : Int), k1 V v1 v2 v3 v4 v5 = some q → Ok X (d + 2) 188 1 ([some (.inr (.inr (.inl 63))), some (.inl v1), some (.inl v2), some (.inl v3), some (.inl v4), some (.inl v5)], [], mm V h) (fun M r => M = mm V h ∧ r = some (.inl q) ∧ (q = 0 ∨ q = 1))) : Ok X (d + 2) 188 9 ([some (.inr (.inr (.inl 63))), some (.inl v1), some (.inl v2), some (.inl v3), some (.inl v4), some (.inl v5)], [], mm V h) (fun M r => M = mm V h ∧ r = some (.inl q) ∧ (q = 0 ∨ q = 1)) := by
  let QQ : Mm → Option AV → Prop := fun M r => M = mm V h ∧ r = some (.inl q) ∧ (q = 0 ∨ q = 1)
  show Ok X (d + 2) 188 9 ([some (.inr (.inr (.inl 63))), some (.inl v1), some (.inl v2), some (.inl v3), some (.inl v4), some (.inl v5)], [], mm V h) QQ
  obtain ⟨q1, e1, hf⟩ := obind hf
  refine ok_callA (L := [some (.inr (.inr (.inl 63))), some (.inl v1), some (.inl v2), some (.inl v3), some (.inl v4), some (.inl v5)]) (M := mm V h) (args := [.inr (.inr (.inl 63)), .inl v5, .inl 4, .inl v1]) (rest := []) (y2 := 189) rfl rfl rfl (Or.inl rfl) rfl rfl (Nat.le_of_ble_eq_true rfl) rfl rfl (Nat.le_of_ble_eq_true rfl) (Nat.le_of_ble_eq_true rfl) (s_Mo_holds e1) ?_
  rintro _ _ ⟨rfl, rfl, hz1⟩
  refine ok_if_ne (x := q1) (L := [some (.inr (.inr (.inl 63))), some (.inl v1), some (.inl v2), some (.inl v3), some (.inl v4), some (.inl v5)]) (S := []) (M := mm V h) rfl rfl (fun c2 => ?_) (fun c2 => ?_)
  ·
    replace hf := (if_neg c2).symm.trans hf
    refine ok_if_ne (x := v4) (L := [some (.inr (.inr (.inl 63))), some (.inl v1), some (.inl v2), some (.inl 1), some (.inl v4), some (.inl v5)]) (S := []) (M := mm V h) rfl rfl (fun c3 => ?_) (fun c3 => ?_)
    ·
      replace hf := (if_neg c3).symm.trans hf
      exact s_Mo_isOpen_17 hf K1
    ·
      replace hf := (if_pos c3).symm.trans hf
      by_cases c4 : 0 ≤ v5 ∧ v5 < (80 : Int)
      case neg => replace hf := (if_neg c4).symm.trans hf; cases hf
      replace hf := (if_pos c4).symm.trans hf
      refine ok_iald (i := v5) (id := 84) (n := 80) (L := [some (.inr (.inr (.inl 63))), some (.inl v1), some (.inl v2), some (.inl 1), some (.inl v4), some (.inl v5)]) (S := [.inl v2]) (M := mm V h) rfl rfl rfl c4.1 c4.2 ?_
      by_cases c5 : 0 ≤ v5 ∧ v5 < (80 : Int)
      case neg => replace hf := (if_neg c5).symm.trans hf; cases hf
      replace hf := (if_pos c5).symm.trans hf
      refine ok_iald (i := v5) (id := 85) (n := 80) (L := [some (.inr (.inr (.inl 63))), some (.inl v1), some (.inl v2), some (.inl 1), some (.inl v4), some (.inl v5)]) (S := [.inl (V 84 v5.toNat), .inl v2]) (M := mm V h) rfl rfl rfl c5.1 c5.2 ?_
      refine ok_callA (L := [some (.inr (.inr (.inl 63))), some (.inl v1), some (.inl v2), some (.inl 1), some (.inl v4), some (.inl v5)]) (M := mm V h) (args := [.inl v2, .inl (V 84 v5.toNat), .inl (V 85 v5.toNat)]) (rest := []) (y2 := 152) rfl rfl rfl (Or.inr (Or.inl rfl)) rfl rfl (Nat.le_of_ble_eq_true rfl) rfl rfl (Nat.le_of_ble_eq_true rfl) (Nat.le_of_ble_eq_true rfl) (s_Mo_isIn rfl) ?_
      rintro _ _ ⟨rfl, rfl, hz6⟩
      refine ok_if_eq (x := f_Mo_isIn V v2 (V 84 v5.toNat) (V 85 v5.toNat)) (L := [some (.inr (.inr (.inl 63))), some (.inl v1), some (.inl v2), some (.inl 1), some (.inl v4), some (.inl v5)]) (S := []) (M := mm V h) rfl rfl (fun c7 => ?_) (fun c7 => ?_)
      ·
        replace hf := (if_pos c7).symm.trans hf
        refine ok_thru (L := [some (.inr (.inr (.inl 63))), some (.inl v1), some (.inl v2), some (.inl 1), some (.inl v4), some (.inl v5)]) (S := [.inl 0]) (M := mm V h) rfl rfl ?_
        exact s_Mo_isOpen_19 hf K1
      ·
        replace hf := (if_neg c7).symm.trans hf
        exact s_Mo_isOpen_17 hf K1
  ·
    replace hf := (if_pos c2).symm.trans hf
    refine ok_goto (L := [some (.inr (.inr (.inl 63))), some (.inl v1), some (.inl v2), some (.inl v3), some (.inl v4), some (.inl v5)]) (S := []) (M := mm V h) rfl rfl ?_
    exact s_Mo_isOpen_20 hf K1
def f_Mo_isOpen_1 : Nat → VV → Int → Int → Int → Int → Int → (Option (Int))
  | 0, _, _, _, _, _, _ => none
  | n + 1, V, v1, v2, v3, v4, v5 => if v5 < (V 62 48) then Option.bind (f_Mo_holds V v5 5 v1) (fun q5 => if q5 = 0 then f_Mo_isOpen_9 (f_Mo_isOpen_1 n) V v1 v2 v3 v4 v5 else if 0 ≤ v5 ∧ v5 < (80 : Int) then if 0 ≤ v5 ∧ v5 < (80 : Int) then if (f_Mo_isIn V v2 (V 84 v5.toNat) (V 85 v5.toNat)) = 0 then f_Mo_isOpen_9 (f_Mo_isOpen_1 n) V v1 v2 v3 v4 v5 else some 0 else none else none) else some (if v4 = 0 then (if v3 = 0 then 1 else 0 : Int) else 1 : Int)
set_option maxRecDepth 20000 in
set_option maxHeartbeats 4000000 in
theorem s_Mo_isOpen_1_n {X : Xs} {d : Nat} {V : VV} {h : HP} {q : Int} : ∀ (n : Nat) (v1 : Int) (v2 : Int) (v3 : Int) (v4 : Int) (v5 : Int), f_Mo_isOpen_1 n V v1 v2 v3 v4 v5 = some q → Ok X (d + 2) 188 1 ([some (.inr (.inr (.inl 63))), some (.inl v1), some (.inl v2), some (.inl v3), some (.inl v4), some (.inl v5)], [], mm V h) (fun M r => M = mm V h ∧ r = some (.inl q) ∧ (q = 0 ∨ q = 1)) := by
  intro n
  induction n with
  | zero => intro v1 v2 v3 v4 v5 hf; cases hf
  | succ n ih =>
    intro v1 v2 v3 v4 v5 hf
    let QQ : Mm → Option AV → Prop := fun M r => M = mm V h ∧ r = some (.inl q) ∧ (q = 0 ∨ q = 1)
    show Ok X (d + 2) 188 1 ([some (.inr (.inr (.inl 63))), some (.inl v1), some (.inl v2), some (.inl v3), some (.inl v4), some (.inl v5)], [], mm V h) QQ
    refine ok_ic_ge (x := v5) (u := V 62 48) (L := [some (.inr (.inr (.inl 63))), some (.inl v1), some (.inl v2), some (.inl v3), some (.inl v4), some (.inl v5)]) (S := []) (M := mm V h) rfl rfl (fun c1 => ?_) (fun c1 => ?_)
    ·
      replace hf := (if_neg (Int.not_lt.mpr c1)).symm.trans hf
      have JN2 : Ok X (d + 2) 188 25 ([some (.inr (.inr (.inl 63))), some (.inl v1), some (.inl v2), some (.inl v3), some (.inl v4), some (.inl v5)], [.inl (if v4 = 0 then (if v3 = 0 then 1 else 0 : Int) else 1 : Int)], mm V h) QQ := by
        obtain rfl := Option.some.inj hf
        have hz : ((if v4 = 0 then (if v3 = 0 then 1 else 0 : Int) else 1 : Int) : Int) = 0 ∨ ((if v4 = 0 then (if v3 = 0 then 1 else 0 : Int) else 1 : Int) : Int) = 1 := by
          first | exact Or.inl rfl | exact Or.inr rfl | assumption | (repeat' split) <;> first | exact Or.inl rfl | exact Or.inr rfl | assumption
        refine ok_zreturn (L := [some (.inr (.inr (.inl 63))), some (.inl v1), some (.inl v2), some (.inl v3), some (.inl v4), some (.inl v5)]) (M := mm V h) (x := (if v4 = 0 then (if v3 = 0 then 1 else 0 : Int) else 1 : Int)) rfl rfl hz ?_
        exact ⟨rfl, rfl, hz⟩
      clear hf
      refine ok_if_ne (x := v4) (L := [some (.inr (.inr (.inl 63))), some (.inl v1), some (.inl v2), some (.inl v3), some (.inl v4), some (.inl v5)]) (S := []) (M := mm V h) rfl rfl (fun c3 => ?_) (fun c3 => ?_)
      ·
        simp only [if_neg c3] at JN2
        refine ok_goto (L := [some (.inr (.inr (.inl 63))), some (.inl v1), some (.inl v2), some (.inl v3), some (.inl v4), some (.inl v5)]) (S := [.inl 1]) (M := mm V h) rfl rfl ?_
        first | exact JN2 | (simp only [if_neg c3]; exact JN2)
      ·
        simp only [if_pos c3] at JN2
        refine ok_if_ne (x := v3) (L := [some (.inr (.inr (.inl 63))), some (.inl v1), some (.inl v2), some (.inl v3), some (.inl v4), some (.inl v5)]) (S := []) (M := mm V h) rfl rfl (fun c4 => ?_) (fun c4 => ?_)
        ·
          simp only [if_neg c4] at JN2
          refine ok_thru (L := [some (.inr (.inr (.inl 63))), some (.inl v1), some (.inl v2), some (.inl v3), some (.inl v4), some (.inl v5)]) (S := [.inl 0]) (M := mm V h) rfl rfl ?_
          first | exact JN2 | (simp only [if_pos c3, if_neg c4]; exact JN2)
        ·
          simp only [if_pos c4] at JN2
          refine ok_goto (L := [some (.inr (.inr (.inl 63))), some (.inl v1), some (.inl v2), some (.inl v3), some (.inl v4), some (.inl v5)]) (S := [.inl 1]) (M := mm V h) rfl rfl ?_
          first | exact JN2 | (simp only [if_pos c3, if_pos c4]; exact JN2)
    ·
      replace hf := (if_pos c1).symm.trans hf
      obtain ⟨q5, e5, hf⟩ := obind hf
      refine ok_callA (L := [some (.inr (.inr (.inl 63))), some (.inl v1), some (.inl v2), some (.inl v3), some (.inl v4), some (.inl v5)]) (M := mm V h) (args := [.inr (.inr (.inl 63)), .inl v5, .inl 5, .inl v1]) (rest := []) (y2 := 189) rfl rfl rfl (Or.inl rfl) rfl rfl (Nat.le_of_ble_eq_true rfl) rfl rfl (Nat.le_of_ble_eq_true rfl) (Nat.le_of_ble_eq_true rfl) (s_Mo_holds e5) ?_
      rintro _ _ ⟨rfl, rfl, hz5⟩
      refine ok_if_eq (x := q5) (L := [some (.inr (.inr (.inl 63))), some (.inl v1), some (.inl v2), some (.inl v3), some (.inl v4), some (.inl v5)]) (S := []) (M := mm V h) rfl rfl (fun c6 => ?_) (fun c6 => ?_)
      ·
        replace hf := (if_pos c6).symm.trans hf
        exact s_Mo_isOpen_9 hf ih
      ·
        replace hf := (if_neg c6).symm.trans hf
        by_cases c7 : 0 ≤ v5 ∧ v5 < (80 : Int)
        case neg => replace hf := (if_neg c7).symm.trans hf; cases hf
        replace hf := (if_pos c7).symm.trans hf
        refine ok_iald (i := v5) (id := 84) (n := 80) (L := [some (.inr (.inr (.inl 63))), some (.inl v1), some (.inl v2), some (.inl v3), some (.inl v4), some (.inl v5)]) (S := [.inl v2]) (M := mm V h) rfl rfl rfl c7.1 c7.2 ?_
        by_cases c8 : 0 ≤ v5 ∧ v5 < (80 : Int)
        case neg => replace hf := (if_neg c8).symm.trans hf; cases hf
        replace hf := (if_pos c8).symm.trans hf
        refine ok_iald (i := v5) (id := 85) (n := 80) (L := [some (.inr (.inr (.inl 63))), some (.inl v1), some (.inl v2), some (.inl v3), some (.inl v4), some (.inl v5)]) (S := [.inl (V 84 v5.toNat), .inl v2]) (M := mm V h) rfl rfl rfl c8.1 c8.2 ?_
        refine ok_callA (L := [some (.inr (.inr (.inl 63))), some (.inl v1), some (.inl v2), some (.inl v3), some (.inl v4), some (.inl v5)]) (M := mm V h) (args := [.inl v2, .inl (V 84 v5.toNat), .inl (V 85 v5.toNat)]) (rest := []) (y2 := 152) rfl rfl rfl (Or.inr (Or.inl rfl)) rfl rfl (Nat.le_of_ble_eq_true rfl) rfl rfl (Nat.le_of_ble_eq_true rfl) (Nat.le_of_ble_eq_true rfl) (s_Mo_isIn rfl) ?_
        rintro _ _ ⟨rfl, rfl, hz9⟩
        refine ok_if_eq (x := f_Mo_isIn V v2 (V 84 v5.toNat) (V 85 v5.toNat)) (L := [some (.inr (.inr (.inl 63))), some (.inl v1), some (.inl v2), some (.inl v3), some (.inl v4), some (.inl v5)]) (S := []) (M := mm V h) rfl rfl (fun c10 => ?_) (fun c10 => ?_)
        ·
          replace hf := (if_pos c10).symm.trans hf
          exact s_Mo_isOpen_9 hf ih
        ·
          replace hf := (if_neg c10).symm.trans hf
          obtain rfl := Option.some.inj hf
          have hz : (0 : Int) = 0 ∨ (0 : Int) = 1 := by
            first | exact Or.inl rfl | exact Or.inr rfl | assumption | (repeat' split) <;> first | exact Or.inl rfl | exact Or.inr rfl | assumption
          refine ok_zreturn (L := [some (.inr (.inr (.inl 63))), some (.inl v1), some (.inl v2), some (.inl v3), some (.inl v4), some (.inl v5)]) (M := mm V h) (x := 0) rfl rfl hz ?_
          exact ⟨rfl, rfl, hz⟩
theorem s_Mo_isOpen_1 {X : Xs} {d : Nat} {V : VV} {h : HP} {v1 : Int} {v2 : Int} {v3 : Int} {v4 : Int} {v5 : Int} {n : Nat} {q : Int} (hf : f_Mo_isOpen_1 n V v1 v2 v3 v4 v5 = some q) : Ok X (d + 2) 188 1 ([some (.inr (.inr (.inl 63))), some (.inl v1), some (.inl v2), some (.inl v3), some (.inl v4), some (.inl v5)], [], mm V h) (fun M r => M = mm V h ∧ r = some (.inl q) ∧ (q = 0 ∨ q = 1)) :=
  s_Mo_isOpen_1_n n v1 v2 v3 v4 v5 hf
def f_Mo_isOpen (V : VV) (v1 : Int) (v2 : Int) : Option (Int) := f_Mo_isOpen_1 FU V v1 v2 0 0 0
set_option maxRecDepth 20000 in
set_option maxHeartbeats 4000000 in
theorem s_Mo_isOpen {X : Xs} {d : Nat} {V : VV} {h : HP} {v1 : Int} {v2 : Int} {q : Int} (hf : f_Mo_isOpen V v1 v2 = some q) : Ok X (d + 2) 188 0 ([some (.inr (.inr (.inl 63))), some (.inl v1), some (.inl v2), none, none, none], [], mm V h) (fun M r => M = mm V h ∧ r = some (.inl q) ∧ (q = 0 ∨ q = 1)) := by
  let QQ : Mm → Option AV → Prop := fun M r => M = mm V h ∧ r = some (.inl q) ∧ (q = 0 ∨ q = 1)
  show Ok X (d + 2) 188 0 ([some (.inr (.inr (.inl 63))), some (.inl v1), some (.inl v2), none, none, none], [], mm V h) QQ
  refine ok_thru (L := [some (.inr (.inr (.inl 63))), some (.inl v1), some (.inl v2), some (.inl 0), some (.inl 0), some (.inl 0)]) (S := []) (M := mm V h) rfl rfl ?_
  exact s_Mo_isOpen_1 hf
def f_Mo_haulOf_13 (k1 : VV → Int → Int → Int → Int → Int → (Option (Int))) (V : VV) (v1 : Int) (v2 : Int) (v3 : Int) (v4 : Int) (v5 : Int) : Option (Int) := k1 V v1 v2 v3 v4 (w32 (v5 + 1))
set_option maxRecDepth 20000 in
set_option maxHeartbeats 4000000 in
theorem s_Mo_haulOf_13 {X : Xs} {d : Nat} {k1 : VV → Int → Int → Int → Int → Int → (Option (Int))} {V : VV} {h : HP} {v1 : Int} {v2 : Int} {v3 : Int} {v4 : Int} {v5 : Int} {q : Int} (hf : f_Mo_haulOf_13 k1 V v1 v2 v3 v4 v5 = some q) (K1 : ∀ (v1 : Int) (v2 : Int) (v3 : Int) (v4 : Int) (v5 : Int), k1 V v1 v2 v3 v4 v5 = some q → Ok X (d + 2) 190 1 ([some (.inr (.inr (.inl 63))), some (.inl v1), some (.inl v2), some (.inl v3), some (.inl v4), some (.inl v5)], [], mm V h) (fun M r => M = mm V h ∧ r = some (.inl q))) : Ok X (d + 2) 190 13 ([some (.inr (.inr (.inl 63))), some (.inl v1), some (.inl v2), some (.inl v3), some (.inl v4), some (.inl v5)], [], mm V h) (fun M r => M = mm V h ∧ r = some (.inl q)) := by
  let QQ : Mm → Option AV → Prop := fun M r => M = mm V h ∧ r = some (.inl q)
  show Ok X (d + 2) 190 13 ([some (.inr (.inr (.inl 63))), some (.inl v1), some (.inl v2), some (.inl v3), some (.inl v4), some (.inl v5)], [], mm V h) QQ
  refine ok_goto (L := [some (.inr (.inr (.inl 63))), some (.inl v1), some (.inl v2), some (.inl v3), some (.inl v4), some (.inl (w32 (v5 + 1)))]) (S := []) (M := mm V h) rfl rfl ?_
  exact K1 v1 v2 v3 v4 (w32 (v5 + 1)) hf
def f_Mo_haulOf_12 (k1 : VV → Int → Int → Int → Int → Int → (Option (Int))) (V : VV) (v1 : Int) (v2 : Int) (v3 : Int) (v5 : Int) : Option (Int) := f_Mo_haulOf_13 k1 V v1 v2 v3 v5 v5
set_option maxRecDepth 20000 in
set_option maxHeartbeats 4000000 in
theorem s_Mo_haulOf_12 {X : Xs} {d : Nat} {k1 : VV → Int → Int → Int → Int → Int → (Option (Int))} {V : VV} {h : HP} {v1 : Int} {v2 : Int} {v3 : Int} {v5 : Int} {w4 : Int} {q : Int} (hf : f_Mo_haulOf_12 k1 V v1 v2 v3 v5 = some q) (K1 : ∀ (v1 : Int) (v2 : Int) (v3 : Int) (v4 : Int) (v5 : Int), k1 V v1 v2 v3 v4 v5 = some q → Ok X (d + 2) 190 1 ([some (.inr (.inr (.inl 63))), some (.inl v1), some (.inl v2), some (.inl v3), some (.inl v4), some (.inl v5)], [], mm V h) (fun M r => M = mm V h ∧ r = some (.inl q))) : Ok X (d + 2) 190 12 ([some (.inr (.inr (.inl 63))), some (.inl v1), some (.inl v2), some (.inl v3), some (.inl w4), some (.inl v5)], [], mm V h) (fun M r => M = mm V h ∧ r = some (.inl q)) := by
  let QQ : Mm → Option AV → Prop := fun M r => M = mm V h ∧ r = some (.inl q)
  show Ok X (d + 2) 190 12 ([some (.inr (.inr (.inl 63))), some (.inl v1), some (.inl v2), some (.inl v3), some (.inl w4), some (.inl v5)], [], mm V h) QQ
  refine ok_thru (L := [some (.inr (.inr (.inl 63))), some (.inl v1), some (.inl v2), some (.inl v3), some (.inl v5), some (.inl v5)]) (S := []) (M := mm V h) rfl rfl ?_
  exact s_Mo_haulOf_13 hf K1
def f_Mo_haulOf_1 : Nat → VV → Int → Int → Int → Int → Int → (Option (Int))
  | 0, _, _, _, _, _, _ => none
  | n + 1, V, v1, v2, v3, v4, v5 => if v5 < (V 62 48) then Option.bind (f_Mo_holds V v5 2 v1) (fun q4 => if q4 = 0 then f_Mo_haulOf_13 (f_Mo_haulOf_1 n) V v1 v2 v3 v4 v5 else if 0 ≤ v5 ∧ v5 < (80 : Int) then if (V 83 v5.toNat) = v2 then if 0 ≤ v5 ∧ v5 < (80 : Int) then if v3 < (V 85 v5.toNat) then f_Mo_haulOf_13 (f_Mo_haulOf_1 n) V v1 v2 v3 v4 v5 else if v4 < 0 then f_Mo_haulOf_12 (f_Mo_haulOf_1 n) V v1 v2 v3 v5 else if 0 ≤ v5 ∧ v5 < (80 : Int) then if 0 ≤ v4 ∧ v4 < (80 : Int) then if (V 85 v5.toNat) < (V 85 v4.toNat) then f_Mo_haulOf_13 (f_Mo_haulOf_1 n) V v1 v2 v3 v4 v5 else f_Mo_haulOf_12 (f_Mo_haulOf_1 n) V v1 v2 v3 v5 else none else none else none else f_Mo_haulOf_13 (f_Mo_haulOf_1 n) V v1 v2 v3 v4 v5 else none) else if v4 < 0 then some 20 else if 0 ≤ v4 ∧ v4 < (80 : Int) then some (V 84 v4.toNat) else none
set_option maxRecDepth 20000 in
set_option maxHeartbeats 4000000 in
theorem s_Mo_haulOf_1_n {X : Xs} {d : Nat} {V : VV} {h : HP} {q : Int} : ∀ (n : Nat) (v1 : Int) (v2 : Int) (v3 : Int) (v4 : Int) (v5 : Int), f_Mo_haulOf_1 n V v1 v2 v3 v4 v5 = some q → Ok X (d + 2) 190 1 ([some (.inr (.inr (.inl 63))), some (.inl v1), some (.inl v2), some (.inl v3), some (.inl v4), some (.inl v5)], [], mm V h) (fun M r => M = mm V h ∧ r = some (.inl q)) := by
  intro n
  induction n with
  | zero => intro v1 v2 v3 v4 v5 hf; cases hf
  | succ n ih =>
    intro v1 v2 v3 v4 v5 hf
    let QQ : Mm → Option AV → Prop := fun M r => M = mm V h ∧ r = some (.inl q)
    show Ok X (d + 2) 190 1 ([some (.inr (.inr (.inl 63))), some (.inl v1), some (.inl v2), some (.inl v3), some (.inl v4), some (.inl v5)], [], mm V h) QQ
    refine ok_ic_ge (x := v5) (u := V 62 48) (L := [some (.inr (.inr (.inl 63))), some (.inl v1), some (.inl v2), some (.inl v3), some (.inl v4), some (.inl v5)]) (S := []) (M := mm V h) rfl rfl (fun c1 => ?_) (fun c1 => ?_)
    ·
      replace hf := (if_neg (Int.not_lt.mpr c1)).symm.trans hf
      refine ok_if_ge (x := v4) (L := [some (.inr (.inr (.inl 63))), some (.inl v1), some (.inl v2), some (.inl v3), some (.inl v4), some (.inl v5)]) (S := []) (M := mm V h) rfl rfl (fun c2 => ?_) (fun c2 => ?_)
      ·
        replace hf := (if_neg (Int.not_lt.mpr c2)).symm.trans hf
        by_cases c3 : 0 ≤ v4 ∧ v4 < (80 : Int)
        case neg => replace hf := (if_neg c3).symm.trans hf; cases hf
        replace hf := (if_pos c3).symm.trans hf
        refine ok_iald (i := v4) (id := 84) (n := 80) (L := [some (.inr (.inr (.inl 63))), some (.inl v1), some (.inl v2), some (.inl v3), some (.inl v4), some (.inl v5)]) (S := []) (M := mm V h) rfl rfl rfl c3.1 c3.2 ?_
        obtain rfl := Option.some.inj hf
        refine ok_ireturn (L := [some (.inr (.inr (.inl 63))), some (.inl v1), some (.inl v2), some (.inl v3), some (.inl v4), some (.inl v5)]) (M := mm V h) (x := V 84 v4.toNat) rfl rfl ?_
        exact ⟨rfl, rfl⟩
      ·
        replace hf := (if_pos c2).symm.trans hf
        refine ok_goto (L := [some (.inr (.inr (.inl 63))), some (.inl v1), some (.inl v2), some (.inl v3), some (.inl v4), some (.inl v5)]) (S := [.inl 20]) (M := mm V h) rfl rfl ?_
        obtain rfl := Option.some.inj hf
        refine ok_ireturn (L := [some (.inr (.inr (.inl 63))), some (.inl v1), some (.inl v2), some (.inl v3), some (.inl v4), some (.inl v5)]) (M := mm V h) (x := 20) rfl rfl ?_
        exact ⟨rfl, rfl⟩
    ·
      replace hf := (if_pos c1).symm.trans hf
      obtain ⟨q4, e4, hf⟩ := obind hf
      refine ok_callA (L := [some (.inr (.inr (.inl 63))), some (.inl v1), some (.inl v2), some (.inl v3), some (.inl v4), some (.inl v5)]) (M := mm V h) (args := [.inr (.inr (.inl 63)), .inl v5, .inl 2, .inl v1]) (rest := []) (y2 := 189) rfl rfl rfl (Or.inl rfl) rfl rfl (Nat.le_of_ble_eq_true rfl) rfl rfl (Nat.le_of_ble_eq_true rfl) (Nat.le_of_ble_eq_true rfl) (s_Mo_holds e4) ?_
      rintro _ _ ⟨rfl, rfl, hz4⟩
      refine ok_if_eq (x := q4) (L := [some (.inr (.inr (.inl 63))), some (.inl v1), some (.inl v2), some (.inl v3), some (.inl v4), some (.inl v5)]) (S := []) (M := mm V h) rfl rfl (fun c5 => ?_) (fun c5 => ?_)
      ·
        replace hf := (if_pos c5).symm.trans hf
        exact s_Mo_haulOf_13 hf ih
      ·
        replace hf := (if_neg c5).symm.trans hf
        by_cases c6 : 0 ≤ v5 ∧ v5 < (80 : Int)
        case neg => replace hf := (if_neg c6).symm.trans hf; cases hf
        replace hf := (if_pos c6).symm.trans hf
        refine ok_iald (i := v5) (id := 83) (n := 80) (L := [some (.inr (.inr (.inl 63))), some (.inl v1), some (.inl v2), some (.inl v3), some (.inl v4), some (.inl v5)]) (S := []) (M := mm V h) rfl rfl rfl c6.1 c6.2 ?_
        refine ok_ic_ne (x := V 83 v5.toNat) (u := v2) (L := [some (.inr (.inr (.inl 63))), some (.inl v1), some (.inl v2), some (.inl v3), some (.inl v4), some (.inl v5)]) (S := []) (M := mm V h) rfl rfl (fun c7 => ?_) (fun c7 => ?_)
        ·
          replace hf := (if_neg c7).symm.trans hf
          exact s_Mo_haulOf_13 hf ih
        ·
          replace hf := (if_pos c7).symm.trans hf
          by_cases c8 : 0 ≤ v5 ∧ v5 < (80 : Int)
          case neg => replace hf := (if_neg c8).symm.trans hf; cases hf
          replace hf := (if_pos c8).symm.trans hf
          refine ok_iald (i := v5) (id := 85) (n := 80) (L := [some (.inr (.inr (.inl 63))), some (.inl v1), some (.inl v2), some (.inl v3), some (.inl v4), some (.inl v5)]) (S := []) (M := mm V h) rfl rfl rfl c8.1 c8.2 ?_
          refine ok_ic_gt (x := V 85 v5.toNat) (u := v3) (L := [some (.inr (.inr (.inl 63))), some (.inl v1), some (.inl v2), some (.inl v3), some (.inl v4), some (.inl v5)]) (S := []) (M := mm V h) rfl rfl (fun c9 => ?_) (fun c9 => ?_)
          ·
            replace hf := (if_pos c9).symm.trans hf
            exact s_Mo_haulOf_13 hf ih
          ·
            replace hf := (if_neg (Int.not_lt.mpr c9)).symm.trans hf
            refine ok_if_lt (x := v4) (L := [some (.inr (.inr (.inl 63))), some (.inl v1), some (.inl v2), some (.inl v3), some (.inl v4), some (.inl v5)]) (S := []) (M := mm V h) rfl rfl (fun c10 => ?_) (fun c10 => ?_)
            ·
              replace hf := (if_pos c10).symm.trans hf
              exact s_Mo_haulOf_12 hf ih
            ·
              replace hf := (if_neg (Int.not_lt.mpr c10)).symm.trans hf
              by_cases c11 : 0 ≤ v5 ∧ v5 < (80 : Int)
              case neg => replace hf := (if_neg c11).symm.trans hf; cases hf
              replace hf := (if_pos c11).symm.trans hf
              refine ok_iald (i := v5) (id := 85) (n := 80) (L := [some (.inr (.inr (.inl 63))), some (.inl v1), some (.inl v2), some (.inl v3), some (.inl v4), some (.inl v5)]) (S := []) (M := mm V h) rfl rfl rfl c11.1 c11.2 ?_
              by_cases c12 : 0 ≤ v4 ∧ v4 < (80 : Int)
              case neg => replace hf := (if_neg c12).symm.trans hf; cases hf
              replace hf := (if_pos c12).symm.trans hf
              refine ok_iald (i := v4) (id := 85) (n := 80) (L := [some (.inr (.inr (.inl 63))), some (.inl v1), some (.inl v2), some (.inl v3), some (.inl v4), some (.inl v5)]) (S := [.inl (V 85 v5.toNat)]) (M := mm V h) rfl rfl rfl c12.1 c12.2 ?_
              refine ok_ic_lt (x := V 85 v5.toNat) (u := V 85 v4.toNat) (L := [some (.inr (.inr (.inl 63))), some (.inl v1), some (.inl v2), some (.inl v3), some (.inl v4), some (.inl v5)]) (S := []) (M := mm V h) rfl rfl (fun c13 => ?_) (fun c13 => ?_)
              ·
                replace hf := (if_pos c13).symm.trans hf
                exact s_Mo_haulOf_13 hf ih
              ·
                replace hf := (if_neg (Int.not_lt.mpr c13)).symm.trans hf
                exact s_Mo_haulOf_12 hf ih
theorem s_Mo_haulOf_1 {X : Xs} {d : Nat} {V : VV} {h : HP} {v1 : Int} {v2 : Int} {v3 : Int} {v4 : Int} {v5 : Int} {n : Nat} {q : Int} (hf : f_Mo_haulOf_1 n V v1 v2 v3 v4 v5 = some q) : Ok X (d + 2) 190 1 ([some (.inr (.inr (.inl 63))), some (.inl v1), some (.inl v2), some (.inl v3), some (.inl v4), some (.inl v5)], [], mm V h) (fun M r => M = mm V h ∧ r = some (.inl q)) :=
  s_Mo_haulOf_1_n n v1 v2 v3 v4 v5 hf
def f_Mo_haulOf (V : VV) (v1 : Int) (v2 : Int) (v3 : Int) : Option (Int) := f_Mo_haulOf_1 FU V v1 v2 v3 (-1) 0
set_option maxRecDepth 20000 in
set_option maxHeartbeats 4000000 in
theorem s_Mo_haulOf {X : Xs} {d : Nat} {V : VV} {h : HP} {v1 : Int} {v2 : Int} {v3 : Int} {q : Int} (hf : f_Mo_haulOf V v1 v2 v3 = some q) : Ok X (d + 2) 190 0 ([some (.inr (.inr (.inl 63))), some (.inl v1), some (.inl v2), some (.inl v3), none, none], [], mm V h) (fun M r => M = mm V h ∧ r = some (.inl q)) := by
  let QQ : Mm → Option AV → Prop := fun M r => M = mm V h ∧ r = some (.inl q)
  show Ok X (d + 2) 190 0 ([some (.inr (.inr (.inl 63))), some (.inl v1), some (.inl v2), some (.inl v3), none, none], [], mm V h) QQ
  refine ok_thru (L := [some (.inr (.inr (.inl 63))), some (.inl v1), some (.inl v2), some (.inl v3), some (.inl (-1)), some (.inl 0)]) (S := []) (M := mm V h) rfl rfl ?_
  exact s_Mo_haulOf_1 hf
def f_Mo_isShut_11 (k1 : VV → Int → Int → Int → Int → (Option (Int))) (V : VV) (v1 : Int) (v2 : Int) (v3 : Int) (v4 : Int) : Option (Int) := k1 V v1 v2 v3 (w32 (v4 + 1))
set_option maxRecDepth 20000 in
set_option maxHeartbeats 4000000 in
theorem s_Mo_isShut_11 {X : Xs} {d : Nat} {k1 : VV → Int → Int → Int → Int → (Option (Int))} {V : VV} {h : HP} {v1 : Int} {v2 : Int} {v3 : Int} {v4 : Int} {q : Int} (hf : f_Mo_isShut_11 k1 V v1 v2 v3 v4 = some q) (K1 : ∀ (v1 : Int) (v2 : Int) (v3 : Int) (v4 : Int), k1 V v1 v2 v3 v4 = some q → Ok X (d + 2) 191 1 ([some (.inr (.inr (.inl 63))), some (.inl v1), some (.inl v2), some (.inl v3), some (.inl v4)], [], mm V h) (fun M r => M = mm V h ∧ r = some (.inl q) ∧ (q = 0 ∨ q = 1))) : Ok X (d + 2) 191 11 ([some (.inr (.inr (.inl 63))), some (.inl v1), some (.inl v2), some (.inl v3), some (.inl v4)], [], mm V h) (fun M r => M = mm V h ∧ r = some (.inl q) ∧ (q = 0 ∨ q = 1)) := by
  let QQ : Mm → Option AV → Prop := fun M r => M = mm V h ∧ r = some (.inl q) ∧ (q = 0 ∨ q = 1)
  show Ok X (d + 2) 191 11 ([some (.inr (.inr (.inl 63))), some (.inl v1), some (.inl v2), some (.inl v3), some (.inl v4)], [], mm V h) QQ
  refine ok_goto (L := [some (.inr (.inr (.inl 63))), some (.inl v1), some (.inl v2), some (.inl v3), some (.inl (w32 (v4 + 1)))]) (S := []) (M := mm V h) rfl rfl ?_
  exact K1 v1 v2 v3 (w32 (v4 + 1)) hf
def f_Mo_isShut_1 : Nat → VV → Int → Int → Int → Int → (Option (Int))
  | 0, _, _, _, _, _ => none
  | n + 1, V, v1, v2, v3, v4 => if v4 < (V 62 48) then Option.bind (f_Mo_holds V v4 3 v1) (fun q2 => if q2 = 0 then f_Mo_isShut_11 (f_Mo_isShut_1 n) V v1 v2 v3 v4 else if 0 ≤ v4 ∧ v4 < (80 : Int) then if (V 83 v4.toNat) = v2 then if 0 ≤ v4 ∧ v4 < (80 : Int) then if 0 ≤ v4 ∧ v4 < (80 : Int) then if (f_Mo_isIn V v3 (V 84 v4.toNat) (V 85 v4.toNat)) = 0 then f_Mo_isShut_11 (f_Mo_isShut_1 n) V v1 v2 v3 v4 else some 1 else none else none else f_Mo_isShut_11 (f_Mo_isShut_1 n) V v1 v2 v3 v4 else none) else some 0
set_option maxRecDepth 20000 in
set_option maxHeartbeats 4000000 in
theorem s_Mo_isShut_1_n {X : Xs} {d : Nat} {V : VV} {h : HP} {q : Int} : ∀ (n : Nat) (v1 : Int) (v2 : Int) (v3 : Int) (v4 : Int), f_Mo_isShut_1 n V v1 v2 v3 v4 = some q → Ok X (d + 2) 191 1 ([some (.inr (.inr (.inl 63))), some (.inl v1), some (.inl v2), some (.inl v3), some (.inl v4)], [], mm V h) (fun M r => M = mm V h ∧ r = some (.inl q) ∧ (q = 0 ∨ q = 1)) := by
  intro n
  induction n with
  | zero => intro v1 v2 v3 v4 hf; cases hf
  | succ n ih =>
    intro v1 v2 v3 v4 hf
    let QQ : Mm → Option AV → Prop := fun M r => M = mm V h ∧ r = some (.inl q) ∧ (q = 0 ∨ q = 1)
    show Ok X (d + 2) 191 1 ([some (.inr (.inr (.inl 63))), some (.inl v1), some (.inl v2), some (.inl v3), some (.inl v4)], [], mm V h) QQ
    refine ok_ic_ge (x := v4) (u := V 62 48) (L := [some (.inr (.inr (.inl 63))), some (.inl v1), some (.inl v2), some (.inl v3), some (.inl v4)]) (S := []) (M := mm V h) rfl rfl (fun c1 => ?_) (fun c1 => ?_)
    ·
      replace hf := (if_neg (Int.not_lt.mpr c1)).symm.trans hf
      obtain rfl := Option.some.inj hf
      have hz : (0 : Int) = 0 ∨ (0 : Int) = 1 := by
        first | exact Or.inl rfl | exact Or.inr rfl | assumption | (repeat' split) <;> first | exact Or.inl rfl | exact Or.inr rfl | assumption
      refine ok_zreturn (L := [some (.inr (.inr (.inl 63))), some (.inl v1), some (.inl v2), some (.inl v3), some (.inl v4)]) (M := mm V h) (x := 0) rfl rfl hz ?_
      exact ⟨rfl, rfl, hz⟩
    ·
      replace hf := (if_pos c1).symm.trans hf
      obtain ⟨q2, e2, hf⟩ := obind hf
      refine ok_callA (L := [some (.inr (.inr (.inl 63))), some (.inl v1), some (.inl v2), some (.inl v3), some (.inl v4)]) (M := mm V h) (args := [.inr (.inr (.inl 63)), .inl v4, .inl 3, .inl v1]) (rest := []) (y2 := 189) rfl rfl rfl (Or.inl rfl) rfl rfl (Nat.le_of_ble_eq_true rfl) rfl rfl (Nat.le_of_ble_eq_true rfl) (Nat.le_of_ble_eq_true rfl) (s_Mo_holds e2) ?_
      rintro _ _ ⟨rfl, rfl, hz2⟩
      refine ok_if_eq (x := q2) (L := [some (.inr (.inr (.inl 63))), some (.inl v1), some (.inl v2), some (.inl v3), some (.inl v4)]) (S := []) (M := mm V h) rfl rfl (fun c3 => ?_) (fun c3 => ?_)
      ·
        replace hf := (if_pos c3).symm.trans hf
        exact s_Mo_isShut_11 hf ih
      ·
        replace hf := (if_neg c3).symm.trans hf
        by_cases c4 : 0 ≤ v4 ∧ v4 < (80 : Int)
        case neg => replace hf := (if_neg c4).symm.trans hf; cases hf
        replace hf := (if_pos c4).symm.trans hf
        refine ok_iald (i := v4) (id := 83) (n := 80) (L := [some (.inr (.inr (.inl 63))), some (.inl v1), some (.inl v2), some (.inl v3), some (.inl v4)]) (S := []) (M := mm V h) rfl rfl rfl c4.1 c4.2 ?_
        refine ok_ic_ne (x := V 83 v4.toNat) (u := v2) (L := [some (.inr (.inr (.inl 63))), some (.inl v1), some (.inl v2), some (.inl v3), some (.inl v4)]) (S := []) (M := mm V h) rfl rfl (fun c5 => ?_) (fun c5 => ?_)
        ·
          replace hf := (if_neg c5).symm.trans hf
          exact s_Mo_isShut_11 hf ih
        ·
          replace hf := (if_pos c5).symm.trans hf
          by_cases c6 : 0 ≤ v4 ∧ v4 < (80 : Int)
          case neg => replace hf := (if_neg c6).symm.trans hf; cases hf
          replace hf := (if_pos c6).symm.trans hf
          refine ok_iald (i := v4) (id := 84) (n := 80) (L := [some (.inr (.inr (.inl 63))), some (.inl v1), some (.inl v2), some (.inl v3), some (.inl v4)]) (S := [.inl v3]) (M := mm V h) rfl rfl rfl c6.1 c6.2 ?_
          by_cases c7 : 0 ≤ v4 ∧ v4 < (80 : Int)
          case neg => replace hf := (if_neg c7).symm.trans hf; cases hf
          replace hf := (if_pos c7).symm.trans hf
          refine ok_iald (i := v4) (id := 85) (n := 80) (L := [some (.inr (.inr (.inl 63))), some (.inl v1), some (.inl v2), some (.inl v3), some (.inl v4)]) (S := [.inl (V 84 v4.toNat), .inl v3]) (M := mm V h) rfl rfl rfl c7.1 c7.2 ?_
          refine ok_callA (L := [some (.inr (.inr (.inl 63))), some (.inl v1), some (.inl v2), some (.inl v3), some (.inl v4)]) (M := mm V h) (args := [.inl v3, .inl (V 84 v4.toNat), .inl (V 85 v4.toNat)]) (rest := []) (y2 := 152) rfl rfl rfl (Or.inr (Or.inl rfl)) rfl rfl (Nat.le_of_ble_eq_true rfl) rfl rfl (Nat.le_of_ble_eq_true rfl) (Nat.le_of_ble_eq_true rfl) (s_Mo_isIn rfl) ?_
          rintro _ _ ⟨rfl, rfl, hz8⟩
          refine ok_if_eq (x := f_Mo_isIn V v3 (V 84 v4.toNat) (V 85 v4.toNat)) (L := [some (.inr (.inr (.inl 63))), some (.inl v1), some (.inl v2), some (.inl v3), some (.inl v4)]) (S := []) (M := mm V h) rfl rfl (fun c9 => ?_) (fun c9 => ?_)
          ·
            replace hf := (if_pos c9).symm.trans hf
            exact s_Mo_isShut_11 hf ih
          ·
            replace hf := (if_neg c9).symm.trans hf
            obtain rfl := Option.some.inj hf
            have hz : (1 : Int) = 0 ∨ (1 : Int) = 1 := by
              first | exact Or.inl rfl | exact Or.inr rfl | assumption | (repeat' split) <;> first | exact Or.inl rfl | exact Or.inr rfl | assumption
            refine ok_zreturn (L := [some (.inr (.inr (.inl 63))), some (.inl v1), some (.inl v2), some (.inl v3), some (.inl v4)]) (M := mm V h) (x := 1) rfl rfl hz ?_
            exact ⟨rfl, rfl, hz⟩
theorem s_Mo_isShut_1 {X : Xs} {d : Nat} {V : VV} {h : HP} {v1 : Int} {v2 : Int} {v3 : Int} {v4 : Int} {n : Nat} {q : Int} (hf : f_Mo_isShut_1 n V v1 v2 v3 v4 = some q) : Ok X (d + 2) 191 1 ([some (.inr (.inr (.inl 63))), some (.inl v1), some (.inl v2), some (.inl v3), some (.inl v4)], [], mm V h) (fun M r => M = mm V h ∧ r = some (.inl q) ∧ (q = 0 ∨ q = 1)) :=
  s_Mo_isShut_1_n n v1 v2 v3 v4 hf
def f_Mo_isShut (V : VV) (v1 : Int) (v2 : Int) (v3 : Int) : Option (Int) := f_Mo_isShut_1 FU V v1 v2 v3 0
set_option maxRecDepth 20000 in
set_option maxHeartbeats 4000000 in
theorem s_Mo_isShut {X : Xs} {d : Nat} {V : VV} {h : HP} {v1 : Int} {v2 : Int} {v3 : Int} {q : Int} (hf : f_Mo_isShut V v1 v2 v3 = some q) : Ok X (d + 2) 191 0 ([some (.inr (.inr (.inl 63))), some (.inl v1), some (.inl v2), some (.inl v3), none], [], mm V h) (fun M r => M = mm V h ∧ r = some (.inl q) ∧ (q = 0 ∨ q = 1)) := by
  let QQ : Mm → Option AV → Prop := fun M r => M = mm V h ∧ r = some (.inl q) ∧ (q = 0 ∨ q = 1)
  show Ok X (d + 2) 191 0 ([some (.inr (.inr (.inl 63))), some (.inl v1), some (.inl v2), some (.inl v3), none], [], mm V h) QQ
  refine ok_thru (L := [some (.inr (.inr (.inl 63))), some (.inl v1), some (.inl v2), some (.inl v3), some (.inl 0)]) (S := []) (M := mm V h) rfl rfl ?_
  exact s_Mo_isShut_1 hf
def f_Mo_world (V : VV) (v1 : Int) (v2 : Int) (v3 : Int) : Option (Int) := if (f_Mo_isIn V v1 0 (w32 ((f_Mo_manyWorlds V) - 1))) = 0 then some (-1) else if (f_Mo_isIn V v2 0 4319) = 0 then some (-1) else if (f_Mo_isIn V v3 0 6) = 0 then some (-1) else if v3 = 0 then Option.bind (f_Mo_isOpen V v1 v2) (fun q14 => some (if q14 = 0 then 0 else 1 : Int)) else if v3 < 4 then Option.bind (f_Mo_haulOf V v1 (w32 (v3 - 1)) v2) (fun q13 => some q13) else Option.bind (f_Mo_isShut V v1 (w32 (v3 - 4)) v2) (fun q10 => some (if q10 = 0 then 0 else 1 : Int))
set_option maxRecDepth 20000 in
set_option maxHeartbeats 4000000 in
theorem s_Mo_world {X : Xs} {d : Nat} {V : VV} {h : HP} {v1 : Int} {v2 : Int} {v3 : Int} {q : Int} (hf : f_Mo_world V v1 v2 v3 = some q) : Ok X (d + 3) 186 0 ([some (.inr (.inr (.inl 63))), some (.inl v1), some (.inl v2), some (.inl v3)], [], mm V h) (fun M r => M = mm V h ∧ r = some (.inl q)) := by
  let QQ : Mm → Option AV → Prop := fun M r => M = mm V h ∧ r = some (.inl q)
  show Ok X (d + 3) 186 0 ([some (.inr (.inr (.inl 63))), some (.inl v1), some (.inl v2), some (.inl v3)], [], mm V h) QQ
  refine ok_callA (L := [some (.inr (.inr (.inl 63))), some (.inl v1), some (.inl v2), some (.inl v3)]) (M := mm V h) (args := [.inr (.inr (.inl 63))]) (rest := [.inl 0, .inl v1]) (y2 := 187) rfl rfl rfl (Or.inl rfl) rfl rfl (Nat.le_of_ble_eq_true rfl) rfl rfl (Nat.le_of_ble_eq_true rfl) (Nat.le_of_ble_eq_true rfl) (s_Mo_manyWorlds rfl) ?_
  rintro _ _ ⟨rfl, rfl⟩
  refine ok_callA (L := [some (.inr (.inr (.inl 63))), some (.inl v1), some (.inl v2), some (.inl v3)]) (M := mm V h) (args := [.inl v1, .inl 0, .inl (w32 ((f_Mo_manyWorlds V) - 1))]) (rest := []) (y2 := 152) rfl rfl rfl (Or.inr (Or.inl rfl)) rfl rfl (Nat.le_of_ble_eq_true rfl) rfl rfl (Nat.le_of_ble_eq_true rfl) (Nat.le_of_ble_eq_true rfl) (s_Mo_isIn rfl) ?_
  rintro _ _ ⟨rfl, rfl, hz2⟩
  refine ok_if_eq (x := f_Mo_isIn V v1 0 (w32 ((f_Mo_manyWorlds V) - 1))) (L := [some (.inr (.inr (.inl 63))), some (.inl v1), some (.inl v2), some (.inl v3)]) (S := []) (M := mm V h) rfl rfl (fun c3 => ?_) (fun c3 => ?_)
  ·
    replace hf := (if_pos c3).symm.trans hf
    obtain rfl := Option.some.inj hf
    refine ok_ireturn (L := [some (.inr (.inr (.inl 63))), some (.inl v1), some (.inl v2), some (.inl v3)]) (M := mm V h) (x := (-1)) rfl rfl ?_
    exact ⟨rfl, rfl⟩
  ·
    replace hf := (if_neg c3).symm.trans hf
    refine ok_callA (L := [some (.inr (.inr (.inl 63))), some (.inl v1), some (.inl v2), some (.inl v3)]) (M := mm V h) (args := [.inl v2, .inl 0, .inl 4319]) (rest := []) (y2 := 152) rfl rfl rfl (Or.inr (Or.inl rfl)) rfl rfl (Nat.le_of_ble_eq_true rfl) rfl rfl (Nat.le_of_ble_eq_true rfl) (Nat.le_of_ble_eq_true rfl) (s_Mo_isIn rfl) ?_
    rintro _ _ ⟨rfl, rfl, hz4⟩
    refine ok_if_eq (x := f_Mo_isIn V v2 0 4319) (L := [some (.inr (.inr (.inl 63))), some (.inl v1), some (.inl v2), some (.inl v3)]) (S := []) (M := mm V h) rfl rfl (fun c5 => ?_) (fun c5 => ?_)
    ·
      replace hf := (if_pos c5).symm.trans hf
      obtain rfl := Option.some.inj hf
      refine ok_ireturn (L := [some (.inr (.inr (.inl 63))), some (.inl v1), some (.inl v2), some (.inl v3)]) (M := mm V h) (x := (-1)) rfl rfl ?_
      exact ⟨rfl, rfl⟩
    ·
      replace hf := (if_neg c5).symm.trans hf
      refine ok_callA (L := [some (.inr (.inr (.inl 63))), some (.inl v1), some (.inl v2), some (.inl v3)]) (M := mm V h) (args := [.inl v3, .inl 0, .inl 6]) (rest := []) (y2 := 152) rfl rfl rfl (Or.inr (Or.inl rfl)) rfl rfl (Nat.le_of_ble_eq_true rfl) rfl rfl (Nat.le_of_ble_eq_true rfl) (Nat.le_of_ble_eq_true rfl) (s_Mo_isIn rfl) ?_
      rintro _ _ ⟨rfl, rfl, hz6⟩
      refine ok_if_ne (x := f_Mo_isIn V v3 0 6) (L := [some (.inr (.inr (.inl 63))), some (.inl v1), some (.inl v2), some (.inl v3)]) (S := []) (M := mm V h) rfl rfl (fun c7 => ?_) (fun c7 => ?_)
      ·
        replace hf := (if_neg c7).symm.trans hf
        refine ok_if_ne (x := v3) (L := [some (.inr (.inr (.inl 63))), some (.inl v1), some (.inl v2), some (.inl v3)]) (S := []) (M := mm V h) rfl rfl (fun c8 => ?_) (fun c8 => ?_)
        ·
          replace hf := (if_neg c8).symm.trans hf
          refine ok_ic_ge (x := v3) (u := 4) (L := [some (.inr (.inr (.inl 63))), some (.inl v1), some (.inl v2), some (.inl v3)]) (S := []) (M := mm V h) rfl rfl (fun c9 => ?_) (fun c9 => ?_)
          ·
            replace hf := (if_neg (Int.not_lt.mpr c9)).symm.trans hf
            obtain ⟨q10, e10, hf⟩ := obind hf
            refine ok_callA (L := [some (.inr (.inr (.inl 63))), some (.inl v1), some (.inl v2), some (.inl v3)]) (M := mm V h) (args := [.inr (.inr (.inl 63)), .inl v1, .inl (w32 (v3 - 4)), .inl v2]) (rest := []) (y2 := 191) rfl rfl rfl (Or.inl rfl) rfl rfl (Nat.le_of_ble_eq_true rfl) rfl rfl (Nat.le_of_ble_eq_true rfl) (Nat.le_of_ble_eq_true rfl) (s_Mo_isShut e10) ?_
            rintro _ _ ⟨rfl, rfl, hz10⟩
            have JN11 : Ok X (d + 3) 186 21 ([some (.inr (.inr (.inl 63))), some (.inl v1), some (.inl v2), some (.inl v3)], [.inl (if q10 = 0 then 0 else 1 : Int)], mm V h) QQ := by
              obtain rfl := Option.some.inj hf
              refine ok_ireturn (L := [some (.inr (.inr (.inl 63))), some (.inl v1), some (.inl v2), some (.inl v3)]) (M := mm V h) (x := (if q10 = 0 then 0 else 1 : Int)) rfl rfl ?_
              exact ⟨rfl, rfl⟩
            clear hf
            refine ok_if_eq (x := q10) (L := [some (.inr (.inr (.inl 63))), some (.inl v1), some (.inl v2), some (.inl v3)]) (S := []) (M := mm V h) rfl rfl (fun c12 => ?_) (fun c12 => ?_)
            ·
              simp only [if_pos c12] at JN11
              refine ok_thru (L := [some (.inr (.inr (.inl 63))), some (.inl v1), some (.inl v2), some (.inl v3)]) (S := [.inl 0]) (M := mm V h) rfl rfl ?_
              first | exact JN11 | (simp only [if_pos c12]; exact JN11)
            ·
              simp only [if_neg c12] at JN11
              refine ok_goto (L := [some (.inr (.inr (.inl 63))), some (.inl v1), some (.inl v2), some (.inl v3)]) (S := [.inl 1]) (M := mm V h) rfl rfl ?_
              first | exact JN11 | (simp only [if_neg c12]; exact JN11)
          ·
            replace hf := (if_pos c9).symm.trans hf
            obtain ⟨q13, e13, hf⟩ := obind hf
            refine ok_callA (L := [some (.inr (.inr (.inl 63))), some (.inl v1), some (.inl v2), some (.inl v3)]) (M := mm V h) (args := [.inr (.inr (.inl 63)), .inl v1, .inl (w32 (v3 - 1)), .inl v2]) (rest := []) (y2 := 190) rfl rfl rfl (Or.inl rfl) rfl rfl (Nat.le_of_ble_eq_true rfl) rfl rfl (Nat.le_of_ble_eq_true rfl) (Nat.le_of_ble_eq_true rfl) (s_Mo_haulOf e13) ?_
            rintro _ _ ⟨rfl, rfl⟩
            refine ok_goto (L := [some (.inr (.inr (.inl 63))), some (.inl v1), some (.inl v2), some (.inl v3)]) (S := [.inl q13]) (M := mm V h) rfl rfl ?_
            obtain rfl := Option.some.inj hf
            refine ok_ireturn (L := [some (.inr (.inr (.inl 63))), some (.inl v1), some (.inl v2), some (.inl v3)]) (M := mm V h) (x := q13) rfl rfl ?_
            exact ⟨rfl, rfl⟩
        ·
          replace hf := (if_pos c8).symm.trans hf
          obtain ⟨q14, e14, hf⟩ := obind hf
          refine ok_callA (L := [some (.inr (.inr (.inl 63))), some (.inl v1), some (.inl v2), some (.inl v3)]) (M := mm V h) (args := [.inr (.inr (.inl 63)), .inl v1, .inl v2]) (rest := []) (y2 := 188) rfl rfl rfl (Or.inl rfl) rfl rfl (Nat.le_of_ble_eq_true rfl) rfl rfl (Nat.le_of_ble_eq_true rfl) (Nat.le_of_ble_eq_true rfl) (s_Mo_isOpen e14) ?_
          rintro _ _ ⟨rfl, rfl, hz14⟩
          have JN15 : Ok X (d + 3) 186 13 ([some (.inr (.inr (.inl 63))), some (.inl v1), some (.inl v2), some (.inl v3)], [.inl (if q14 = 0 then 0 else 1 : Int)], mm V h) QQ := by
            obtain rfl := Option.some.inj hf
            refine ok_ireturn (L := [some (.inr (.inr (.inl 63))), some (.inl v1), some (.inl v2), some (.inl v3)]) (M := mm V h) (x := (if q14 = 0 then 0 else 1 : Int)) rfl rfl ?_
            exact ⟨rfl, rfl⟩
          clear hf
          refine ok_if_eq (x := q14) (L := [some (.inr (.inr (.inl 63))), some (.inl v1), some (.inl v2), some (.inl v3)]) (S := []) (M := mm V h) rfl rfl (fun c16 => ?_) (fun c16 => ?_)
          ·
            simp only [if_pos c16] at JN15
            refine ok_thru (L := [some (.inr (.inr (.inl 63))), some (.inl v1), some (.inl v2), some (.inl v3)]) (S := [.inl 0]) (M := mm V h) rfl rfl ?_
            first | exact JN15 | (simp only [if_pos c16]; exact JN15)
          ·
            simp only [if_neg c16] at JN15
            refine ok_goto (L := [some (.inr (.inr (.inl 63))), some (.inl v1), some (.inl v2), some (.inl v3)]) (S := [.inl 1]) (M := mm V h) rfl rfl ?_
            first | exact JN15 | (simp only [if_neg c16]; exact JN15)
      ·
        replace hf := (if_pos c7).symm.trans hf
        obtain rfl := Option.some.inj hf
        refine ok_ireturn (L := [some (.inr (.inr (.inl 63))), some (.inl v1), some (.inl v2), some (.inl v3)]) (M := mm V h) (x := (-1)) rfl rfl ?_
        exact ⟨rfl, rfl⟩
def f_Mo_hasPlants_10 (k1 : VV → Int → (Option (Int))) (k3 : VV → Int → Int → Int → (Option (Int))) (V : VV) (v1 : Int) (v3 : Int) (t0 : Int) : Option (Int) := k3 V v1 t0 (w32 (v3 + 1))
set_option maxRecDepth 20000 in
set_option maxHeartbeats 4000000 in
theorem s_Mo_hasPlants_10 {X : Xs} {d : Nat} {k1 : VV → Int → (Option (Int))} {k3 : VV → Int → Int → Int → (Option (Int))} {V : VV} {h : HP} {v1 : Int} {v3 : Int} {t0 : Int} {w2 : Int} {q : Int} (hf : f_Mo_hasPlants_10 k1 k3 V v1 v3 t0 = some q) (K1 : ∀ (v1 : Int) (z2 : Option AV) (z3 : Option AV), k1 V v1 = some q → Ok X (d + 1) 195 1 ([some (.inr (.inr (.inl 63))), some (.inl v1), z2, z3], [], mm V h) (fun M r => M = mm V h ∧ r = some (.inl q) ∧ (q = 0 ∨ q = 1))) (K3 : ∀ (v1 : Int) (v2 : Int) (v3 : Int), k3 V v1 v2 v3 = some q → Ok X (d + 1) 195 3 ([some (.inr (.inr (.inl 63))), some (.inl v1), some (.inl v2), some (.inl v3)], [], mm V h) (fun M r => M = mm V h ∧ r = some (.inl q) ∧ (q = 0 ∨ q = 1))) : Ok X (d + 1) 195 10 ([some (.inr (.inr (.inl 63))), some (.inl v1), some (.inl w2), some (.inl v3)], [.inl t0], mm V h) (fun M r => M = mm V h ∧ r = some (.inl q) ∧ (q = 0 ∨ q = 1)) := by
  let QQ : Mm → Option AV → Prop := fun M r => M = mm V h ∧ r = some (.inl q) ∧ (q = 0 ∨ q = 1)
  show Ok X (d + 1) 195 10 ([some (.inr (.inr (.inl 63))), some (.inl v1), some (.inl w2), some (.inl v3)], [.inl t0], mm V h) QQ
  refine ok_goto (L := [some (.inr (.inr (.inl 63))), some (.inl v1), some (.inl t0), some (.inl (w32 (v3 + 1)))]) (S := []) (M := mm V h) rfl rfl ?_
  exact K3 v1 t0 (w32 (v3 + 1)) hf
def f_Mo_hasPlants_8 (k1 : VV → Int → (Option (Int))) (k3 : VV → Int → Int → Int → (Option (Int))) (V : VV) (v1 : Int) (v3 : Int) : Option (Int) := f_Mo_hasPlants_10 k1 k3 V v1 v3 1
set_option maxRecDepth 20000 in
set_option maxHeartbeats 4000000 in
theorem s_Mo_hasPlants_8 {X : Xs} {d : Nat} {k1 : VV → Int → (Option (Int))} {k3 : VV → Int → Int → Int → (Option (Int))} {V : VV} {h : HP} {v1 : Int} {v3 : Int} {w2 : Int} {q : Int} (hf : f_Mo_hasPlants_8 k1 k3 V v1 v3 = some q) (K1 : ∀ (v1 : Int) (z2 : Option AV) (z3 : Option AV), k1 V v1 = some q → Ok X (d + 1) 195 1 ([some (.inr (.inr (.inl 63))), some (.inl v1), z2, z3], [], mm V h) (fun M r => M = mm V h ∧ r = some (.inl q) ∧ (q = 0 ∨ q = 1))) (K3 : ∀ (v1 : Int) (v2 : Int) (v3 : Int), k3 V v1 v2 v3 = some q → Ok X (d + 1) 195 3 ([some (.inr (.inr (.inl 63))), some (.inl v1), some (.inl v2), some (.inl v3)], [], mm V h) (fun M r => M = mm V h ∧ r = some (.inl q) ∧ (q = 0 ∨ q = 1))) : Ok X (d + 1) 195 8 ([some (.inr (.inr (.inl 63))), some (.inl v1), some (.inl w2), some (.inl v3)], [], mm V h) (fun M r => M = mm V h ∧ r = some (.inl q) ∧ (q = 0 ∨ q = 1)) := by
  let QQ : Mm → Option AV → Prop := fun M r => M = mm V h ∧ r = some (.inl q) ∧ (q = 0 ∨ q = 1)
  show Ok X (d + 1) 195 8 ([some (.inr (.inr (.inl 63))), some (.inl v1), some (.inl w2), some (.inl v3)], [], mm V h) QQ
  refine ok_goto (L := [some (.inr (.inr (.inl 63))), some (.inl v1), some (.inl w2), some (.inl v3)]) (S := [.inl 1]) (M := mm V h) rfl rfl ?_
  exact s_Mo_hasPlants_10 hf K1 K3
def f_Mo_hasPlants_3 (k1 : VV → Int → (Option (Int))) : Nat → VV → Int → Int → Int → (Option (Int))
  | 0, _, _, _, _ => none
  | n + 1, V, v1, v2, v3 => if v3 < (V 62 17) then if v2 = 0 then if 0 ≤ v3 ∧ v3 < (3 : Int) then if 0 ≤ v1 ∧ v1 < (3 : Int) then if (V 71 v3.toNat) = (V 66 v1.toNat) then f_Mo_hasPlants_8 k1 (f_Mo_hasPlants_3 k1 n) V v1 v3 else f_Mo_hasPlants_10 k1 (f_Mo_hasPlants_3 k1 n) V v1 v3 0 else none else none else f_Mo_hasPlants_8 k1 (f_Mo_hasPlants_3 k1 n) V v1 v3 else if v2 = 0 then some 0 else k1 V (w32 (v1 + 1))
set_option maxRecDepth 20000 in
set_option maxHeartbeats 4000000 in
theorem s_Mo_hasPlants_3_n {X : Xs} {d : Nat} {k1 : VV → Int → (Option (Int))} {V : VV} {h : HP} {q : Int} (K1 : ∀ (v1 : Int) (z2 : Option AV) (z3 : Option AV), k1 V v1 = some q → Ok X (d + 1) 195 1 ([some (.inr (.inr (.inl 63))), some (.inl v1), z2, z3], [], mm V h) (fun M r => M = mm V h ∧ r = some (.inl q) ∧ (q = 0 ∨ q = 1))) : ∀ (n : Nat) (v1 : Int) (v2 : Int) (v3 : Int), f_Mo_hasPlants_3 k1 n V v1 v2 v3 = some q → Ok X (d + 1) 195 3 ([some (.inr (.inr (.inl 63))), some (.inl v1), some (.inl v2), some (.inl v3)], [], mm V h) (fun M r => M = mm V h ∧ r = some (.inl q) ∧ (q = 0 ∨ q = 1)) := by
  intro n
  induction n with
  | zero => intro v1 v2 v3 hf; cases hf
  | succ n ih =>
    intro v1 v2 v3 hf
    let QQ : Mm → Option AV → Prop := fun M r => M = mm V h ∧ r = some (.inl q) ∧ (q = 0 ∨ q = 1)
    show Ok X (d + 1) 195 3 ([some (.inr (.inr (.inl 63))), some (.inl v1), some (.inl v2), some (.inl v3)], [], mm V h) QQ
    refine ok_ic_ge (x := v3) (u := V 62 17) (L := [some (.inr (.inr (.inl 63))), some (.inl v1), some (.inl v2), some (.inl v3)]) (S := []) (M := mm V h) rfl rfl (fun c1 => ?_) (fun c1 => ?_)
    ·
      replace hf := (if_neg (Int.not_lt.mpr c1)).symm.trans hf
      refine ok_if_ne (x := v2) (L := [some (.inr (.inr (.inl 63))), some (.inl v1), some (.inl v2), some (.inl v3)]) (S := []) (M := mm V h) rfl rfl (fun c2 => ?_) (fun c2 => ?_)
      ·
        replace hf := (if_neg c2).symm.trans hf
        refine ok_goto (L := [some (.inr (.inr (.inl 63))), some (.inl (w32 (v1 + 1))), some (.inl v2), some (.inl v3)]) (S := []) (M := mm V h) rfl rfl ?_
        exact K1 (w32 (v1 + 1)) (some (.inl v2)) (some (.inl v3)) hf
      ·
        replace hf := (if_pos c2).symm.trans hf
        obtain rfl := Option.some.inj hf
        have hz : (0 : Int) = 0 ∨ (0 : Int) = 1 := by
          first | exact Or.inl rfl | exact Or.inr rfl | assumption | (repeat' split) <;> first | exact Or.inl rfl | exact Or.inr rfl | assumption
        refine ok_zreturn (L := [some (.inr (.inr (.inl 63))), some (.inl v1), some (.inl v2), some (.inl v3)]) (M := mm V h) (x := 0) rfl rfl hz ?_
        exact ⟨rfl, rfl, hz⟩
    ·
      replace hf := (if_pos c1).symm.trans hf
      refine ok_if_ne (x := v2) (L := [some (.inr (.inr (.inl 63))), some (.inl v1), some (.inl v2), some (.inl v3)]) (S := []) (M := mm V h) rfl rfl (fun c3 => ?_) (fun c3 => ?_)
      ·
        replace hf := (if_neg c3).symm.trans hf
        exact s_Mo_hasPlants_8 hf K1 ih
      ·
        replace hf := (if_pos c3).symm.trans hf
        by_cases c4 : 0 ≤ v3 ∧ v3 < (3 : Int)
        case neg => replace hf := (if_neg c4).symm.trans hf; cases hf
        replace hf := (if_pos c4).symm.trans hf
        refine ok_iald (i := v3) (id := 71) (n := 3) (L := [some (.inr (.inr (.inl 63))), some (.inl v1), some (.inl v2), some (.inl v3)]) (S := []) (M := mm V h) rfl rfl rfl c4.1 c4.2 ?_
        by_cases c5 : 0 ≤ v1 ∧ v1 < (3 : Int)
        case neg => replace hf := (if_neg c5).symm.trans hf; cases hf
        replace hf := (if_pos c5).symm.trans hf
        refine ok_iald (i := v1) (id := 66) (n := 3) (L := [some (.inr (.inr (.inl 63))), some (.inl v1), some (.inl v2), some (.inl v3)]) (S := [.inl (V 71 v3.toNat)]) (M := mm V h) rfl rfl rfl c5.1 c5.2 ?_
        refine ok_ic_ne (x := V 71 v3.toNat) (u := V 66 v1.toNat) (L := [some (.inr (.inr (.inl 63))), some (.inl v1), some (.inl v2), some (.inl v3)]) (S := []) (M := mm V h) rfl rfl (fun c6 => ?_) (fun c6 => ?_)
        ·
          replace hf := (if_neg c6).symm.trans hf
          refine ok_thru (L := [some (.inr (.inr (.inl 63))), some (.inl v1), some (.inl v2), some (.inl v3)]) (S := [.inl 0]) (M := mm V h) rfl rfl ?_
          exact s_Mo_hasPlants_10 hf K1 ih
        ·
          replace hf := (if_pos c6).symm.trans hf
          exact s_Mo_hasPlants_8 hf K1 ih
theorem s_Mo_hasPlants_3 {X : Xs} {d : Nat} {k1 : VV → Int → (Option (Int))} {V : VV} {h : HP} {v1 : Int} {v2 : Int} {v3 : Int} {n : Nat} {q : Int} (hf : f_Mo_hasPlants_3 k1 n V v1 v2 v3 = some q) (K1 : ∀ (v1 : Int) (z2 : Option AV) (z3 : Option AV), k1 V v1 = some q → Ok X (d + 1) 195 1 ([some (.inr (.inr (.inl 63))), some (.inl v1), z2, z3], [], mm V h) (fun M r => M = mm V h ∧ r = some (.inl q) ∧ (q = 0 ∨ q = 1))) : Ok X (d + 1) 195 3 ([some (.inr (.inr (.inl 63))), some (.inl v1), some (.inl v2), some (.inl v3)], [], mm V h) (fun M r => M = mm V h ∧ r = some (.inl q) ∧ (q = 0 ∨ q = 1)) :=
  s_Mo_hasPlants_3_n K1 n v1 v2 v3 hf
def f_Mo_hasPlants_1 : Nat → VV → Int → (Option (Int))
  | 0, _, _ => none
  | n + 1, V, v1 => if v1 < (V 62 8) then f_Mo_hasPlants_3 (f_Mo_hasPlants_1 n) FU V v1 0 0 else some 1
set_option maxRecDepth 20000 in
set_option maxHeartbeats 4000000 in
theorem s_Mo_hasPlants_1_n {X : Xs} {d : Nat} {V : VV} {h : HP} {q : Int} : ∀ (n : Nat) (v1 : Int) (z2 : Option AV) (z3 : Option AV), f_Mo_hasPlants_1 n V v1 = some q → Ok X (d + 1) 195 1 ([some (.inr (.inr (.inl 63))), some (.inl v1), z2, z3], [], mm V h) (fun M r => M = mm V h ∧ r = some (.inl q) ∧ (q = 0 ∨ q = 1)) := by
  intro n
  induction n with
  | zero => intro v1 z2 z3 hf; cases hf
  | succ n ih =>
    intro v1 z2 z3 hf
    let QQ : Mm → Option AV → Prop := fun M r => M = mm V h ∧ r = some (.inl q) ∧ (q = 0 ∨ q = 1)
    show Ok X (d + 1) 195 1 ([some (.inr (.inr (.inl 63))), some (.inl v1), z2, z3], [], mm V h) QQ
    refine ok_ic_ge (x := v1) (u := V 62 8) (L := [some (.inr (.inr (.inl 63))), some (.inl v1), z2, z3]) (S := []) (M := mm V h) rfl rfl (fun c1 => ?_) (fun c1 => ?_)
    ·
      replace hf := (if_neg (Int.not_lt.mpr c1)).symm.trans hf
      obtain rfl := Option.some.inj hf
      have hz : (1 : Int) = 0 ∨ (1 : Int) = 1 := by
        first | exact Or.inl rfl | exact Or.inr rfl | assumption | (repeat' split) <;> first | exact Or.inl rfl | exact Or.inr rfl | assumption
      refine ok_zreturn (L := [some (.inr (.inr (.inl 63))), some (.inl v1), z2, z3]) (M := mm V h) (x := 1) rfl rfl hz ?_
      exact ⟨rfl, rfl, hz⟩
    ·
      replace hf := (if_pos c1).symm.trans hf
      refine ok_thru (L := [some (.inr (.inr (.inl 63))), some (.inl v1), some (.inl 0), some (.inl 0)]) (S := []) (M := mm V h) rfl rfl ?_
      exact s_Mo_hasPlants_3 hf ih
theorem s_Mo_hasPlants_1 {X : Xs} {d : Nat} {V : VV} {h : HP} {v1 : Int} {z2 : Option AV} {z3 : Option AV} {n : Nat} {q : Int} (hf : f_Mo_hasPlants_1 n V v1 = some q) : Ok X (d + 1) 195 1 ([some (.inr (.inr (.inl 63))), some (.inl v1), z2, z3], [], mm V h) (fun M r => M = mm V h ∧ r = some (.inl q) ∧ (q = 0 ∨ q = 1)) :=
  s_Mo_hasPlants_1_n n v1 z2 z3 hf
def f_Mo_hasPlants (V : VV)  : Option (Int) := f_Mo_hasPlants_1 FU V 0
set_option maxRecDepth 20000 in
set_option maxHeartbeats 4000000 in
theorem s_Mo_hasPlants {X : Xs} {d : Nat} {V : VV} {h : HP} {q : Int} (hf : f_Mo_hasPlants V = some q) : Ok X (d + 1) 195 0 ([some (.inr (.inr (.inl 63))), none, none, none], [], mm V h) (fun M r => M = mm V h ∧ r = some (.inl q) ∧ (q = 0 ∨ q = 1)) := by
  let QQ : Mm → Option AV → Prop := fun M r => M = mm V h ∧ r = some (.inl q) ∧ (q = 0 ∨ q = 1)
  show Ok X (d + 1) 195 0 ([some (.inr (.inr (.inl 63))), none, none, none], [], mm V h) QQ
  refine ok_thru (L := [some (.inr (.inr (.inl 63))), some (.inl 0), none, none]) (S := []) (M := mm V h) rfl rfl ?_
  exact s_Mo_hasPlants_1 hf
