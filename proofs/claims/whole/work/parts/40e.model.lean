/-! shallow functions of the model (printed by wip/tools/gen40.py) -/
def f_Mo_begin_10 : Nat → VV → Int → (Option (VV))
  | 0, _, _ => none
  | n + 1, V, v3 => if v3 < (V 62 13) then if 0 ≤ v3 ∧ v3 < (36 : Int) then if 0 ≤ v3 ∧ v3 < (36 : Int) then f_Mo_begin_10 n (up (up V 94 v3.toNat 0) 95 v3.toNat 0) (w32 (v3 + 1)) else none else none else some V
set_option maxRecDepth 20000 in
set_option maxHeartbeats 4000000 in
theorem s_Mo_begin_10_n {X : Xs} {d : Nat} {h : HP} {q : VV} : ∀ (n : Nat) (V : VV) (v3 : Int) (w1 : Int) (w2 : Int), f_Mo_begin_10 n V v3 = some q → Ok X (d + 1) 196 10 ([some (.inr (.inr (.inl 63))), some (.inl w1), some (.inl w2), some (.inl v3)], [], mm V h) (fun M r => M = mm q h ∧ r = none) := by
  intro n
  induction n with
  | zero => intro V v3 w1 w2 hf; cases hf
  | succ n ih =>
    intro V v3 w1 w2 hf
    let QQ : Mm → Option AV → Prop := fun M r => M = mm q h ∧ r = none
    show Ok X (d + 1) 196 10 ([some (.inr (.inr (.inl 63))), some (.inl w1), some (.inl w2), some (.inl v3)], [], mm V h) QQ
    refine ok_ic_ge (x := v3) (u := V 62 13) (L := [some (.inr (.inr (.inl 63))), some (.inl w1), some (.inl w2), some (.inl v3)]) (S := []) (M := mm V h) rfl rfl (fun c1 => ?_) (fun c1 => ?_)
    ·
      replace hf := (if_neg (Int.not_lt.mpr c1)).symm.trans hf
      obtain rfl := Option.some.inj hf
      refine ok_return (L := [some (.inr (.inr (.inl 63))), some (.inl w1), some (.inl w2), some (.inl v3)]) (M := mm V h) rfl rfl ?_
      exact ⟨rfl, rfl⟩
    ·
      replace hf := (if_pos c1).symm.trans hf
      by_cases c2 : 0 ≤ v3 ∧ v3 < (36 : Int)
      case neg => replace hf := (if_neg c2).symm.trans hf; cases hf
      replace hf := (if_pos c2).symm.trans hf
      refine ok_iast (i := v3) (v := 0) (id := 94) (n := 36) (L := [some (.inr (.inr (.inl 63))), some (.inl w1), some (.inl w2), some (.inl v3)]) (S := []) (M := mm V h) rfl rfl rfl c2.1 c2.2 ?_
      by_cases c3 : 0 ≤ v3 ∧ v3 < (36 : Int)
      case neg => replace hf := (if_neg c3).symm.trans hf; cases hf
      replace hf := (if_pos c3).symm.trans hf
      refine ok_iast (i := v3) (v := 0) (id := 95) (n := 36) (L := [some (.inr (.inr (.inl 63))), some (.inl w1), some (.inl w2), some (.inl v3)]) (S := []) (M := mm (up V 94 v3.toNat 0) h) rfl rfl rfl c3.1 c3.2 ?_
      refine ok_goto (L := [some (.inr (.inr (.inl 63))), some (.inl w1), some (.inl w2), some (.inl (w32 (v3 + 1)))]) (S := []) (M := mm (up (up V 94 v3.toNat 0) 95 v3.toNat 0) h) rfl rfl ?_
      exact ih (up (up V 94 v3.toNat 0) 95 v3.toNat 0) (w32 (v3 + 1)) w1 w2 hf
theorem s_Mo_begin_10 {X : Xs} {d : Nat} {h : HP} {V : VV} {v3 : Int} {w1 : Int} {w2 : Int} {n : Nat} {q : VV} (hf : f_Mo_begin_10 n V v3 = some q) : Ok X (d + 1) 196 10 ([some (.inr (.inr (.inl 63))), some (.inl w1), some (.inl w2), some (.inl v3)], [], mm V h) (fun M r => M = mm q h ∧ r = none) :=
  s_Mo_begin_10_n n V v3 w1 w2 hf
def f_Mo_begin_5 : Nat → VV → Int → (Option (VV))
  | 0, _, _ => none
  | n + 1, V, v3 => if v3 < (V 62 17) then if 0 ≤ v3 ∧ v3 < (3 : Int) then if 0 ≤ v3 ∧ v3 < (3 : Int) then f_Mo_begin_5 n (up (up V 91 v3.toNat 0) 92 v3.toNat (-1)) (w32 (v3 + 1)) else none else none else f_Mo_begin_10 FU V 0
set_option maxRecDepth 20000 in
set_option maxHeartbeats 4000000 in
theorem s_Mo_begin_5_n {X : Xs} {d : Nat} {h : HP} {q : VV} : ∀ (n : Nat) (V : VV) (v3 : Int) (w1 : Int) (w2 : Int), f_Mo_begin_5 n V v3 = some q → Ok X (d + 1) 196 5 ([some (.inr (.inr (.inl 63))), some (.inl w1), some (.inl w2), some (.inl v3)], [], mm V h) (fun M r => M = mm q h ∧ r = none) := by
  intro n
  induction n with
  | zero => intro V v3 w1 w2 hf; cases hf
  | succ n ih =>
    intro V v3 w1 w2 hf
    let QQ : Mm → Option AV → Prop := fun M r => M = mm q h ∧ r = none
    show Ok X (d + 1) 196 5 ([some (.inr (.inr (.inl 63))), some (.inl w1), some (.inl w2), some (.inl v3)], [], mm V h) QQ
    refine ok_ic_ge (x := v3) (u := V 62 17) (L := [some (.inr (.inr (.inl 63))), some (.inl w1), some (.inl w2), some (.inl v3)]) (S := []) (M := mm V h) rfl rfl (fun c1 => ?_) (fun c1 => ?_)
    ·
      replace hf := (if_neg (Int.not_lt.mpr c1)).symm.trans hf
      refine ok_thru (L := [some (.inr (.inr (.inl 63))), some (.inl w1), some (.inl w2), some (.inl 0)]) (S := []) (M := mm V h) rfl rfl ?_
      exact s_Mo_begin_10 hf
    ·
      replace hf := (if_pos c1).symm.trans hf
      by_cases c2 : 0 ≤ v3 ∧ v3 < (3 : Int)
      case neg => replace hf := (if_neg c2).symm.trans hf; cases hf
      replace hf := (if_pos c2).symm.trans hf
      refine ok_iast (i := v3) (v := 0) (id := 91) (n := 3) (L := [some (.inr (.inr (.inl 63))), some (.inl w1), some (.inl w2), some (.inl v3)]) (S := []) (M := mm V h) rfl rfl rfl c2.1 c2.2 ?_
      by_cases c3 : 0 ≤ v3 ∧ v3 < (3 : Int)
      case neg => replace hf := (if_neg c3).symm.trans hf; cases hf
      replace hf := (if_pos c3).symm.trans hf
      refine ok_iast (i := v3) (v := (-1)) (id := 92) (n := 3) (L := [some (.inr (.inr (.inl 63))), some (.inl w1), some (.inl w2), some (.inl v3)]) (S := []) (M := mm (up V 91 v3.toNat 0) h) rfl rfl rfl c3.1 c3.2 ?_
      refine ok_goto (L := [some (.inr (.inr (.inl 63))), some (.inl w1), some (.inl w2), some (.inl (w32 (v3 + 1)))]) (S := []) (M := mm (up (up V 91 v3.toNat 0) 92 v3.toNat (-1)) h) rfl rfl ?_
      exact ih (up (up V 91 v3.toNat 0) 92 v3.toNat (-1)) (w32 (v3 + 1)) w1 w2 hf
theorem s_Mo_begin_5 {X : Xs} {d : Nat} {h : HP} {V : VV} {v3 : Int} {w1 : Int} {w2 : Int} {n : Nat} {q : VV} (hf : f_Mo_begin_5 n V v3 = some q) : Ok X (d + 1) 196 5 ([some (.inr (.inr (.inl 63))), some (.inl w1), some (.inl w2), some (.inl v3)], [], mm V h) (fun M r => M = mm q h ∧ r = none) :=
  s_Mo_begin_5_n n V v3 w1 w2 hf
def f_Mo_begin_1 : Nat → VV → Int → (Option (VV))
  | 0, _, _ => none
  | n + 1, V, v3 => if v3 < (V 62 22) then if 0 ≤ v3 ∧ v3 < (16 : Int) then f_Mo_begin_1 n (up V 86 v3.toNat 0) (w32 (v3 + 1)) else none else f_Mo_begin_5 FU V 0
set_option maxRecDepth 20000 in
set_option maxHeartbeats 4000000 in
theorem s_Mo_begin_1_n {X : Xs} {d : Nat} {h : HP} {q : VV} : ∀ (n : Nat) (V : VV) (v3 : Int) (w1 : Int) (w2 : Int), f_Mo_begin_1 n V v3 = some q → Ok X (d + 1) 196 1 ([some (.inr (.inr (.inl 63))), some (.inl w1), some (.inl w2), some (.inl v3)], [], mm V h) (fun M r => M = mm q h ∧ r = none) := by
  intro n
  induction n with
  | zero => intro V v3 w1 w2 hf; cases hf
  | succ n ih =>
    intro V v3 w1 w2 hf
    let QQ : Mm → Option AV → Prop := fun M r => M = mm q h ∧ r = none
    show Ok X (d + 1) 196 1 ([some (.inr (.inr (.inl 63))), some (.inl w1), some (.inl w2), some (.inl v3)], [], mm V h) QQ
    refine ok_ic_ge (x := v3) (u := V 62 22) (L := [some (.inr (.inr (.inl 63))), some (.inl w1), some (.inl w2), some (.inl v3)]) (S := []) (M := mm V h) rfl rfl (fun c1 => ?_) (fun c1 => ?_)
    ·
      replace hf := (if_neg (Int.not_lt.mpr c1)).symm.trans hf
      refine ok_thru (L := [some (.inr (.inr (.inl 63))), some (.inl w1), some (.inl w2), some (.inl 0)]) (S := []) (M := mm V h) rfl rfl ?_
      exact s_Mo_begin_5 hf
    ·
      replace hf := (if_pos c1).symm.trans hf
      by_cases c2 : 0 ≤ v3 ∧ v3 < (16 : Int)
      case neg => replace hf := (if_neg c2).symm.trans hf; cases hf
      replace hf := (if_pos c2).symm.trans hf
      refine ok_iast (i := v3) (v := 0) (id := 86) (n := 16) (L := [some (.inr (.inr (.inl 63))), some (.inl w1), some (.inl w2), some (.inl v3)]) (S := []) (M := mm V h) rfl rfl rfl c2.1 c2.2 ?_
      refine ok_goto (L := [some (.inr (.inr (.inl 63))), some (.inl w1), some (.inl w2), some (.inl (w32 (v3 + 1)))]) (S := []) (M := mm (up V 86 v3.toNat 0) h) rfl rfl ?_
      exact ih (up V 86 v3.toNat 0) (w32 (v3 + 1)) w1 w2 hf
theorem s_Mo_begin_1 {X : Xs} {d : Nat} {h : HP} {V : VV} {v3 : Int} {w1 : Int} {w2 : Int} {n : Nat} {q : VV} (hf : f_Mo_begin_1 n V v3 = some q) : Ok X (d + 1) 196 1 ([some (.inr (.inr (.inl 63))), some (.inl w1), some (.inl w2), some (.inl v3)], [], mm V h) (fun M r => M = mm q h ∧ r = none) :=
  s_Mo_begin_1_n n V v3 w1 w2 hf
def f_Mo_begin (V : VV) (v1 : Int) (v2 : Int) : Option (VV) := f_Mo_begin_1 FU (up (up (up (up (up (up (up (up (up (up (up (up V 62 91 v1) 62 92 v2) 62 63 0) 62 72 0) 62 73 0) 62 74 0) 62 75 0) 62 76 0) 62 77 (-1)) 62 78 (-1)) 62 79 0) 62 80 0) 0
set_option maxRecDepth 20000 in
set_option maxHeartbeats 4000000 in
theorem s_Mo_begin {X : Xs} {d : Nat} {V : VV} {h : HP} {v1 : Int} {v2 : Int} {q : VV} (hf : f_Mo_begin V v1 v2 = some q) : Ok X (d + 1) 196 0 ([some (.inr (.inr (.inl 63))), some (.inl v1), some (.inl v2), none], [], mm V h) (fun M r => M = mm q h ∧ r = none) := by
  let QQ : Mm → Option AV → Prop := fun M r => M = mm q h ∧ r = none
  show Ok X (d + 1) 196 0 ([some (.inr (.inr (.inl 63))), some (.inl v1), some (.inl v2), none], [], mm V h) QQ
  refine ok_thru (L := [some (.inr (.inr (.inl 63))), some (.inl v1), some (.inl v2), some (.inl 0)]) (S := []) (M := mm (up (up (up (up (up (up (up (up (up (up (up (up V 62 91 v1) 62 92 v2) 62 63 0) 62 72 0) 62 73 0) 62 74 0) 62 75 0) 62 76 0) 62 77 (-1)) 62 78 (-1)) 62 79 0) 62 80 0) h) rfl rfl ?_
  exact s_Mo_begin_1 hf
def f_Mo_comeIn_16 (k1 : VV → Int → Int → (Option (VV))) (V : VV) (v1 : Int) (v2 : Int) : Option (VV) := k1 V v1 (w32 (v2 + 1))
set_option maxRecDepth 20000 in
set_option maxHeartbeats 4000000 in
theorem s_Mo_comeIn_16 {X : Xs} {d : Nat} {k1 : VV → Int → Int → (Option (VV))} {V : VV} {h : HP} {v1 : Int} {v2 : Int} {q : VV} (hf : f_Mo_comeIn_16 k1 V v1 v2 = some q) (K1 : ∀ (V : VV) (v1 : Int) (v2 : Int), k1 V v1 v2 = some q → Ok X (d + 1) 197 1 ([some (.inr (.inr (.inl 63))), some (.inl v1), some (.inl v2)], [], mm V h) (fun M r => M = mm q h ∧ r = none)) : Ok X (d + 1) 197 16 ([some (.inr (.inr (.inl 63))), some (.inl v1), some (.inl v2)], [], mm V h) (fun M r => M = mm q h ∧ r = none) := by
  let QQ : Mm → Option AV → Prop := fun M r => M = mm q h ∧ r = none
  show Ok X (d + 1) 197 16 ([some (.inr (.inr (.inl 63))), some (.inl v1), some (.inl v2)], [], mm V h) QQ
  refine ok_goto (L := [some (.inr (.inr (.inl 63))), some (.inl v1), some (.inl (w32 (v2 + 1)))]) (S := []) (M := mm V h) rfl rfl ?_
  exact K1 V v1 (w32 (v2 + 1)) hf
def f_Mo_comeIn_6 (k1 : VV → Int → Int → (Option (VV))) (V : VV) (v1 : Int) (v2 : Int) : Option (VV) := if 0 ≤ v2 ∧ v2 < (16 : Int) then if (V 87 v2.toNat) = v1 then if 0 ≤ v2 ∧ v2 < (16 : Int) then if 0 ≤ v2 ∧ v2 < (16 : Int) then if 0 ≤ v2 ∧ v2 < (16 : Int) then f_Mo_comeIn_16 k1 (up (up (up V 86 v2.toNat (if (V 86 v2.toNat) = 1 then 2 else 5 : Int)) 88 v2.toNat (V 62 63)) 62 63 (w32 ((V 62 63) + 1))) v1 v2 else none else none else none else f_Mo_comeIn_16 k1 V v1 v2 else none
set_option maxRecDepth 20000 in
set_option maxHeartbeats 4000000 in
theorem s_Mo_comeIn_6 {X : Xs} {d : Nat} {k1 : VV → Int → Int → (Option (VV))} {V : VV} {h : HP} {v1 : Int} {v2 : Int} {q : VV} (hf : f_Mo_comeIn_6 k1 V v1 v2 = some q) (K1 : ∀ (V : VV) (v1 : Int) (v2 : Int), k1 V v1 v2 = some q → Ok X (d + 1) 197 1 ([some (.inr (.inr (.inl 63))), some (.inl v1), some (.inl v2)], [], mm V h) (fun M r => M = mm q h ∧ r = none)) : Ok X (d + 1) 197 6 ([some (.inr (.inr (.inl 63))), some (.inl v1), some (.inl v2)], [], mm V h) (fun M r => M = mm q h ∧ r = none) := by
  let QQ : Mm → Option AV → Prop := fun M r => M = mm q h ∧ r = none
  show Ok X (d + 1) 197 6 ([some (.inr (.inr (.inl 63))), some (.inl v1), some (.inl v2)], [], mm V h) QQ
  by_cases c1 : 0 ≤ v2 ∧ v2 < (16 : Int)
  case neg => replace hf := (if_neg c1).symm.trans hf; cases hf
  replace hf := (if_pos c1).symm.trans hf
  refine ok_iald (i := v2) (id := 87) (n := 16) (L := [some (.inr (.inr (.inl 63))), some (.inl v1), some (.inl v2)]) (S := []) (M := mm V h) rfl rfl rfl c1.1 c1.2 ?_
  refine ok_ic_eq (x := V 87 v2.toNat) (u := v1) (L := [some (.inr (.inr (.inl 63))), some (.inl v1), some (.inl v2)]) (S := []) (M := mm V h) rfl rfl (fun c2 => ?_) (fun c2 => ?_)
  ·
    replace hf := (if_pos c2).symm.trans hf
    by_cases c3 : 0 ≤ v2 ∧ v2 < (16 : Int)
    case neg => replace hf := (if_neg c3).symm.trans hf; cases hf
    replace hf := (if_pos c3).symm.trans hf
    refine ok_iald (i := v2) (id := 86) (n := 16) (L := [some (.inr (.inr (.inl 63))), some (.inl v1), some (.inl v2)]) (S := [.inl v2, .inr (.inr (.inl 87))]) (M := mm V h) rfl rfl rfl c3.1 c3.2 ?_
    have JN4 : Ok X (d + 1) 197 13 ([some (.inr (.inr (.inl 63))), some (.inl v1), some (.inl v2)], [.inl (if (V 86 v2.toNat) = 1 then 2 else 5 : Int), .inl v2, .inr (.inr (.inl 87))], mm V h) QQ := by
      by_cases c5 : 0 ≤ v2 ∧ v2 < (16 : Int)
      case neg => replace hf := (if_neg c5).symm.trans hf; cases hf
      replace hf := (if_pos c5).symm.trans hf
      refine ok_iast (i := v2) (v := (if (V 86 v2.toNat) = 1 then 2 else 5 : Int)) (id := 86) (n := 16) (L := [some (.inr (.inr (.inl 63))), some (.inl v1), some (.inl v2)]) (S := []) (M := mm V h) rfl rfl rfl c5.1 c5.2 ?_
      by_cases c6 : 0 ≤ v2 ∧ v2 < (16 : Int)
      case neg => replace hf := (if_neg c6).symm.trans hf; cases hf
      replace hf := (if_pos c6).symm.trans hf
      refine ok_iast (i := v2) (v := V 62 63) (id := 88) (n := 16) (L := [some (.inr (.inr (.inl 63))), some (.inl v1), some (.inl v2)]) (S := []) (M := mm (up V 86 v2.toNat (if (V 86 v2.toNat) = 1 then 2 else 5 : Int)) h) rfl rfl rfl c6.1 c6.2 ?_
      refine ok_thru (L := [some (.inr (.inr (.inl 63))), some (.inl v1), some (.inl v2)]) (S := []) (M := mm (up (up (up V 86 v2.toNat (if (V 86 v2.toNat) = 1 then 2 else 5 : Int)) 88 v2.toNat (V 62 63)) 62 63 (w32 ((V 62 63) + 1))) h) rfl rfl ?_
      exact s_Mo_comeIn_16 hf K1
    clear hf
    refine ok_ic_ne (x := V 86 v2.toNat) (u := 1) (L := [some (.inr (.inr (.inl 63))), some (.inl v1), some (.inl v2)]) (S := [.inl v2, .inr (.inr (.inl 87))]) (M := mm V h) rfl rfl (fun c7 => ?_) (fun c7 => ?_)
    ·
      simp only [if_neg c7] at JN4
      refine ok_thru (L := [some (.inr (.inr (.inl 63))), some (.inl v1), some (.inl v2)]) (S := [.inl 5, .inl v2, .inr (.inr (.inl 87))]) (M := mm V h) rfl rfl ?_
      first | exact JN4 | (simp only [if_neg c7]; exact JN4)
    ·
      simp only [if_pos c7] at JN4
      refine ok_goto (L := [some (.inr (.inr (.inl 63))), some (.inl v1), some (.inl v2)]) (S := [.inl 2, .inl v2, .inr (.inr (.inl 87))]) (M := mm V h) rfl rfl ?_
      first | exact JN4 | (simp only [if_pos c7]; exact JN4)
  ·
    replace hf := (if_neg c2).symm.trans hf
    refine ok_goto (L := [some (.inr (.inr (.inl 63))), some (.inl v1), some (.inl v2)]) (S := []) (M := mm V h) rfl rfl ?_
    exact s_Mo_comeIn_16 hf K1
def f_Mo_comeIn_1 : Nat → VV → Int → Int → (Option (VV))
  | 0, _, _, _ => none
  | n + 1, V, v1, v2 => if v2 < (V 62 22) then if 0 ≤ v2 ∧ v2 < (16 : Int) then if (V 86 v2.toNat) = 1 then f_Mo_comeIn_6 (f_Mo_comeIn_1 n) V v1 v2 else if 0 ≤ v2 ∧ v2 < (16 : Int) then if (V 86 v2.toNat) = 4 then f_Mo_comeIn_6 (f_Mo_comeIn_1 n) V v1 v2 else f_Mo_comeIn_16 (f_Mo_comeIn_1 n) V v1 v2 else none else none else some V
set_option maxRecDepth 20000 in
set_option maxHeartbeats 4000000 in
theorem s_Mo_comeIn_1_n {X : Xs} {d : Nat} {h : HP} {q : VV} : ∀ (n : Nat) (V : VV) (v1 : Int) (v2 : Int), f_Mo_comeIn_1 n V v1 v2 = some q → Ok X (d + 1) 197 1 ([some (.inr (.inr (.inl 63))), some (.inl v1), some (.inl v2)], [], mm V h) (fun M r => M = mm q h ∧ r = none) := by
  intro n
  induction n with
  | zero => intro V v1 v2 hf; cases hf
  | succ n ih =>
    intro V v1 v2 hf
    let QQ : Mm → Option AV → Prop := fun M r => M = mm q h ∧ r = none
    show Ok X (d + 1) 197 1 ([some (.inr (.inr (.inl 63))), some (.inl v1), some (.inl v2)], [], mm V h) QQ
    refine ok_ic_ge (x := v2) (u := V 62 22) (L := [some (.inr (.inr (.inl 63))), some (.inl v1), some (.inl v2)]) (S := []) (M := mm V h) rfl rfl (fun c1 => ?_) (fun c1 => ?_)
    ·
      replace hf := (if_neg (Int.not_lt.mpr c1)).symm.trans hf
      obtain rfl := Option.some.inj hf
      refine ok_return (L := [some (.inr (.inr (.inl 63))), some (.inl v1), some (.inl v2)]) (M := mm V h) rfl rfl ?_
      exact ⟨rfl, rfl⟩
    ·
      replace hf := (if_pos c1).symm.trans hf
      by_cases c2 : 0 ≤ v2 ∧ v2 < (16 : Int)
      case neg => replace hf := (if_neg c2).symm.trans hf; cases hf
      replace hf := (if_pos c2).symm.trans hf
      refine ok_iald (i := v2) (id := 86) (n := 16) (L := [some (.inr (.inr (.inl 63))), some (.inl v1), some (.inl v2)]) (S := []) (M := mm V h) rfl rfl rfl c2.1 c2.2 ?_
      refine ok_ic_eq (x := V 86 v2.toNat) (u := 1) (L := [some (.inr (.inr (.inl 63))), some (.inl v1), some (.inl v2)]) (S := []) (M := mm V h) rfl rfl (fun c3 => ?_) (fun c3 => ?_)
      ·
        replace hf := (if_pos c3).symm.trans hf
        exact s_Mo_comeIn_6 hf ih
      ·
        replace hf := (if_neg c3).symm.trans hf
        by_cases c4 : 0 ≤ v2 ∧ v2 < (16 : Int)
        case neg => replace hf := (if_neg c4).symm.trans hf; cases hf
        replace hf := (if_pos c4).symm.trans hf
        refine ok_iald (i := v2) (id := 86) (n := 16) (L := [some (.inr (.inr (.inl 63))), some (.inl v1), some (.inl v2)]) (S := []) (M := mm V h) rfl rfl rfl c4.1 c4.2 ?_
        refine ok_ic_ne (x := V 86 v2.toNat) (u := 4) (L := [some (.inr (.inr (.inl 63))), some (.inl v1), some (.inl v2)]) (S := []) (M := mm V h) rfl rfl (fun c5 => ?_) (fun c5 => ?_)
        ·
          replace hf := (if_neg c5).symm.trans hf
          exact s_Mo_comeIn_16 hf ih
        ·
          replace hf := (if_pos c5).symm.trans hf
          exact s_Mo_comeIn_6 hf ih
theorem s_Mo_comeIn_1 {X : Xs} {d : Nat} {h : HP} {V : VV} {v1 : Int} {v2 : Int} {n : Nat} {q : VV} (hf : f_Mo_comeIn_1 n V v1 v2 = some q) : Ok X (d + 1) 197 1 ([some (.inr (.inr (.inl 63))), some (.inl v1), some (.inl v2)], [], mm V h) (fun M r => M = mm q h ∧ r = none) :=
  s_Mo_comeIn_1_n n V v1 v2 hf
def f_Mo_comeIn (V : VV) (v1 : Int) : Option (VV) := f_Mo_comeIn_1 FU V v1 0
set_option maxRecDepth 20000 in
set_option maxHeartbeats 4000000 in
theorem s_Mo_comeIn {X : Xs} {d : Nat} {V : VV} {h : HP} {v1 : Int} {q : VV} (hf : f_Mo_comeIn V v1 = some q) : Ok X (d + 1) 197 0 ([some (.inr (.inr (.inl 63))), some (.inl v1), none], [], mm V h) (fun M r => M = mm q h ∧ r = none) := by
  let QQ : Mm → Option AV → Prop := fun M r => M = mm q h ∧ r = none
  show Ok X (d + 1) 197 0 ([some (.inr (.inr (.inl 63))), some (.inl v1), none], [], mm V h) QQ
  refine ok_thru (L := [some (.inr (.inr (.inl 63))), some (.inl v1), some (.inl 0)]) (S := []) (M := mm V h) rfl rfl ?_
  exact s_Mo_comeIn_1 hf
def f_Mo_firstAtPlant_11 (k1 : VV → Int → Int → Int → (Option (Int))) (V : VV) (v1 : Int) (v2 : Int) (v3 : Int) : Option (Int) := k1 V v1 v2 (w32 (v3 + 1))
set_option maxRecDepth 20000 in
set_option maxHeartbeats 4000000 in
theorem s_Mo_firstAtPlant_11 {X : Xs} {d : Nat} {k1 : VV → Int → Int → Int → (Option (Int))} {V : VV} {h : HP} {v1 : Int} {v2 : Int} {v3 : Int} {q : Int} (hf : f_Mo_firstAtPlant_11 k1 V v1 v2 v3 = some q) (K1 : ∀ (v1 : Int) (v2 : Int) (v3 : Int), k1 V v1 v2 v3 = some q → Ok X (d + 1) 199 1 ([some (.inr (.inr (.inl 63))), some (.inl v1), some (.inl v2), some (.inl v3)], [], mm V h) (fun M r => M = mm V h ∧ r = some (.inl q))) : Ok X (d + 1) 199 11 ([some (.inr (.inr (.inl 63))), some (.inl v1), some (.inl v2), some (.inl v3)], [], mm V h) (fun M r => M = mm V h ∧ r = some (.inl q)) := by
  let QQ : Mm → Option AV → Prop := fun M r => M = mm V h ∧ r = some (.inl q)
  show Ok X (d + 1) 199 11 ([some (.inr (.inr (.inl 63))), some (.inl v1), some (.inl v2), some (.inl v3)], [], mm V h) QQ
  refine ok_goto (L := [some (.inr (.inr (.inl 63))), some (.inl v1), some (.inl v2), some (.inl (w32 (v3 + 1)))]) (S := []) (M := mm V h) rfl rfl ?_
  exact K1 v1 v2 (w32 (v3 + 1)) hf
def f_Mo_firstAtPlant_10 (k1 : VV → Int → Int → Int → (Option (Int))) (V : VV) (v1 : Int) (v3 : Int) : Option (Int) := f_Mo_firstAtPlant_11 k1 V v1 v3 v3
set_option maxRecDepth 20000 in
set_option maxHeartbeats 4000000 in
theorem s_Mo_firstAtPlant_10 {X : Xs} {d : Nat} {k1 : VV → Int → Int → Int → (Option (Int))} {V : VV} {h : HP} {v1 : Int} {v3 : Int} {w2 : Int} {q : Int} (hf : f_Mo_firstAtPlant_10 k1 V v1 v3 = some q) (K1 : ∀ (v1 : Int) (v2 : Int) (v3 : Int), k1 V v1 v2 v3 = some q → Ok X (d + 1) 199 1 ([some (.inr (.inr (.inl 63))), some (.inl v1), some (.inl v2), some (.inl v3)], [], mm V h) (fun M r => M = mm V h ∧ r = some (.inl q))) : Ok X (d + 1) 199 10 ([some (.inr (.inr (.inl 63))), some (.inl v1), some (.inl w2), some (.inl v3)], [], mm V h) (fun M r => M = mm V h ∧ r = some (.inl q)) := by
  let QQ : Mm → Option AV → Prop := fun M r => M = mm V h ∧ r = some (.inl q)
  show Ok X (d + 1) 199 10 ([some (.inr (.inr (.inl 63))), some (.inl v1), some (.inl w2), some (.inl v3)], [], mm V h) QQ
  refine ok_thru (L := [some (.inr (.inr (.inl 63))), some (.inl v1), some (.inl v3), some (.inl v3)]) (S := []) (M := mm V h) rfl rfl ?_
  exact s_Mo_firstAtPlant_11 hf K1
def f_Mo_firstAtPlant_1 : Nat → VV → Int → Int → Int → (Option (Int))
  | 0, _, _, _, _ => none
  | n + 1, V, v1, v2, v3 => if v3 < (V 62 22) then if 0 ≤ v3 ∧ v3 < (16 : Int) then if (V 86 v3.toNat) = 2 then if 0 ≤ v3 ∧ v3 < (16 : Int) then if (V 89 v3.toNat) = v1 then if v2 < 0 then f_Mo_firstAtPlant_10 (f_Mo_firstAtPlant_1 n) V v1 v3 else if 0 ≤ v3 ∧ v3 < (16 : Int) then if 0 ≤ v2 ∧ v2 < (16 : Int) then if (V 88 v3.toNat) < (V 88 v2.toNat) then f_Mo_firstAtPlant_10 (f_Mo_firstAtPlant_1 n) V v1 v3 else f_Mo_firstAtPlant_11 (f_Mo_firstAtPlant_1 n) V v1 v2 v3 else none else none else f_Mo_firstAtPlant_11 (f_Mo_firstAtPlant_1 n) V v1 v2 v3 else none else f_Mo_firstAtPlant_11 (f_Mo_firstAtPlant_1 n) V v1 v2 v3 else none else some v2
set_option maxRecDepth 20000 in
set_option maxHeartbeats 4000000 in
theorem s_Mo_firstAtPlant_1_n {X : Xs} {d : Nat} {V : VV} {h : HP} {q : Int} : ∀ (n : Nat) (v1 : Int) (v2 : Int) (v3 : Int), f_Mo_firstAtPlant_1 n V v1 v2 v3 = some q → Ok X (d + 1) 199 1 ([some (.inr (.inr (.inl 63))), some (.inl v1), some (.inl v2), some (.inl v3)], [], mm V h) (fun M r => M = mm V h ∧ r = some (.inl q)) := by
  intro n
  induction n with
  | zero => intro v1 v2 v3 hf; cases hf
  | succ n ih =>
    intro v1 v2 v3 hf
    let QQ : Mm → Option AV → Prop := fun M r => M = mm V h ∧ r = some (.inl q)
    show Ok X (d + 1) 199 1 ([some (.inr (.inr (.inl 63))), some (.inl v1), some (.inl v2), some (.inl v3)], [], mm V h) QQ
    refine ok_ic_ge (x := v3) (u := V 62 22) (L := [some (.inr (.inr (.inl 63))), some (.inl v1), some (.inl v2), some (.inl v3)]) (S := []) (M := mm V h) rfl rfl (fun c1 => ?_) (fun c1 => ?_)
    ·
      replace hf := (if_neg (Int.not_lt.mpr c1)).symm.trans hf
      obtain rfl := Option.some.inj hf
      refine ok_ireturn (L := [some (.inr (.inr (.inl 63))), some (.inl v1), some (.inl v2), some (.inl v3)]) (M := mm V h) (x := v2) rfl rfl ?_
      exact ⟨rfl, rfl⟩
    ·
      replace hf := (if_pos c1).symm.trans hf
      by_cases c2 : 0 ≤ v3 ∧ v3 < (16 : Int)
      case neg => replace hf := (if_neg c2).symm.trans hf; cases hf
      replace hf := (if_pos c2).symm.trans hf
      refine ok_iald (i := v3) (id := 86) (n := 16) (L := [some (.inr (.inr (.inl 63))), some (.inl v1), some (.inl v2), some (.inl v3)]) (S := []) (M := mm V h) rfl rfl rfl c2.1 c2.2 ?_
      refine ok_ic_ne (x := V 86 v3.toNat) (u := 2) (L := [some (.inr (.inr (.inl 63))), some (.inl v1), some (.inl v2), some (.inl v3)]) (S := []) (M := mm V h) rfl rfl (fun c3 => ?_) (fun c3 => ?_)
      ·
        replace hf := (if_neg c3).symm.trans hf
        exact s_Mo_firstAtPlant_11 hf ih
      ·
        replace hf := (if_pos c3).symm.trans hf
        by_cases c4 : 0 ≤ v3 ∧ v3 < (16 : Int)
        case neg => replace hf := (if_neg c4).symm.trans hf; cases hf
        replace hf := (if_pos c4).symm.trans hf
        refine ok_iald (i := v3) (id := 89) (n := 16) (L := [some (.inr (.inr (.inl 63))), some (.inl v1), some (.inl v2), some (.inl v3)]) (S := []) (M := mm V h) rfl rfl rfl c4.1 c4.2 ?_
        refine ok_ic_ne (x := V 89 v3.toNat) (u := v1) (L := [some (.inr (.inr (.inl 63))), some (.inl v1), some (.inl v2), some (.inl v3)]) (S := []) (M := mm V h) rfl rfl (fun c5 => ?_) (fun c5 => ?_)
        ·
          replace hf := (if_neg c5).symm.trans hf
          exact s_Mo_firstAtPlant_11 hf ih
        ·
          replace hf := (if_pos c5).symm.trans hf
          refine ok_if_lt (x := v2) (L := [some (.inr (.inr (.inl 63))), some (.inl v1), some (.inl v2), some (.inl v3)]) (S := []) (M := mm V h) rfl rfl (fun c6 => ?_) (fun c6 => ?_)
          ·
            replace hf := (if_pos c6).symm.trans hf
            exact s_Mo_firstAtPlant_10 hf ih
          ·
            replace hf := (if_neg (Int.not_lt.mpr c6)).symm.trans hf
            by_cases c7 : 0 ≤ v3 ∧ v3 < (16 : Int)
            case neg => replace hf := (if_neg c7).symm.trans hf; cases hf
            replace hf := (if_pos c7).symm.trans hf
            refine ok_iald (i := v3) (id := 88) (n := 16) (L := [some (.inr (.inr (.inl 63))), some (.inl v1), some (.inl v2), some (.inl v3)]) (S := []) (M := mm V h) rfl rfl rfl c7.1 c7.2 ?_
            by_cases c8 : 0 ≤ v2 ∧ v2 < (16 : Int)
            case neg => replace hf := (if_neg c8).symm.trans hf; cases hf
            replace hf := (if_pos c8).symm.trans hf
            refine ok_iald (i := v2) (id := 88) (n := 16) (L := [some (.inr (.inr (.inl 63))), some (.inl v1), some (.inl v2), some (.inl v3)]) (S := [.inl (V 88 v3.toNat)]) (M := mm V h) rfl rfl rfl c8.1 c8.2 ?_
            refine ok_ic_ge (x := V 88 v3.toNat) (u := V 88 v2.toNat) (L := [some (.inr (.inr (.inl 63))), some (.inl v1), some (.inl v2), some (.inl v3)]) (S := []) (M := mm V h) rfl rfl (fun c9 => ?_) (fun c9 => ?_)
            ·
              replace hf := (if_neg (Int.not_lt.mpr c9)).symm.trans hf
              exact s_Mo_firstAtPlant_11 hf ih
            ·
              replace hf := (if_pos c9).symm.trans hf
              exact s_Mo_firstAtPlant_10 hf ih
theorem s_Mo_firstAtPlant_1 {X : Xs} {d : Nat} {V : VV} {h : HP} {v1 : Int} {v2 : Int} {v3 : Int} {n : Nat} {q : Int} (hf : f_Mo_firstAtPlant_1 n V v1 v2 v3 = some q) : Ok X (d + 1) 199 1 ([some (.inr (.inr (.inl 63))), some (.inl v1), some (.inl v2), some (.inl v3)], [], mm V h) (fun M r => M = mm V h ∧ r = some (.inl q)) :=
  s_Mo_firstAtPlant_1_n n v1 v2 v3 hf
def f_Mo_firstAtPlant (V : VV) (v1 : Int) : Option (Int) := f_Mo_firstAtPlant_1 FU V v1 (-1) 0
set_option maxRecDepth 20000 in
set_option maxHeartbeats 4000000 in
theorem s_Mo_firstAtPlant {X : Xs} {d : Nat} {V : VV} {h : HP} {v1 : Int} {q : Int} (hf : f_Mo_firstAtPlant V v1 = some q) : Ok X (d + 1) 199 0 ([some (.inr (.inr (.inl 63))), some (.inl v1), none, none], [], mm V h) (fun M r => M = mm V h ∧ r = some (.inl q)) := by
  let QQ : Mm → Option AV → Prop := fun M r => M = mm V h ∧ r = some (.inl q)
  show Ok X (d + 1) 199 0 ([some (.inr (.inr (.inl 63))), some (.inl v1), none, none], [], mm V h) QQ
  refine ok_thru (L := [some (.inr (.inr (.inl 63))), some (.inl v1), some (.inl (-1)), some (.inl 0)]) (S := []) (M := mm V h) rfl rfl ?_
  exact s_Mo_firstAtPlant_1 hf
def f_Mo_plantsGo_33 (k1 : VV → Int → Int → (Option (VV))) (V : VV) (v1 : Int) (v2 : Int) : Option (VV) := k1 V v1 (w32 (v2 + 1))
set_option maxRecDepth 20000 in
set_option maxHeartbeats 4000000 in
theorem s_Mo_plantsGo_33 {X : Xs} {d : Nat} {k1 : VV → Int → Int → (Option (VV))} {V : VV} {h : HP} {v1 : Int} {v2 : Int} {w3 : Int} {q : VV} (hf : f_Mo_plantsGo_33 k1 V v1 v2 = some q) (K1 : ∀ (V : VV) (v1 : Int) (v2 : Int) (z3 : Option AV), k1 V v1 v2 = some q → Ok X (d + 3) 198 1 ([some (.inr (.inr (.inl 63))), some (.inl v1), some (.inl v2), z3], [], mm V h) (fun M r => M = mm q h ∧ r = none)) : Ok X (d + 3) 198 33 ([some (.inr (.inr (.inl 63))), some (.inl v1), some (.inl v2), some (.inl w3)], [], mm V h) (fun M r => M = mm q h ∧ r = none) := by
  let QQ : Mm → Option AV → Prop := fun M r => M = mm q h ∧ r = none
  show Ok X (d + 3) 198 33 ([some (.inr (.inr (.inl 63))), some (.inl v1), some (.inl v2), some (.inl w3)], [], mm V h) QQ
  refine ok_goto (L := [some (.inr (.inr (.inl 63))), some (.inl v1), some (.inl (w32 (v2 + 1))), some (.inl w3)]) (S := []) (M := mm V h) rfl rfl ?_
  exact K1 V v1 (w32 (v2 + 1)) (some (.inl w3)) hf
def f_Mo_plantsGo_12 (k1 : VV → Int → Int → (Option (VV))) (V : VV) (v1 : Int) (v2 : Int) : Option (VV) := Option.bind (f_Mo_firstAtPlant V v2) (fun q1 => if 0 ≤ v2 ∧ v2 < (3 : Int) then if (V 92 v2.toNat) < 0 then if q1 < 0 then f_Mo_plantsGo_33 k1 V v1 v2 else Option.bind (f_Mo_isShut V (V 62 91) v2 v1) (fun q5 => if q5 = 0 then if 0 ≤ v2 ∧ v2 < (3 : Int) then if 0 ≤ q1 ∧ q1 < (16 : Int) then if 0 ≤ (V 90 q1.toNat) ∧ (V 90 q1.toNat) < (17400 : Int) then if (V 91 v2.toNat) < (V 100 ((V 90 q1.toNat).toNat)) then f_Mo_plantsGo_33 k1 V v1 v2 else if 0 ≤ v2 ∧ v2 < (3 : Int) then if 0 ≤ q1 ∧ q1 < (16 : Int) then if 0 ≤ (V 90 q1.toNat) ∧ (V 90 q1.toNat) < (17400 : Int) then if 0 ≤ v2 ∧ v2 < (3 : Int) then if 0 ≤ q1 ∧ q1 < (16 : Int) then if 0 ≤ (V 90 q1.toNat) ∧ (V 90 q1.toNat) < (17400 : Int) then if 0 ≤ v2 ∧ v2 < (3 : Int) then if 0 ≤ v2 ∧ v2 < (3 : Int) then if 0 ≤ v2 ∧ v2 < (3 : Int) then if 0 ≤ q1 ∧ q1 < (16 : Int) then f_Mo_plantsGo_33 k1 (up (up (up (up (up V 91 v2.toNat (w32 ((V 91 v2.toNat) - (V 100 ((V 90 q1.toNat).toNat))))) 104 ((V 90 q1.toNat).toNat) v1) 92 v2.toNat q1) 93 v2.toNat (w32 (v1 + (V 74 v2.toNat)))) 86 q1.toNat 3) v1 v2 else none else none else none else none else none else none else none else none else none else none else none else none else none else f_Mo_plantsGo_33 k1 V v1 v2) else f_Mo_plantsGo_33 k1 V v1 v2 else none)
set_option maxRecDepth 20000 in
set_option maxHeartbeats 4000000 in
theorem s_Mo_plantsGo_12 {X : Xs} {d : Nat} {k1 : VV → Int → Int → (Option (VV))} {V : VV} {h : HP} {v1 : Int} {v2 : Int} {z3 : Option AV} {q : VV} (hf : f_Mo_plantsGo_12 k1 V v1 v2 = some q) (K1 : ∀ (V : VV) (v1 : Int) (v2 : Int) (z3 : Option AV), k1 V v1 v2 = some q → Ok X (d + 3) 198 1 ([some (.inr (.inr (.inl 63))), some (.inl v1), some (.inl v2), z3], [], mm V h) (fun M r => M = mm q h ∧ r = none)) : Ok X (d + 3) 198 12 ([some (.inr (.inr (.inl 63))), some (.inl v1), some (.inl v2), z3], [], mm V h) (fun M r => M = mm q h ∧ r = none) := by
  let QQ : Mm → Option AV → Prop := fun M r => M = mm q h ∧ r = none
  show Ok X (d + 3) 198 12 ([some (.inr (.inr (.inl 63))), some (.inl v1), some (.inl v2), z3], [], mm V h) QQ
  obtain ⟨q1, e1, hf⟩ := obind hf
  refine ok_callA (L := [some (.inr (.inr (.inl 63))), some (.inl v1), some (.inl v2), z3]) (M := mm V h) (args := [.inr (.inr (.inl 63)), .inl v2]) (rest := []) (y2 := 199) rfl rfl rfl (Or.inl rfl) rfl rfl (Nat.le_of_ble_eq_true rfl) rfl rfl (Nat.le_of_ble_eq_true rfl) (Nat.le_of_ble_eq_true rfl) (s_Mo_firstAtPlant e1) ?_
  rintro _ _ ⟨rfl, rfl⟩
  by_cases c2 : 0 ≤ v2 ∧ v2 < (3 : Int)
  case neg => replace hf := (if_neg c2).symm.trans hf; cases hf
  replace hf := (if_pos c2).symm.trans hf
  refine ok_iald (i := v2) (id := 92) (n := 3) (L := [some (.inr (.inr (.inl 63))), some (.inl v1), some (.inl v2), some (.inl q1)]) (S := []) (M := mm V h) rfl rfl rfl c2.1 c2.2 ?_
  refine ok_if_ge (x := V 92 v2.toNat) (L := [some (.inr (.inr (.inl 63))), some (.inl v1), some (.inl v2), some (.inl q1)]) (S := []) (M := mm V h) rfl rfl (fun c3 => ?_) (fun c3 => ?_)
  ·
    replace hf := (if_neg (Int.not_lt.mpr c3)).symm.trans hf
    exact s_Mo_plantsGo_33 hf K1
  ·
    replace hf := (if_pos c3).symm.trans hf
    refine ok_if_lt (x := q1) (L := [some (.inr (.inr (.inl 63))), some (.inl v1), some (.inl v2), some (.inl q1)]) (S := []) (M := mm V h) rfl rfl (fun c4 => ?_) (fun c4 => ?_)
    ·
      replace hf := (if_pos c4).symm.trans hf
      exact s_Mo_plantsGo_33 hf K1
    ·
      replace hf := (if_neg (Int.not_lt.mpr c4)).symm.trans hf
      obtain ⟨q5, e5, hf⟩ := obind hf
      refine ok_callA (L := [some (.inr (.inr (.inl 63))), some (.inl v1), some (.inl v2), some (.inl q1)]) (M := mm V h) (args := [.inr (.inr (.inl 63)), .inl (V 62 91), .inl v2, .inl v1]) (rest := []) (y2 := 191) rfl rfl rfl (Or.inl rfl) rfl rfl (Nat.le_of_ble_eq_true rfl) rfl rfl (Nat.le_of_ble_eq_true rfl) (Nat.le_of_ble_eq_true rfl) (s_Mo_isShut e5) ?_
      rintro _ _ ⟨rfl, rfl, hz5⟩
      refine ok_if_ne (x := q5) (L := [some (.inr (.inr (.inl 63))), some (.inl v1), some (.inl v2), some (.inl q1)]) (S := []) (M := mm V h) rfl rfl (fun c6 => ?_) (fun c6 => ?_)
      ·
        replace hf := (if_neg c6).symm.trans hf
        exact s_Mo_plantsGo_33 hf K1
      ·
        replace hf := (if_pos c6).symm.trans hf
        by_cases c7 : 0 ≤ v2 ∧ v2 < (3 : Int)
        case neg => replace hf := (if_neg c7).symm.trans hf; cases hf
        replace hf := (if_pos c7).symm.trans hf
        refine ok_iald (i := v2) (id := 91) (n := 3) (L := [some (.inr (.inr (.inl 63))), some (.inl v1), some (.inl v2), some (.inl q1)]) (S := []) (M := mm V h) rfl rfl rfl c7.1 c7.2 ?_
        by_cases c8 : 0 ≤ q1 ∧ q1 < (16 : Int)
        case neg => replace hf := (if_neg c8).symm.trans hf; cases hf
        replace hf := (if_pos c8).symm.trans hf
        refine ok_iald (i := q1) (id := 90) (n := 16) (L := [some (.inr (.inr (.inl 63))), some (.inl v1), some (.inl v2), some (.inl q1)]) (S := [.inr (.inr (.inl 101)), .inl (V 91 v2.toNat)]) (M := mm V h) rfl rfl rfl c8.1 c8.2 ?_
        by_cases c9 : 0 ≤ (V 90 q1.toNat) ∧ (V 90 q1.toNat) < (17400 : Int)
        case neg => replace hf := (if_neg c9).symm.trans hf; cases hf
        replace hf := (if_pos c9).symm.trans hf
        refine ok_iald (i := V 90 q1.toNat) (id := 100) (n := 17400) (L := [some (.inr (.inr (.inl 63))), some (.inl v1), some (.inl v2), some (.inl q1)]) (S := [.inl (V 91 v2.toNat)]) (M := mm V h) rfl rfl rfl c9.1 c9.2 ?_
        refine ok_ic_ge (x := V 91 v2.toNat) (u := V 100 ((V 90 q1.toNat).toNat)) (L := [some (.inr (.inr (.inl 63))), some (.inl v1), some (.inl v2), some (.inl q1)]) (S := []) (M := mm V h) rfl rfl (fun c10 => ?_) (fun c10 => ?_)
        ·
          replace hf := (if_neg (Int.not_lt.mpr c10)).symm.trans hf
          by_cases c11 : 0 ≤ v2 ∧ v2 < (3 : Int)
          case neg => replace hf := (if_neg c11).symm.trans hf; cases hf
          replace hf := (if_pos c11).symm.trans hf
          refine ok_iald (i := v2) (id := 91) (n := 3) (L := [some (.inr (.inr (.inl 63))), some (.inl v1), some (.inl v2), some (.inl q1)]) (S := [.inl v2, .inr (.inr (.inl 92))]) (M := mm V h) rfl rfl rfl c11.1 c11.2 ?_
          by_cases c12 : 0 ≤ q1 ∧ q1 < (16 : Int)
          case neg => replace hf := (if_neg c12).symm.trans hf; cases hf
          replace hf := (if_pos c12).symm.trans hf
          refine ok_iald (i := q1) (id := 90) (n := 16) (L := [some (.inr (.inr (.inl 63))), some (.inl v1), some (.inl v2), some (.inl q1)]) (S := [.inr (.inr (.inl 101)), .inl (V 91 v2.toNat), .inl v2, .inr (.inr (.inl 92))]) (M := mm V h) rfl rfl rfl c12.1 c12.2 ?_
          by_cases c13 : 0 ≤ (V 90 q1.toNat) ∧ (V 90 q1.toNat) < (17400 : Int)
          case neg => replace hf := (if_neg c13).symm.trans hf; cases hf
          replace hf := (if_pos c13).symm.trans hf
          refine ok_iald (i := V 90 q1.toNat) (id := 100) (n := 17400) (L := [some (.inr (.inr (.inl 63))), some (.inl v1), some (.inl v2), some (.inl q1)]) (S := [.inl (V 91 v2.toNat), .inl v2, .inr (.inr (.inl 92))]) (M := mm V h) rfl rfl rfl c13.1 c13.2 ?_
          by_cases c14 : 0 ≤ v2 ∧ v2 < (3 : Int)
          case neg => replace hf := (if_neg c14).symm.trans hf; cases hf
          replace hf := (if_pos c14).symm.trans hf
          refine ok_iast (i := v2) (v := w32 ((V 91 v2.toNat) - (V 100 ((V 90 q1.toNat).toNat)))) (id := 91) (n := 3) (L := [some (.inr (.inr (.inl 63))), some (.inl v1), some (.inl v2), some (.inl q1)]) (S := []) (M := mm V h) rfl rfl rfl c14.1 c14.2 ?_
          by_cases c15 : 0 ≤ q1 ∧ q1 < (16 : Int)
          case neg => replace hf := (if_neg c15).symm.trans hf; cases hf
          replace hf := (if_pos c15).symm.trans hf
          refine ok_iald (i := q1) (id := 90) (n := 16) (L := [some (.inr (.inr (.inl 63))), some (.inl v1), some (.inl v2), some (.inl q1)]) (S := [.inr (.inr (.inl 105))]) (M := mm (up V 91 v2.toNat (w32 ((V 91 v2.toNat) - (V 100 ((V 90 q1.toNat).toNat))))) h) rfl rfl rfl c15.1 c15.2 ?_
          by_cases c16 : 0 ≤ (V 90 q1.toNat) ∧ (V 90 q1.toNat) < (17400 : Int)
          case neg => replace hf := (if_neg c16).symm.trans hf; cases hf
          replace hf := (if_pos c16).symm.trans hf
          refine ok_iast (i := V 90 q1.toNat) (v := v1) (id := 104) (n := 17400) (L := [some (.inr (.inr (.inl 63))), some (.inl v1), some (.inl v2), some (.inl q1)]) (S := []) (M := mm (up V 91 v2.toNat (w32 ((V 91 v2.toNat) - (V 100 ((V 90 q1.toNat).toNat))))) h) rfl rfl rfl c16.1 c16.2 ?_
          by_cases c17 : 0 ≤ v2 ∧ v2 < (3 : Int)
          case neg => replace hf := (if_neg c17).symm.trans hf; cases hf
          replace hf := (if_pos c17).symm.trans hf
          refine ok_iast (i := v2) (v := q1) (id := 92) (n := 3) (L := [some (.inr (.inr (.inl 63))), some (.inl v1), some (.inl v2), some (.inl q1)]) (S := []) (M := mm (up (up V 91 v2.toNat (w32 ((V 91 v2.toNat) - (V 100 ((V 90 q1.toNat).toNat))))) 104 ((V 90 q1.toNat).toNat) v1) h) rfl rfl rfl c17.1 c17.2 ?_
          by_cases c18 : 0 ≤ v2 ∧ v2 < (3 : Int)
          case neg => replace hf := (if_neg c18).symm.trans hf; cases hf
          replace hf := (if_pos c18).symm.trans hf
          refine ok_iald (i := v2) (id := 74) (n := 3) (L := [some (.inr (.inr (.inl 63))), some (.inl v1), some (.inl v2), some (.inl q1)]) (S := [.inl v1, .inl v2, .inr (.inr (.inl 94))]) (M := mm (up (up (up V 91 v2.toNat (w32 ((V 91 v2.toNat) - (V 100 ((V 90 q1.toNat).toNat))))) 104 ((V 90 q1.toNat).toNat) v1) 92 v2.toNat q1) h) rfl rfl rfl c18.1 c18.2 ?_
          by_cases c19 : 0 ≤ v2 ∧ v2 < (3 : Int)
          case neg => replace hf := (if_neg c19).symm.trans hf; cases hf
          replace hf := (if_pos c19).symm.trans hf
          refine ok_iast (i := v2) (v := w32 (v1 + (V 74 v2.toNat))) (id := 93) (n := 3) (L := [some (.inr (.inr (.inl 63))), some (.inl v1), some (.inl v2), some (.inl q1)]) (S := []) (M := mm (up (up (up V 91 v2.toNat (w32 ((V 91 v2.toNat) - (V 100 ((V 90 q1.toNat).toNat))))) 104 ((V 90 q1.toNat).toNat) v1) 92 v2.toNat q1) h) rfl rfl rfl c19.1 c19.2 ?_
          by_cases c20 : 0 ≤ q1 ∧ q1 < (16 : Int)
          case neg => replace hf := (if_neg c20).symm.trans hf; cases hf
          replace hf := (if_pos c20).symm.trans hf
          refine ok_iast (i := q1) (v := 3) (id := 86) (n := 16) (L := [some (.inr (.inr (.inl 63))), some (.inl v1), some (.inl v2), some (.inl q1)]) (S := []) (M := mm (up (up (up (up V 91 v2.toNat (w32 ((V 91 v2.toNat) - (V 100 ((V 90 q1.toNat).toNat))))) 104 ((V 90 q1.toNat).toNat) v1) 92 v2.toNat q1) 93 v2.toNat (w32 (v1 + (V 74 v2.toNat)))) h) rfl rfl rfl c20.1 c20.2 ?_
          exact s_Mo_plantsGo_33 hf K1
        ·
          replace hf := (if_pos c10).symm.trans hf
          refine ok_goto (L := [some (.inr (.inr (.inl 63))), some (.inl v1), some (.inl v2), some (.inl q1)]) (S := []) (M := mm V h) rfl rfl ?_
          exact s_Mo_plantsGo_33 hf K1
def f_Mo_plantsGo_1 : Nat → VV → Int → Int → (Option (VV))
  | 0, _, _, _ => none
  | n + 1, V, v1, v2 => if v2 < (V 62 17) then if 0 ≤ v2 ∧ v2 < (3 : Int) then if (V 92 v2.toNat) < 0 then f_Mo_plantsGo_12 (f_Mo_plantsGo_1 n) V v1 v2 else if 0 ≤ v2 ∧ v2 < (3 : Int) then if (V 93 v2.toNat) = v1 then if 0 ≤ v2 ∧ v2 < (3 : Int) then if 0 ≤ (V 92 v2.toNat) ∧ (V 92 v2.toNat) < (16 : Int) then if 0 ≤ v2 ∧ v2 < (3 : Int) then Option.bind (f_Mo_haulOf (up V 86 ((V 92 v2.toNat).toNat) 4) (V 62 91) v2 v1) (fun q9 => if 0 ≤ (V 92 v2.toNat) ∧ (V 92 v2.toNat) < (16 : Int) then if 0 ≤ v2 ∧ v2 < (3 : Int) then f_Mo_plantsGo_12 (f_Mo_plantsGo_1 n) (up (up (up V 86 ((V 92 v2.toNat).toNat) 4) 87 ((V 92 v2.toNat).toNat) (w32 (v1 + q9))) 92 v2.toNat (-1)) v1 v2 else none else none) else none else none else none else f_Mo_plantsGo_12 (f_Mo_plantsGo_1 n) V v1 v2 else none else none else some V
set_option maxRecDepth 20000 in
set_option maxHeartbeats 4000000 in
theorem s_Mo_plantsGo_1_n {X : Xs} {d : Nat} {h : HP} {q : VV} : ∀ (n : Nat) (V : VV) (v1 : Int) (v2 : Int) (z3 : Option AV), f_Mo_plantsGo_1 n V v1 v2 = some q → Ok X (d + 3) 198 1 ([some (.inr (.inr (.inl 63))), some (.inl v1), some (.inl v2), z3], [], mm V h) (fun M r => M = mm q h ∧ r = none) := by
  intro n
  induction n with
  | zero => intro V v1 v2 z3 hf; cases hf
  | succ n ih =>
    intro V v1 v2 z3 hf
    let QQ : Mm → Option AV → Prop := fun M r => M = mm q h ∧ r = none
    show Ok X (d + 3) 198 1 ([some (.inr (.inr (.inl 63))), some (.inl v1), some (.inl v2), z3], [], mm V h) QQ
    refine ok_ic_ge (x := v2) (u := V 62 17) (L := [some (.inr (.inr (.inl 63))), some (.inl v1), some (.inl v2), z3]) (S := []) (M := mm V h) rfl rfl (fun c1 => ?_) (fun c1 => ?_)
    ·
      replace hf := (if_neg (Int.not_lt.mpr c1)).symm.trans hf
      obtain rfl := Option.some.inj hf
      refine ok_return (L := [some (.inr (.inr (.inl 63))), some (.inl v1), some (.inl v2), z3]) (M := mm V h) rfl rfl ?_
      exact ⟨rfl, rfl⟩
    ·
      replace hf := (if_pos c1).symm.trans hf
      by_cases c2 : 0 ≤ v2 ∧ v2 < (3 : Int)
      case neg => replace hf := (if_neg c2).symm.trans hf; cases hf
      replace hf := (if_pos c2).symm.trans hf
      refine ok_iald (i := v2) (id := 92) (n := 3) (L := [some (.inr (.inr (.inl 63))), some (.inl v1), some (.inl v2), z3]) (S := []) (M := mm V h) rfl rfl rfl c2.1 c2.2 ?_
      refine ok_if_lt (x := V 92 v2.toNat) (L := [some (.inr (.inr (.inl 63))), some (.inl v1), some (.inl v2), z3]) (S := []) (M := mm V h) rfl rfl (fun c3 => ?_) (fun c3 => ?_)
      ·
        replace hf := (if_pos c3).symm.trans hf
        exact s_Mo_plantsGo_12 hf ih
      ·
        replace hf := (if_neg (Int.not_lt.mpr c3)).symm.trans hf
        by_cases c4 : 0 ≤ v2 ∧ v2 < (3 : Int)
        case neg => replace hf := (if_neg c4).symm.trans hf; cases hf
        replace hf := (if_pos c4).symm.trans hf
        refine ok_iald (i := v2) (id := 93) (n := 3) (L := [some (.inr (.inr (.inl 63))), some (.inl v1), some (.inl v2), z3]) (S := []) (M := mm V h) rfl rfl rfl c4.1 c4.2 ?_
        refine ok_ic_ne (x := V 93 v2.toNat) (u := v1) (L := [some (.inr (.inr (.inl 63))), some (.inl v1), some (.inl v2), z3]) (S := []) (M := mm V h) rfl rfl (fun c5 => ?_) (fun c5 => ?_)
        ·
          replace hf := (if_neg c5).symm.trans hf
          exact s_Mo_plantsGo_12 hf ih
        ·
          replace hf := (if_pos c5).symm.trans hf
          by_cases c6 : 0 ≤ v2 ∧ v2 < (3 : Int)
          case neg => replace hf := (if_neg c6).symm.trans hf; cases hf
          replace hf := (if_pos c6).symm.trans hf
          refine ok_iald (i := v2) (id := 92) (n := 3) (L := [some (.inr (.inr (.inl 63))), some (.inl v1), some (.inl v2), z3]) (S := [.inr (.inr (.inl 87))]) (M := mm V h) rfl rfl rfl c6.1 c6.2 ?_
          by_cases c7 : 0 ≤ (V 92 v2.toNat) ∧ (V 92 v2.toNat) < (16 : Int)
          case neg => replace hf := (if_neg c7).symm.trans hf; cases hf
          replace hf := (if_pos c7).symm.trans hf
          refine ok_iast (i := V 92 v2.toNat) (v := 4) (id := 86) (n := 16) (L := [some (.inr (.inr (.inl 63))), some (.inl v1), some (.inl v2), z3]) (S := []) (M := mm V h) rfl rfl rfl c7.1 c7.2 ?_
          by_cases c8 : 0 ≤ v2 ∧ v2 < (3 : Int)
          case neg => replace hf := (if_neg c8).symm.trans hf; cases hf
          replace hf := (if_pos c8).symm.trans hf
          refine ok_iald (i := v2) (id := 92) (n := 3) (L := [some (.inr (.inr (.inl 63))), some (.inl v1), some (.inl v2), z3]) (S := [.inr (.inr (.inl 88))]) (M := mm (up V 86 ((V 92 v2.toNat).toNat) 4) h) rfl rfl rfl c8.1 c8.2 ?_
          obtain ⟨q9, e9, hf⟩ := obind hf
          refine ok_callA (L := [some (.inr (.inr (.inl 63))), some (.inl v1), some (.inl v2), z3]) (M := mm (up V 86 ((V 92 v2.toNat).toNat) 4) h) (args := [.inr (.inr (.inl 63)), .inl (V 62 91), .inl v2, .inl v1]) (rest := [.inl v1, .inl (V 92 v2.toNat), .inr (.inr (.inl 88))]) (y2 := 190) rfl rfl rfl (Or.inl rfl) rfl rfl (Nat.le_of_ble_eq_true rfl) rfl rfl (Nat.le_of_ble_eq_true rfl) (Nat.le_of_ble_eq_true rfl) (s_Mo_haulOf e9) ?_
          rintro _ _ ⟨rfl, rfl⟩
          by_cases c10 : 0 ≤ (V 92 v2.toNat) ∧ (V 92 v2.toNat) < (16 : Int)
          case neg => replace hf := (if_neg c10).symm.trans hf; cases hf
          replace hf := (if_pos c10).symm.trans hf
          refine ok_iast (i := V 92 v2.toNat) (v := w32 (v1 + q9)) (id := 87) (n := 16) (L := [some (.inr (.inr (.inl 63))), some (.inl v1), some (.inl v2), z3]) (S := []) (M := mm (up V 86 ((V 92 v2.toNat).toNat) 4) h) rfl rfl rfl c10.1 c10.2 ?_
          by_cases c11 : 0 ≤ v2 ∧ v2 < (3 : Int)
          case neg => replace hf := (if_neg c11).symm.trans hf; cases hf
          replace hf := (if_pos c11).symm.trans hf
          refine ok_iast (i := v2) (v := (-1)) (id := 92) (n := 3) (L := [some (.inr (.inr (.inl 63))), some (.inl v1), some (.inl v2), z3]) (S := []) (M := mm (up (up V 86 ((V 92 v2.toNat).toNat) 4) 87 ((V 92 v2.toNat).toNat) (w32 (v1 + q9))) h) rfl rfl rfl c11.1 c11.2 ?_
          exact s_Mo_plantsGo_12 hf ih
theorem s_Mo_plantsGo_1 {X : Xs} {d : Nat} {h : HP} {V : VV} {v1 : Int} {v2 : Int} {z3 : Option AV} {n : Nat} {q : VV} (hf : f_Mo_plantsGo_1 n V v1 v2 = some q) : Ok X (d + 3) 198 1 ([some (.inr (.inr (.inl 63))), some (.inl v1), some (.inl v2), z3], [], mm V h) (fun M r => M = mm q h ∧ r = none) :=
  s_Mo_plantsGo_1_n n V v1 v2 z3 hf
def f_Mo_plantsGo (V : VV) (v1 : Int) : Option (VV) := f_Mo_plantsGo_1 FU V v1 0
set_option maxRecDepth 20000 in
set_option maxHeartbeats 4000000 in
theorem s_Mo_plantsGo {X : Xs} {d : Nat} {V : VV} {h : HP} {v1 : Int} {q : VV} (hf : f_Mo_plantsGo V v1 = some q) : Ok X (d + 3) 198 0 ([some (.inr (.inr (.inl 63))), some (.inl v1), none, none], [], mm V h) (fun M r => M = mm q h ∧ r = none) := by
  let QQ : Mm → Option AV → Prop := fun M r => M = mm q h ∧ r = none
  show Ok X (d + 3) 198 0 ([some (.inr (.inr (.inl 63))), some (.inl v1), none, none], [], mm V h) QQ
  refine ok_thru (L := [some (.inr (.inr (.inl 63))), some (.inl v1), some (.inl 0), none]) (S := []) (M := mm V h) rfl rfl ?_
  exact s_Mo_plantsGo_1 hf
def f_Mo_sentTo_9 (k1 : VV → Int → Int → Int → (Option (Int))) (V : VV) (v1 : Int) (v3 : Int) (t0 : Int) (t1 : Int) : Option (Int) := k1 V v1 (w32 (t0 + t1)) (w32 (v3 + 1))
set_option maxRecDepth 20000 in
set_option maxHeartbeats 4000000 in
theorem s_Mo_sentTo_9 {X : Xs} {d : Nat} {k1 : VV → Int → Int → Int → (Option (Int))} {V : VV} {h : HP} {v1 : Int} {v3 : Int} {t0 : Int} {t1 : Int} {w2 : Int} {q : Int} (hf : f_Mo_sentTo_9 k1 V v1 v3 t0 t1 = some q) (K1 : ∀ (v1 : Int) (v2 : Int) (v3 : Int), k1 V v1 v2 v3 = some q → Ok X (d + 2) 202 1 ([some (.inr (.inr (.inl 63))), some (.inl v1), some (.inl v2), some (.inl v3)], [], mm V h) (fun M r => M = mm V h ∧ r = some (.inl q))) : Ok X (d + 2) 202 9 ([some (.inr (.inr (.inl 63))), some (.inl v1), some (.inl w2), some (.inl v3)], [.inl t1, .inl t0], mm V h) (fun M r => M = mm V h ∧ r = some (.inl q)) := by
  let QQ : Mm → Option AV → Prop := fun M r => M = mm V h ∧ r = some (.inl q)
  show Ok X (d + 2) 202 9 ([some (.inr (.inr (.inl 63))), some (.inl v1), some (.inl w2), some (.inl v3)], [.inl t1, .inl t0], mm V h) QQ
  refine ok_goto (L := [some (.inr (.inr (.inl 63))), some (.inl v1), some (.inl (w32 (t0 + t1))), some (.inl (w32 (v3 + 1)))]) (S := []) (M := mm V h) rfl rfl ?_
  exact K1 v1 (w32 (t0 + t1)) (w32 (v3 + 1)) hf
def f_Mo_sentTo_8 (k1 : VV → Int → Int → Int → (Option (Int))) (V : VV) (v1 : Int) (v3 : Int) (t0 : Int) : Option (Int) := f_Mo_sentTo_9 k1 V v1 v3 t0 0
set_option maxRecDepth 20000 in
set_option maxHeartbeats 4000000 in
theorem s_Mo_sentTo_8 {X : Xs} {d : Nat} {k1 : VV → Int → Int → Int → (Option (Int))} {V : VV} {h : HP} {v1 : Int} {v3 : Int} {t0 : Int} {w2 : Int} {q : Int} (hf : f_Mo_sentTo_8 k1 V v1 v3 t0 = some q) (K1 : ∀ (v1 : Int) (v2 : Int) (v3 : Int), k1 V v1 v2 v3 = some q → Ok X (d + 2) 202 1 ([some (.inr (.inr (.inl 63))), some (.inl v1), some (.inl v2), some (.inl v3)], [], mm V h) (fun M r => M = mm V h ∧ r = some (.inl q))) : Ok X (d + 2) 202 8 ([some (.inr (.inr (.inl 63))), some (.inl v1), some (.inl w2), some (.inl v3)], [.inl t0], mm V h) (fun M r => M = mm V h ∧ r = some (.inl q)) := by
  let QQ : Mm → Option AV → Prop := fun M r => M = mm V h ∧ r = some (.inl q)
  show Ok X (d + 2) 202 8 ([some (.inr (.inr (.inl 63))), some (.inl v1), some (.inl w2), some (.inl v3)], [.inl t0], mm V h) QQ
  refine ok_thru (L := [some (.inr (.inr (.inl 63))), some (.inl v1), some (.inl w2), some (.inl v3)]) (S := [.inl 0, .inl t0]) (M := mm V h) rfl rfl ?_
  exact s_Mo_sentTo_9 hf K1
def f_Mo_sentTo_1 : Nat → VV → Int → Int → Int → (Option (Int))
  | 0, _, _, _, _ => none
  | n + 1, V, v1, v2, v3 => if v3 < (V 62 22) then if 0 ≤ v3 ∧ v3 < (16 : Int) then if (f_Mo_isIn V (V 86 v3.toNat) 1 3) = 0 then f_Mo_sentTo_8 (f_Mo_sentTo_1 n) V v1 v3 v2 else if 0 ≤ v3 ∧ v3 < (16 : Int) then if (V 89 v3.toNat) = v1 then f_Mo_sentTo_9 (f_Mo_sentTo_1 n) V v1 v3 v2 1 else f_Mo_sentTo_8 (f_Mo_sentTo_1 n) V v1 v3 v2 else none else none else some v2
set_option maxRecDepth 20000 in
set_option maxHeartbeats 4000000 in
theorem s_Mo_sentTo_1_n {X : Xs} {d : Nat} {V : VV} {h : HP} {q : Int} : ∀ (n : Nat) (v1 : Int) (v2 : Int) (v3 : Int), f_Mo_sentTo_1 n V v1 v2 v3 = some q → Ok X (d + 2) 202 1 ([some (.inr (.inr (.inl 63))), some (.inl v1), some (.inl v2), some (.inl v3)], [], mm V h) (fun M r => M = mm V h ∧ r = some (.inl q)) := by
  intro n
  induction n with
  | zero => intro v1 v2 v3 hf; cases hf
  | succ n ih =>
    intro v1 v2 v3 hf
    let QQ : Mm → Option AV → Prop := fun M r => M = mm V h ∧ r = some (.inl q)
    show Ok X (d + 2) 202 1 ([some (.inr (.inr (.inl 63))), some (.inl v1), some (.inl v2), some (.inl v3)], [], mm V h) QQ
    refine ok_ic_ge (x := v3) (u := V 62 22) (L := [some (.inr (.inr (.inl 63))), some (.inl v1), some (.inl v2), some (.inl v3)]) (S := []) (M := mm V h) rfl rfl (fun c1 => ?_) (fun c1 => ?_)
    ·
      replace hf := (if_neg (Int.not_lt.mpr c1)).symm.trans hf
      obtain rfl := Option.some.inj hf
      refine ok_ireturn (L := [some (.inr (.inr (.inl 63))), some (.inl v1), some (.inl v2), some (.inl v3)]) (M := mm V h) (x := v2) rfl rfl ?_
      exact ⟨rfl, rfl⟩
    ·
      replace hf := (if_pos c1).symm.trans hf
      by_cases c2 : 0 ≤ v3 ∧ v3 < (16 : Int)
      case neg => replace hf := (if_neg c2).symm.trans hf; cases hf
      replace hf := (if_pos c2).symm.trans hf
      refine ok_iald (i := v3) (id := 86) (n := 16) (L := [some (.inr (.inr (.inl 63))), some (.inl v1), some (.inl v2), some (.inl v3)]) (S := [.inl v2]) (M := mm V h) rfl rfl rfl c2.1 c2.2 ?_
      refine ok_callA (L := [some (.inr (.inr (.inl 63))), some (.inl v1), some (.inl v2), some (.inl v3)]) (M := mm V h) (args := [.inl (V 86 v3.toNat), .inl 1, .inl 3]) (rest := [.inl v2]) (y2 := 152) rfl rfl rfl (Or.inr (Or.inl rfl)) rfl rfl (Nat.le_of_ble_eq_true rfl) rfl rfl (Nat.le_of_ble_eq_true rfl) (Nat.le_of_ble_eq_true rfl) (s_Mo_isIn rfl) ?_
      rintro _ _ ⟨rfl, rfl, hz3⟩
      refine ok_if_eq (x := f_Mo_isIn V (V 86 v3.toNat) 1 3) (L := [some (.inr (.inr (.inl 63))), some (.inl v1), some (.inl v2), some (.inl v3)]) (S := [.inl v2]) (M := mm V h) rfl rfl (fun c4 => ?_) (fun c4 => ?_)
      ·
        replace hf := (if_pos c4).symm.trans hf
        exact s_Mo_sentTo_8 hf ih
      ·
        replace hf := (if_neg c4).symm.trans hf
        by_cases c5 : 0 ≤ v3 ∧ v3 < (16 : Int)
        case neg => replace hf := (if_neg c5).symm.trans hf; cases hf
        replace hf := (if_pos c5).symm.trans hf
        refine ok_iald (i := v3) (id := 89) (n := 16) (L := [some (.inr (.inr (.inl 63))), some (.inl v1), some (.inl v2), some (.inl v3)]) (S := [.inl v2]) (M := mm V h) rfl rfl rfl c5.1 c5.2 ?_
        refine ok_ic_ne (x := V 89 v3.toNat) (u := v1) (L := [some (.inr (.inr (.inl 63))), some (.inl v1), some (.inl v2), some (.inl v3)]) (S := [.inl v2]) (M := mm V h) rfl rfl (fun c6 => ?_) (fun c6 => ?_)
        ·
          replace hf := (if_neg c6).symm.trans hf
          exact s_Mo_sentTo_8 hf ih
        ·
          replace hf := (if_pos c6).symm.trans hf
          refine ok_goto (L := [some (.inr (.inr (.inl 63))), some (.inl v1), some (.inl v2), some (.inl v3)]) (S := [.inl 1, .inl v2]) (M := mm V h) rfl rfl ?_
          exact s_Mo_sentTo_9 hf ih
theorem s_Mo_sentTo_1 {X : Xs} {d : Nat} {V : VV} {h : HP} {v1 : Int} {v2 : Int} {v3 : Int} {n : Nat} {q : Int} (hf : f_Mo_sentTo_1 n V v1 v2 v3 = some q) : Ok X (d + 2) 202 1 ([some (.inr (.inr (.inl 63))), some (.inl v1), some (.inl v2), some (.inl v3)], [], mm V h) (fun M r => M = mm V h ∧ r = some (.inl q)) :=
  s_Mo_sentTo_1_n n v1 v2 v3 hf
def f_Mo_sentTo (V : VV) (v1 : Int) : Option (Int) := f_Mo_sentTo_1 FU V v1 0 0
set_option maxRecDepth 20000 in
set_option maxHeartbeats 4000000 in
theorem s_Mo_sentTo {X : Xs} {d : Nat} {V : VV} {h : HP} {v1 : Int} {q : Int} (hf : f_Mo_sentTo V v1 = some q) : Ok X (d + 2) 202 0 ([some (.inr (.inr (.inl 63))), some (.inl v1), none, none], [], mm V h) (fun M r => M = mm V h ∧ r = some (.inl q)) := by
  let QQ : Mm → Option AV → Prop := fun M r => M = mm V h ∧ r = some (.inl q)
  show Ok X (d + 2) 202 0 ([some (.inr (.inr (.inl 63))), some (.inl v1), none, none], [], mm V h) QQ
  refine ok_thru (L := [some (.inr (.inr (.inl 63))), some (.inl v1), some (.inl 0), some (.inl 0)]) (S := []) (M := mm V h) rfl rfl ?_
  exact s_Mo_sentTo_1 hf
def f_Mo_plantFor_9 (k1 : VV → Int → Int → Int → (Option (Int))) (V : VV) (v1 : Int) (v2 : Int) (v3 : Int) : Option (Int) := k1 V v1 v2 (w32 (v3 + 1))
set_option maxRecDepth 20000 in
set_option maxHeartbeats 4000000 in
theorem s_Mo_plantFor_9 {X : Xs} {d : Nat} {k1 : VV → Int → Int → Int → (Option (Int))} {V : VV} {h : HP} {v1 : Int} {v2 : Int} {v3 : Int} {q : Int} (hf : f_Mo_plantFor_9 k1 V v1 v2 v3 = some q) (K1 : ∀ (v1 : Int) (v2 : Int) (v3 : Int), k1 V v1 v2 v3 = some q → Ok X (d + 3) 201 1 ([some (.inr (.inr (.inl 63))), some (.inl v1), some (.inl v2), some (.inl v3)], [], mm V h) (fun M r => M = mm V h ∧ r = some (.inl q))) : Ok X (d + 3) 201 9 ([some (.inr (.inr (.inl 63))), some (.inl v1), some (.inl v2), some (.inl v3)], [], mm V h) (fun M r => M = mm V h ∧ r = some (.inl q)) := by
  let QQ : Mm → Option AV → Prop := fun M r => M = mm V h ∧ r = some (.inl q)
  show Ok X (d + 3) 201 9 ([some (.inr (.inr (.inl 63))), some (.inl v1), some (.inl v2), some (.inl v3)], [], mm V h) QQ
  refine ok_goto (L := [some (.inr (.inr (.inl 63))), some (.inl v1), some (.inl v2), some (.inl (w32 (v3 + 1)))]) (S := []) (M := mm V h) rfl rfl ?_
  exact K1 v1 v2 (w32 (v3 + 1)) hf
def f_Mo_plantFor_8 (k1 : VV → Int → Int → Int → (Option (Int))) (V : VV) (v1 : Int) (v3 : Int) : Option (Int) := f_Mo_plantFor_9 k1 V v1 v3 v3
set_option maxRecDepth 20000 in
set_option maxHeartbeats 4000000 in
theorem s_Mo_plantFor_8 {X : Xs} {d : Nat} {k1 : VV → Int → Int → Int → (Option (Int))} {V : VV} {h : HP} {v1 : Int} {v3 : Int} {w2 : Int} {q : Int} (hf : f_Mo_plantFor_8 k1 V v1 v3 = some q) (K1 : ∀ (v1 : Int) (v2 : Int) (v3 : Int), k1 V v1 v2 v3 = some q → Ok X (d + 3) 201 1 ([some (.inr (.inr (.inl 63))), some (.inl v1), some (.inl v2), some (.inl v3)], [], mm V h) (fun M r => M = mm V h ∧ r = some (.inl q))) : Ok X (d + 3) 201 8 ([some (.inr (.inr (.inl 63))), some (.inl v1), some (.inl w2), some (.inl v3)], [], mm V h) (fun M r => M = mm V h ∧ r = some (.inl q)) := by
  let QQ : Mm → Option AV → Prop := fun M r => M = mm V h ∧ r = some (.inl q)
  show Ok X (d + 3) 201 8 ([some (.inr (.inr (.inl 63))), some (.inl v1), some (.inl w2), some (.inl v3)], [], mm V h) QQ
  refine ok_thru (L := [some (.inr (.inr (.inl 63))), some (.inl v1), some (.inl v3), some (.inl v3)]) (S := []) (M := mm V h) rfl rfl ?_
  exact s_Mo_plantFor_9 hf K1
def f_Mo_plantFor_1 : Nat → VV → Int → Int → Int → (Option (Int))
  | 0, _, _, _, _ => none
  | n + 1, V, v1, v2, v3 => if v3 < (V 62 17) then if 0 ≤ v3 ∧ v3 < (3 : Int) then if (V 71 v3.toNat) = v1 then if v2 < 0 then f_Mo_plantFor_8 (f_Mo_plantFor_1 n) V v1 v3 else Option.bind (f_Mo_sentTo V v3) (fun q5 => Option.bind (f_Mo_sentTo V v2) (fun q6 => if q5 < q6 then f_Mo_plantFor_8 (f_Mo_plantFor_1 n) V v1 v3 else f_Mo_plantFor_9 (f_Mo_plantFor_1 n) V v1 v2 v3)) else f_Mo_plantFor_9 (f_Mo_plantFor_1 n) V v1 v2 v3 else none else some v2
set_option maxRecDepth 20000 in
set_option maxHeartbeats 4000000 in
theorem s_Mo_plantFor_1_n {X : Xs} {d : Nat} {V : VV} {h : HP} {q : Int} : ∀ (n : Nat) (v1 : Int) (v2 : Int) (v3 : Int), f_Mo_plantFor_1 n V v1 v2 v3 = some q → Ok X (d + 3) 201 1 ([some (.inr (.inr (.inl 63))), some (.inl v1), some (.inl v2), some (.inl v3)], [], mm V h) (fun M r => M = mm V h ∧ r = some (.inl q)) := by
  intro n
  induction n with
  | zero => intro v1 v2 v3 hf; cases hf
  | succ n ih =>
    intro v1 v2 v3 hf
    let QQ : Mm → Option AV → Prop := fun M r => M = mm V h ∧ r = some (.inl q)
    show Ok X (d + 3) 201 1 ([some (.inr (.inr (.inl 63))), some (.inl v1), some (.inl v2), some (.inl v3)], [], mm V h) QQ
    refine ok_ic_ge (x := v3) (u := V 62 17) (L := [some (.inr (.inr (.inl 63))), some (.inl v1), some (.inl v2), some (.inl v3)]) (S := []) (M := mm V h) rfl rfl (fun c1 => ?_) (fun c1 => ?_)
    ·
      replace hf := (if_neg (Int.not_lt.mpr c1)).symm.trans hf
      obtain rfl := Option.some.inj hf
      refine ok_ireturn (L := [some (.inr (.inr (.inl 63))), some (.inl v1), some (.inl v2), some (.inl v3)]) (M := mm V h) (x := v2) rfl rfl ?_
      exact ⟨rfl, rfl⟩
    ·
      replace hf := (if_pos c1).symm.trans hf
      by_cases c2 : 0 ≤ v3 ∧ v3 < (3 : Int)
      case neg => replace hf := (if_neg c2).symm.trans hf; cases hf
      replace hf := (if_pos c2).symm.trans hf
      refine ok_iald (i := v3) (id := 71) (n := 3) (L := [some (.inr (.inr (.inl 63))), some (.inl v1), some (.inl v2), some (.inl v3)]) (S := []) (M := mm V h) rfl rfl rfl c2.1 c2.2 ?_
      refine ok_ic_ne (x := V 71 v3.toNat) (u := v1) (L := [some (.inr (.inr (.inl 63))), some (.inl v1), some (.inl v2), some (.inl v3)]) (S := []) (M := mm V h) rfl rfl (fun c3 => ?_) (fun c3 => ?_)
      ·
        replace hf := (if_neg c3).symm.trans hf
        exact s_Mo_plantFor_9 hf ih
      ·
        replace hf := (if_pos c3).symm.trans hf
        refine ok_if_lt (x := v2) (L := [some (.inr (.inr (.inl 63))), some (.inl v1), some (.inl v2), some (.inl v3)]) (S := []) (M := mm V h) rfl rfl (fun c4 => ?_) (fun c4 => ?_)
        ·
          replace hf := (if_pos c4).symm.trans hf
          exact s_Mo_plantFor_8 hf ih
        ·
          replace hf := (if_neg (Int.not_lt.mpr c4)).symm.trans hf
          obtain ⟨q5, e5, hf⟩ := obind hf
          refine ok_callA (L := [some (.inr (.inr (.inl 63))), some (.inl v1), some (.inl v2), some (.inl v3)]) (M := mm V h) (args := [.inr (.inr (.inl 63)), .inl v3]) (rest := []) (y2 := 202) rfl rfl rfl (Or.inl rfl) rfl rfl (Nat.le_of_ble_eq_true rfl) rfl rfl (Nat.le_of_ble_eq_true rfl) (Nat.le_of_ble_eq_true rfl) (s_Mo_sentTo e5) ?_
          rintro _ _ ⟨rfl, rfl⟩
          obtain ⟨q6, e6, hf⟩ := obind hf
          refine ok_callA (L := [some (.inr (.inr (.inl 63))), some (.inl v1), some (.inl v2), some (.inl v3)]) (M := mm V h) (args := [.inr (.inr (.inl 63)), .inl v2]) (rest := [.inl q5]) (y2 := 202) rfl rfl rfl (Or.inl rfl) rfl rfl (Nat.le_of_ble_eq_true rfl) rfl rfl (Nat.le_of_ble_eq_true rfl) (Nat.le_of_ble_eq_true rfl) (s_Mo_sentTo e6) ?_
          rintro _ _ ⟨rfl, rfl⟩
          refine ok_ic_ge (x := q5) (u := q6) (L := [some (.inr (.inr (.inl 63))), some (.inl v1), some (.inl v2), some (.inl v3)]) (S := []) (M := mm V h) rfl rfl (fun c7 => ?_) (fun c7 => ?_)
          ·
            replace hf := (if_neg (Int.not_lt.mpr c7)).symm.trans hf
            exact s_Mo_plantFor_9 hf ih
          ·
            replace hf := (if_pos c7).symm.trans hf
            exact s_Mo_plantFor_8 hf ih
theorem s_Mo_plantFor_1 {X : Xs} {d : Nat} {V : VV} {h : HP} {v1 : Int} {v2 : Int} {v3 : Int} {n : Nat} {q : Int} (hf : f_Mo_plantFor_1 n V v1 v2 v3 = some q) : Ok X (d + 3) 201 1 ([some (.inr (.inr (.inl 63))), some (.inl v1), some (.inl v2), some (.inl v3)], [], mm V h) (fun M r => M = mm V h ∧ r = some (.inl q)) :=
  s_Mo_plantFor_1_n n v1 v2 v3 hf
def f_Mo_plantFor (V : VV) (v1 : Int) : Option (Int) := f_Mo_plantFor_1 FU V v1 (-1) 0
set_option maxRecDepth 20000 in
set_option maxHeartbeats 4000000 in
theorem s_Mo_plantFor {X : Xs} {d : Nat} {V : VV} {h : HP} {v1 : Int} {q : Int} (hf : f_Mo_plantFor V v1 = some q) : Ok X (d + 3) 201 0 ([some (.inr (.inr (.inl 63))), some (.inl v1), none, none], [], mm V h) (fun M r => M = mm V h ∧ r = some (.inl q)) := by
  let QQ : Mm → Option AV → Prop := fun M r => M = mm V h ∧ r = some (.inl q)
  show Ok X (d + 3) 201 0 ([some (.inr (.inr (.inl 63))), some (.inl v1), none, none], [], mm V h) QQ
  refine ok_thru (L := [some (.inr (.inr (.inl 63))), some (.inl v1), some (.inl (-1)), some (.inl 0)]) (S := []) (M := mm V h) rfl rfl ?_
  exact s_Mo_plantFor_1 hf
