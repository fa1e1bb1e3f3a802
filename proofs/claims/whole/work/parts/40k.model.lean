/-! shallow functions of the model (printed by wip/tools/gen40.py) -/
def f_Mo_readRate_6 (k1 : VV → (Option (VV × Int))) (V : VV) (t0 : Int) : Option (VV × Int) := if t0 = 0 then k1 V else some (V, t0)
set_option maxRecDepth 20000 in
set_option maxHeartbeats 4000000 in
theorem s_Mo_readRate_6 {X : Xs} {d : Nat} {k1 : VV → (Option (VV × Int))} {V : VV} {h : HP} {t0 : Int} {z1 : Option AV} {q : VV × Int} (hf : f_Mo_readRate_6 k1 V t0 = some q) (K1 : ∀ (V : VV) (z1 : Option AV), k1 V = some q → Ok X (d + 5) 224 1 ([some (.inr (.inr (.inl 63))), z1], [], mm V h) (fun M r => M = mm q.1 h ∧ r = some (.inl q.2))) : Ok X (d + 5) 224 6 ([some (.inr (.inr (.inl 63))), z1], [.inl t0], mm V h) (fun M r => M = mm q.1 h ∧ r = some (.inl q.2)) := by
  let QQ : Mm → Option AV → Prop := fun M r => M = mm q.1 h ∧ r = some (.inl q.2)
  show Ok X (d + 5) 224 6 ([some (.inr (.inr (.inl 63))), z1], [.inl t0], mm V h) QQ
  refine ok_if_eq (x := t0) (L := [some (.inr (.inr (.inl 63))), some (.inl t0)]) (S := []) (M := mm V h) rfl rfl (fun c1 => ?_) (fun c1 => ?_)
  ·
    replace hf := (if_pos c1).symm.trans hf
    refine ok_goto (L := [some (.inr (.inr (.inl 63))), some (.inl t0)]) (S := []) (M := mm V h) rfl rfl ?_
    exact K1 V (some (.inl t0)) hf
  ·
    replace hf := (if_neg c1).symm.trans hf
    obtain rfl := Option.some.inj hf
    refine ok_ireturn (L := [some (.inr (.inr (.inl 63))), some (.inl t0)]) (M := mm V h) (x := t0) rfl rfl ?_
    exact ⟨rfl, rfl⟩
def f_Mo_readRate_1 : Nat → VV → (Option (VV × Int))
  | 0, _ => none
  | n + 1, V => if (V 62 45) = 0 then if (V 62 111) = 0 then some (V, 1) else Option.bind (f_Mo_settleTo V 3) (fun q3 => some (q3, (if 0 < (q3 62 110) then 1 else 0 : Int))) else if (V 62 111) = 0 then Option.bind (f_Mo_beginOne V) (fun q7 => f_Mo_readRate_6 (f_Mo_readRate_1 n) q7.1 q7.2) else Option.bind (f_Mo_behindOne V) (fun q8 => f_Mo_readRate_6 (f_Mo_readRate_1 n) q8.1 q8.2)
set_option maxRecDepth 20000 in
set_option maxHeartbeats 4000000 in
theorem s_Mo_readRate_1_n {X : Xs} {d : Nat} {h : HP} {q : VV × Int} : ∀ (n : Nat) (V : VV) (z1 : Option AV), f_Mo_readRate_1 n V = some q → Ok X (d + 5) 224 1 ([some (.inr (.inr (.inl 63))), z1], [], mm V h) (fun M r => M = mm q.1 h ∧ r = some (.inl q.2)) := by
  intro n
  induction n with
  | zero => intro V z1 hf; cases hf
  | succ n ih =>
    intro V z1 hf
    let QQ : Mm → Option AV → Prop := fun M r => M = mm q.1 h ∧ r = some (.inl q.2)
    show Ok X (d + 5) 224 1 ([some (.inr (.inr (.inl 63))), z1], [], mm V h) QQ
    refine ok_if_eq (x := V 62 45) (L := [some (.inr (.inr (.inl 63))), z1]) (S := []) (M := mm V h) rfl rfl (fun c1 => ?_) (fun c1 => ?_)
    ·
      replace hf := (if_pos c1).symm.trans hf
      refine ok_if_ne (x := V 62 111) (L := [some (.inr (.inr (.inl 63))), z1]) (S := []) (M := mm V h) rfl rfl (fun c2 => ?_) (fun c2 => ?_)
      ·
        replace hf := (if_neg c2).symm.trans hf
        obtain ⟨q3, e3, hf⟩ := obind hf
        refine ok_callA (L := [some (.inr (.inr (.inl 63))), z1]) (M := mm V h) (args := [.inr (.inr (.inl 63)), .inl 3]) (rest := []) (y2 := 226) rfl rfl rfl (Or.inl rfl) rfl rfl (Nat.le_of_ble_eq_true rfl) rfl rfl (Nat.le_of_ble_eq_true rfl) (Nat.le_of_ble_eq_true rfl) (s_Mo_settleTo e3) ?_
        rintro _ _ ⟨rfl, rfl⟩
        have JN4 : Ok X (d + 5) 224 15 ([some (.inr (.inr (.inl 63))), z1], [.inl (if 0 < (q3 62 110) then 1 else 0 : Int)], mm q3 h) QQ := by
          obtain rfl := Option.some.inj hf
          refine ok_ireturn (L := [some (.inr (.inr (.inl 63))), z1]) (M := mm q3 h) (x := (if 0 < (q3 62 110) then 1 else 0 : Int)) rfl rfl ?_
          exact ⟨rfl, rfl⟩
        clear hf
        refine ok_if_le (x := q3 62 110) (L := [some (.inr (.inr (.inl 63))), z1]) (S := []) (M := mm q3 h) rfl rfl (fun c5 => ?_) (fun c5 => ?_)
        ·
          simp only [if_neg (Int.not_lt.mpr c5)] at JN4
          refine ok_thru (L := [some (.inr (.inr (.inl 63))), z1]) (S := [.inl 0]) (M := mm q3 h) rfl rfl ?_
          first | exact JN4 | (simp only [if_neg (Int.not_lt.mpr c5)]; exact JN4)
        ·
          simp only [if_pos c5] at JN4
          refine ok_goto (L := [some (.inr (.inr (.inl 63))), z1]) (S := [.inl 1]) (M := mm q3 h) rfl rfl ?_
          first | exact JN4 | (simp only [if_pos c5]; exact JN4)
      ·
        replace hf := (if_pos c2).symm.trans hf
        obtain rfl := Option.some.inj hf
        refine ok_ireturn (L := [some (.inr (.inr (.inl 63))), z1]) (M := mm V h) (x := 1) rfl rfl ?_
        exact ⟨rfl, rfl⟩
    ·
      replace hf := (if_neg c1).symm.trans hf
      refine ok_if_eq (x := V 62 111) (L := [some (.inr (.inr (.inl 63))), z1]) (S := []) (M := mm V h) rfl rfl (fun c6 => ?_) (fun c6 => ?_)
      ·
        replace hf := (if_pos c6).symm.trans hf
        obtain ⟨q7, e7, hf⟩ := obind hf
        refine ok_callA (L := [some (.inr (.inr (.inl 63))), z1]) (M := mm V h) (args := [.inr (.inr (.inl 63))]) (rest := []) (y2 := 230) rfl rfl rfl (Or.inl rfl) rfl rfl (Nat.le_of_ble_eq_true rfl) rfl rfl (Nat.le_of_ble_eq_true rfl) (Nat.le_of_ble_eq_true rfl) (s_Mo_beginOne e7) ?_
        rintro _ _ ⟨rfl, rfl⟩
        exact s_Mo_readRate_6 hf ih
      ·
        replace hf := (if_neg c6).symm.trans hf
        obtain ⟨q8, e8, hf⟩ := obind hf
        refine ok_callA (L := [some (.inr (.inr (.inl 63))), z1]) (M := mm V h) (args := [.inr (.inr (.inl 63))]) (rest := []) (y2 := 225) rfl rfl rfl (Or.inl rfl) rfl rfl (Nat.le_of_ble_eq_true rfl) rfl rfl (Nat.le_of_ble_eq_true rfl) (Nat.le_of_ble_eq_true rfl) (s_Mo_behindOne e8) ?_
        rintro _ _ ⟨rfl, rfl⟩
        refine ok_goto (L := [some (.inr (.inr (.inl 63))), z1]) (S := [.inl q8.2]) (M := mm q8.1 h) rfl rfl ?_
        exact s_Mo_readRate_6 hf ih
theorem s_Mo_readRate_1 {X : Xs} {d : Nat} {h : HP} {V : VV} {z1 : Option AV} {n : Nat} {q : VV × Int} (hf : f_Mo_readRate_1 n V = some q) : Ok X (d + 5) 224 1 ([some (.inr (.inr (.inl 63))), z1], [], mm V h) (fun M r => M = mm q.1 h ∧ r = some (.inl q.2)) :=
  s_Mo_readRate_1_n n V z1 hf
def f_Mo_readRate (V : VV)  : Option (VV × Int) := Option.bind (f_Mo_nextToken (up (up (up (up (up V 62 43 0) 62 108 0) 62 109 0) 62 110 0) 62 111 0)) (fun q1 => f_Mo_readRate_1 FU q1)
set_option maxRecDepth 20000 in
set_option maxHeartbeats 4000000 in
theorem s_Mo_readRate {X : Xs} {d : Nat} {V : VV} {h : HP} {q : VV × Int} (hf : f_Mo_readRate V = some q) : Ok X (d + 5) 224 0 ([some (.inr (.inr (.inl 63))), none], [], mm V h) (fun M r => M = mm q.1 h ∧ r = some (.inl q.2)) := by
  let QQ : Mm → Option AV → Prop := fun M r => M = mm q.1 h ∧ r = some (.inl q.2)
  show Ok X (d + 5) 224 0 ([some (.inr (.inr (.inl 63))), none], [], mm V h) QQ
  obtain ⟨q1, e1, hf⟩ := obind hf
  refine ok_callA (L := [some (.inr (.inr (.inl 63))), none]) (M := mm (up (up (up (up (up V 62 43 0) 62 108 0) 62 109 0) 62 110 0) 62 111 0) h) (args := [.inr (.inr (.inl 63))]) (rest := []) (y2 := 174) rfl rfl rfl (Or.inl rfl) rfl rfl (Nat.le_of_ble_eq_true rfl) rfl rfl (Nat.le_of_ble_eq_true rfl) (Nat.le_of_ble_eq_true rfl) (s_Mo_nextToken e1) ?_
  rintro _ _ ⟨rfl, rfl⟩
  exact s_Mo_readRate_1 hf
def f_Mo_rate_6 : Nat → VV → Int → (Option (VV × Int))
  | 0, _, _ => none
  | n + 1, V, v1 => if v1 < (V 62 108) then if 0 ≤ (w32 (128 + v1)) ∧ (w32 (128 + v1)) < (256 : Int) then if 0 ≤ v1 ∧ v1 < (256 : Int) then if 0 ≤ (w32 (128 + v1)) ∧ (w32 (128 + v1)) < (256 : Int) then if 0 ≤ v1 ∧ v1 < (256 : Int) then f_Mo_rate_6 n (up (up V 118 v1.toNat (V 118 ((w32 (128 + v1)).toNat))) 119 v1.toNat (V 119 ((w32 (128 + v1)).toNat))) (w32 (v1 + 1)) else none else none else none else none else some (V, 1)
set_option maxRecDepth 20000 in
set_option maxHeartbeats 4000000 in
theorem s_Mo_rate_6_n {X : Xs} {d : Nat} {h : HP} {q : VV × Int} : ∀ (n : Nat) (V : VV) (v1 : Int), f_Mo_rate_6 n V v1 = some q → Ok X (d + 6) 223 6 ([some (.inr (.inr (.inl 63))), some (.inl v1)], [], mm V h) (fun M r => M = mm q.1 h ∧ r = some (.inl q.2) ∧ (q.2 = 0 ∨ q.2 = 1)) := by
  intro n
  induction n with
  | zero => intro V v1 hf; cases hf
  | succ n ih =>
    intro V v1 hf
    let QQ : Mm → Option AV → Prop := fun M r => M = mm q.1 h ∧ r = some (.inl q.2) ∧ (q.2 = 0 ∨ q.2 = 1)
    show Ok X (d + 6) 223 6 ([some (.inr (.inr (.inl 63))), some (.inl v1)], [], mm V h) QQ
    refine ok_ic_ge (x := v1) (u := V 62 108) (L := [some (.inr (.inr (.inl 63))), some (.inl v1)]) (S := []) (M := mm V h) rfl rfl (fun c1 => ?_) (fun c1 => ?_)
    ·
      replace hf := (if_neg (Int.not_lt.mpr c1)).symm.trans hf
      obtain rfl := Option.some.inj hf
      have hz : (1 : Int) = 0 ∨ (1 : Int) = 1 := by
        first | exact Or.inl rfl | exact Or.inr rfl | assumption | (repeat' split) <;> first | exact Or.inl rfl | exact Or.inr rfl | assumption
      refine ok_zreturn (L := [some (.inr (.inr (.inl 63))), some (.inl v1)]) (M := mm V h) (x := 1) rfl rfl hz ?_
      exact ⟨rfl, rfl, hz⟩
    ·
      replace hf := (if_pos c1).symm.trans hf
      by_cases c2 : 0 ≤ (w32 (128 + v1)) ∧ (w32 (128 + v1)) < (256 : Int)
      case neg => replace hf := (if_neg c2).symm.trans hf; cases hf
      replace hf := (if_pos c2).symm.trans hf
      refine ok_iald (i := w32 (128 + v1)) (id := 118) (n := 256) (L := [some (.inr (.inr (.inl 63))), some (.inl v1)]) (S := [.inl v1, .inr (.inr (.inl 119))]) (M := mm V h) rfl rfl rfl c2.1 c2.2 ?_
      by_cases c3 : 0 ≤ v1 ∧ v1 < (256 : Int)
      case neg => replace hf := (if_neg c3).symm.trans hf; cases hf
      replace hf := (if_pos c3).symm.trans hf
      refine ok_iast (i := v1) (v := V 118 ((w32 (128 + v1)).toNat)) (id := 118) (n := 256) (L := [some (.inr (.inr (.inl 63))), some (.inl v1)]) (S := []) (M := mm V h) rfl rfl rfl c3.1 c3.2 ?_
      by_cases c4 : 0 ≤ (w32 (128 + v1)) ∧ (w32 (128 + v1)) < (256 : Int)
      case neg => replace hf := (if_neg c4).symm.trans hf; cases hf
      replace hf := (if_pos c4).symm.trans hf
      refine ok_iald (i := w32 (128 + v1)) (id := 119) (n := 256) (L := [some (.inr (.inr (.inl 63))), some (.inl v1)]) (S := [.inl v1, .inr (.inr (.inl 120))]) (M := mm (up V 118 v1.toNat (V 118 ((w32 (128 + v1)).toNat))) h) rfl rfl rfl c4.1 c4.2 ?_
      by_cases c5 : 0 ≤ v1 ∧ v1 < (256 : Int)
      case neg => replace hf := (if_neg c5).symm.trans hf; cases hf
      replace hf := (if_pos c5).symm.trans hf
      refine ok_iast (i := v1) (v := V 119 ((w32 (128 + v1)).toNat)) (id := 119) (n := 256) (L := [some (.inr (.inr (.inl 63))), some (.inl v1)]) (S := []) (M := mm (up V 118 v1.toNat (V 118 ((w32 (128 + v1)).toNat))) h) rfl rfl rfl c5.1 c5.2 ?_
      refine ok_goto (L := [some (.inr (.inr (.inl 63))), some (.inl (w32 (v1 + 1)))]) (S := []) (M := mm (up (up V 118 v1.toNat (V 118 ((w32 (128 + v1)).toNat))) 119 v1.toNat (V 119 ((w32 (128 + v1)).toNat))) h) rfl rfl ?_
      exact ih (up (up V 118 v1.toNat (V 118 ((w32 (128 + v1)).toNat))) 119 v1.toNat (V 119 ((w32 (128 + v1)).toNat))) (w32 (v1 + 1)) hf
theorem s_Mo_rate_6 {X : Xs} {d : Nat} {h : HP} {V : VV} {v1 : Int} {n : Nat} {q : VV × Int} (hf : f_Mo_rate_6 n V v1 = some q) : Ok X (d + 6) 223 6 ([some (.inr (.inr (.inl 63))), some (.inl v1)], [], mm V h) (fun M r => M = mm q.1 h ∧ r = some (.inl q.2) ∧ (q.2 = 0 ∨ q.2 = 1)) :=
  s_Mo_rate_6_n n V v1 hf
def f_Mo_rate (V : VV)  : Option (VV × Int) := if 100 < (V 62 40) then some (V, 0) else Option.bind (f_Mo_readRate V) (fun q2 => lt_ (f_Mo_isTold q2.1 q2.2) (fun q3 => if q3.2 = 0 then some (q3.1, 0) else f_Mo_rate_6 FU (up q3.1 62 105 (q3.1 62 108)) 0))
set_option maxRecDepth 20000 in
set_option maxHeartbeats 4000000 in
theorem s_Mo_rate {X : Xs} {d : Nat} {V : VV} {h : HP} {q : VV × Int} (hf : f_Mo_rate V = some q) : Ok X (d + 6) 223 0 ([some (.inr (.inr (.inl 63))), none], [], mm V h) (fun M r => M = mm q.1 h ∧ r = some (.inl q.2) ∧ (q.2 = 0 ∨ q.2 = 1)) := by
  let QQ : Mm → Option AV → Prop := fun M r => M = mm q.1 h ∧ r = some (.inl q.2) ∧ (q.2 = 0 ∨ q.2 = 1)
  show Ok X (d + 6) 223 0 ([some (.inr (.inr (.inl 63))), none], [], mm V h) QQ
  refine ok_ic_gt (x := V 62 40) (u := 100) (L := [some (.inr (.inr (.inl 63))), none]) (S := []) (M := mm V h) rfl rfl (fun c1 => ?_) (fun c1 => ?_)
  ·
    replace hf := (if_pos c1).symm.trans hf
    obtain rfl := Option.some.inj hf
    have hz : (0 : Int) = 0 ∨ (0 : Int) = 1 := by
      first | exact Or.inl rfl | exact Or.inr rfl | assumption | (repeat' split) <;> first | exact Or.inl rfl | exact Or.inr rfl | assumption
    refine ok_zreturn (L := [some (.inr (.inr (.inl 63))), none]) (M := mm V h) (x := 0) rfl rfl hz ?_
    exact ⟨rfl, rfl, hz⟩
  ·
    replace hf := (if_neg (Int.not_lt.mpr c1)).symm.trans hf
    obtain ⟨q2, e2, hf⟩ := obind hf
    refine ok_callA (L := [some (.inr (.inr (.inl 63))), none]) (M := mm V h) (args := [.inr (.inr (.inl 63))]) (rest := [.inr (.inr (.inl 63))]) (y2 := 224) rfl rfl rfl (Or.inl rfl) rfl rfl (Nat.le_of_ble_eq_true rfl) rfl rfl (Nat.le_of_ble_eq_true rfl) (Nat.le_of_ble_eq_true rfl) (s_Mo_readRate e2) ?_
    rintro _ _ ⟨rfl, rfl⟩
    obtain ⟨q3, e3, hf⟩ := lt_x hf
    refine ok_callA (L := [some (.inr (.inr (.inl 63))), none]) (M := mm q2.1 h) (args := [.inr (.inr (.inl 63)), .inl q2.2]) (rest := []) (y2 := 184) rfl rfl rfl (Or.inl rfl) rfl rfl (Nat.le_of_ble_eq_true rfl) rfl rfl (Nat.le_of_ble_eq_true rfl) (Nat.le_of_ble_eq_true rfl) (s_Mo_isTold e3) ?_
    rintro _ _ ⟨rfl, rfl, hz3⟩
    refine ok_if_ne (x := q3.2) (L := [some (.inr (.inr (.inl 63))), none]) (S := []) (M := mm q3.1 h) rfl rfl (fun c4 => ?_) (fun c4 => ?_)
    ·
      replace hf := (if_neg c4).symm.trans hf
      refine ok_thru (L := [some (.inr (.inr (.inl 63))), some (.inl 0)]) (S := []) (M := mm (up q3.1 62 105 (q3.1 62 108)) h) rfl rfl ?_
      exact s_Mo_rate_6 hf
    ·
      replace hf := (if_pos c4).symm.trans hf
      obtain rfl := Option.some.inj hf
      have hz : (0 : Int) = 0 ∨ (0 : Int) = 1 := by
        first | exact Or.inl rfl | exact Or.inr rfl | assumption | (repeat' split) <;> first | exact Or.inl rfl | exact Or.inr rfl | assumption
      refine ok_zreturn (L := [some (.inr (.inr (.inl 63))), none]) (M := mm q3.1 h) (x := 0) rfl rfl hz ?_
      exact ⟨rfl, rfl, hz⟩
def f_Mo_isSmall (V : VV) (v0 : Int) : Int := f_Mo_isIn V v0 (-1000000) 1000000
set_option maxRecDepth 20000 in
set_option maxHeartbeats 4000000 in
theorem s_Mo_isSmall {X : Xs} {d : Nat} {V : VV} {h : HP} {v0 : Int} {q : Int} (hf : f_Mo_isSmall V v0 = q) : Ok X (d + 2) 233 0 ([some (.inl v0)], [], mm V h) (fun M r => M = mm V h ∧ r = some (.inl q) ∧ (q = 0 ∨ q = 1)) := by
  let QQ : Mm → Option AV → Prop := fun M r => M = mm V h ∧ r = some (.inl q) ∧ (q = 0 ∨ q = 1)
  show Ok X (d + 2) 233 0 ([some (.inl v0)], [], mm V h) QQ
  refine ok_callA (L := [some (.inl v0)]) (M := mm V h) (args := [.inl v0, .inl (-1000000), .inl 1000000]) (rest := []) (y2 := 152) rfl rfl rfl (Or.inr (Or.inl rfl)) rfl rfl (Nat.le_of_ble_eq_true rfl) rfl rfl (Nat.le_of_ble_eq_true rfl) (Nat.le_of_ble_eq_true rfl) (s_Mo_isIn rfl) ?_
  rintro _ _ ⟨rfl, rfl, hz1⟩
  have hq : (f_Mo_isIn V v0 (-1000000) 1000000) = q := hf
  subst hq
  have hz : (f_Mo_isIn V v0 (-1000000) 1000000 : Int) = 0 ∨ (f_Mo_isIn V v0 (-1000000) 1000000 : Int) = 1 := by
    first | exact Or.inl rfl | exact Or.inr rfl | assumption | (repeat' split) <;> first | exact Or.inl rfl | exact Or.inr rfl | assumption
  refine ok_zreturn (L := [some (.inl v0)]) (M := mm V h) (x := f_Mo_isIn V v0 (-1000000) 1000000) rfl rfl hz ?_
  exact ⟨rfl, rfl, hz⟩
def f_Mo_clip (V : VV) (v0 : Int) : Int := (if 0 < (lcmpI v0 1000000000) then 1000000000 else (if (lcmpI v0 (-1000000000)) < 0 then (-1000000000) else v0 : Int) : Int)
set_option maxRecDepth 20000 in
set_option maxHeartbeats 4000000 in
theorem s_Mo_clip {X : Xs} {d : Nat} {V : VV} {h : HP} {v0 : Int} {q : Int} (hf : f_Mo_clip V v0 = q) : Ok X (d + 1) 236 0 ([some (.inr (.inl v0)), none], [], mm V h) (fun M r => M = mm V h ∧ r = some (.inr (.inl q))) := by
  let QQ : Mm → Option AV → Prop := fun M r => M = mm V h ∧ r = some (.inr (.inl q))
  show Ok X (d + 1) 236 0 ([some (.inr (.inl v0)), none], [], mm V h) QQ
  have JN1 : Ok X (d + 1) 236 5 ([some (.inr (.inl v0)), none], [.inr (.inl (if 0 < (lcmpI v0 1000000000) then 1000000000 else (if (lcmpI v0 (-1000000000)) < 0 then (-1000000000) else v0 : Int) : Int))], mm V h) QQ := by
    have hq : ((if 0 < (lcmpI v0 1000000000) then 1000000000 else (if (lcmpI v0 (-1000000000)) < 0 then (-1000000000) else v0 : Int) : Int)) = q := hf
    subst hq
    refine ok_lreturn (L := [some (.inr (.inl v0)), none]) (M := mm V h) (x := (if 0 < (lcmpI v0 1000000000) then 1000000000 else (if (lcmpI v0 (-1000000000)) < 0 then (-1000000000) else v0 : Int) : Int)) rfl rfl ?_
    exact ⟨rfl, rfl⟩
  clear hf
  refine ok_if_le (x := lcmpI v0 1000000000) (L := [some (.inr (.inl v0)), none]) (S := []) (M := mm V h) rfl rfl (fun c2 => ?_) (fun c2 => ?_)
  ·
    simp only [if_neg (Int.not_lt.mpr c2)] at JN1
    refine ok_if_ge (x := lcmpI v0 (-1000000000)) (L := [some (.inr (.inl v0)), none]) (S := []) (M := mm V h) rfl rfl (fun c3 => ?_) (fun c3 => ?_)
    ·
      simp only [if_neg (Int.not_lt.mpr c3)] at JN1
      refine ok_thru (L := [some (.inr (.inl v0)), none]) (S := [.inr (.inl v0)]) (M := mm V h) rfl rfl ?_
      first | exact JN1 | (simp only [if_neg (Int.not_lt.mpr c2), if_neg (Int.not_lt.mpr c3)]; exact JN1)
    ·
      simp only [if_pos c3] at JN1
      refine ok_goto (L := [some (.inr (.inl v0)), none]) (S := [.inr (.inl (-1000000000))]) (M := mm V h) rfl rfl ?_
      first | exact JN1 | (simp only [if_neg (Int.not_lt.mpr c2), if_pos c3]; exact JN1)
  ·
    simp only [if_pos c2] at JN1
    refine ok_goto (L := [some (.inr (.inl v0)), none]) (S := [.inr (.inl 1000000000)]) (M := mm V h) rfl rfl ?_
    first | exact JN1 | (simp only [if_pos c2]; exact JN1)
def f_Mo_act (V : VV) (v0 : Int) (v1 : Int) (v3 : Int) : Option (Int) := if v0 = 3 then some (f_Mo_clip V (w64 (v1 + v3))) else if v0 = 4 then some (f_Mo_clip V (w64 (v1 - v3))) else if v0 = 5 then some (f_Mo_clip V (w64 (v1 * v3))) else if v0 = 6 then if (lcmpI v3 0) = 0 then some 0 else if v3 = 0 then none else some (f_Mo_clip V (w64 (Int.tdiv v1 v3))) else if v0 = 7 then some (if (lcmpI v1 v3) < 0 then v1 else v3 : Int) else some (if 0 < (lcmpI v1 v3) then v1 else v3 : Int)
set_option maxRecDepth 20000 in
set_option maxHeartbeats 4000000 in
theorem s_Mo_act {X : Xs} {d : Nat} {V : VV} {h : HP} {v0 : Int} {v1 : Int} {v3 : Int} {q : Int} (hf : f_Mo_act V v0 v1 v3 = some q) : Ok X (d + 2) 235 0 ([some (.inl v0), some (.inr (.inl v1)), none, some (.inr (.inl v3)), none], [], mm V h) (fun M r => M = mm V h ∧ r = some (.inr (.inl q))) := by
  let QQ : Mm → Option AV → Prop := fun M r => M = mm V h ∧ r = some (.inr (.inl q))
  show Ok X (d + 2) 235 0 ([some (.inl v0), some (.inr (.inl v1)), none, some (.inr (.inl v3)), none], [], mm V h) QQ
  by_cases c1 : v0 = 3
  ·
    replace hf := (if_pos c1).symm.trans hf
    refine ok_sw (x := v0) (b1 := 1) (L := [some (.inl v0), some (.inr (.inl v1)), none, some (.inr (.inl v3)), none]) (S := []) (M := mm V h) rfl rfl (by rw [c1]; rfl) ?_
    refine ok_callA (L := [some (.inl v0), some (.inr (.inl v1)), none, some (.inr (.inl v3)), none]) (M := mm V h) (args := [.inr (.inl (w64 (v1 + v3)))]) (rest := []) (y2 := 236) rfl rfl rfl (Or.inr (Or.inl rfl)) rfl rfl (Nat.le_of_ble_eq_true rfl) rfl rfl (Nat.le_of_ble_eq_true rfl) (Nat.le_of_ble_eq_true rfl) (s_Mo_clip rfl) ?_
    rintro _ _ ⟨rfl, rfl⟩
    obtain rfl := Option.some.inj hf
    refine ok_lreturn (L := [some (.inl v0), some (.inr (.inl v1)), none, some (.inr (.inl v3)), none]) (M := mm V h) (x := f_Mo_clip V (w64 (v1 + v3))) rfl rfl ?_
    exact ⟨rfl, rfl⟩
  replace hf := (if_neg c1).symm.trans hf
  by_cases c3 : v0 = 4
  ·
    replace hf := (if_pos c3).symm.trans hf
    refine ok_sw (x := v0) (b1 := 3) (L := [some (.inl v0), some (.inr (.inl v1)), none, some (.inr (.inl v3)), none]) (S := []) (M := mm V h) rfl rfl (by rw [c3]; rfl) ?_
    refine ok_callA (L := [some (.inl v0), some (.inr (.inl v1)), none, some (.inr (.inl v3)), none]) (M := mm V h) (args := [.inr (.inl (w64 (v1 - v3)))]) (rest := []) (y2 := 236) rfl rfl rfl (Or.inr (Or.inl rfl)) rfl rfl (Nat.le_of_ble_eq_true rfl) rfl rfl (Nat.le_of_ble_eq_true rfl) (Nat.le_of_ble_eq_true rfl) (s_Mo_clip rfl) ?_
    rintro _ _ ⟨rfl, rfl⟩
    obtain rfl := Option.some.inj hf
    refine ok_lreturn (L := [some (.inl v0), some (.inr (.inl v1)), none, some (.inr (.inl v3)), none]) (M := mm V h) (x := f_Mo_clip V (w64 (v1 - v3))) rfl rfl ?_
    exact ⟨rfl, rfl⟩
  replace hf := (if_neg c3).symm.trans hf
  by_cases c5 : v0 = 5
  ·
    replace hf := (if_pos c5).symm.trans hf
    refine ok_sw (x := v0) (b1 := 5) (L := [some (.inl v0), some (.inr (.inl v1)), none, some (.inr (.inl v3)), none]) (S := []) (M := mm V h) rfl rfl (by rw [c5]; rfl) ?_
    refine ok_callA (L := [some (.inl v0), some (.inr (.inl v1)), none, some (.inr (.inl v3)), none]) (M := mm V h) (args := [.inr (.inl (w64 (v1 * v3)))]) (rest := []) (y2 := 236) rfl rfl rfl (Or.inr (Or.inl rfl)) rfl rfl (Nat.le_of_ble_eq_true rfl) rfl rfl (Nat.le_of_ble_eq_true rfl) (Nat.le_of_ble_eq_true rfl) (s_Mo_clip rfl) ?_
    rintro _ _ ⟨rfl, rfl⟩
    obtain rfl := Option.some.inj hf
    refine ok_lreturn (L := [some (.inl v0), some (.inr (.inl v1)), none, some (.inr (.inl v3)), none]) (M := mm V h) (x := f_Mo_clip V (w64 (v1 * v3))) rfl rfl ?_
    exact ⟨rfl, rfl⟩
  replace hf := (if_neg c5).symm.trans hf
  by_cases c7 : v0 = 6
  ·
    replace hf := (if_pos c7).symm.trans hf
    refine ok_sw (x := v0) (b1 := 7) (L := [some (.inl v0), some (.inr (.inl v1)), none, some (.inr (.inl v3)), none]) (S := []) (M := mm V h) rfl rfl (by rw [c7]; rfl) ?_
    refine ok_if_ne (x := lcmpI v3 0) (L := [some (.inl v0), some (.inr (.inl v1)), none, some (.inr (.inl v3)), none]) (S := []) (M := mm V h) rfl rfl (fun c8 => ?_) (fun c8 => ?_)
    ·
      replace hf := (if_neg c8).symm.trans hf
      by_cases c9 : v3 = 0
      case pos => replace hf := (if_pos c9).symm.trans hf; cases hf
      replace hf := (if_neg c9).symm.trans hf
      refine ok_ldiv (u := v1) (v := v3) (L := [some (.inl v0), some (.inr (.inl v1)), none, some (.inr (.inl v3)), none]) (S := []) (M := mm V h) rfl rfl c9 ?_
      refine ok_callA (L := [some (.inl v0), some (.inr (.inl v1)), none, some (.inr (.inl v3)), none]) (M := mm V h) (args := [.inr (.inl (w64 (Int.tdiv v1 v3)))]) (rest := []) (y2 := 236) rfl rfl rfl (Or.inr (Or.inl rfl)) rfl rfl (Nat.le_of_ble_eq_true rfl) rfl rfl (Nat.le_of_ble_eq_true rfl) (Nat.le_of_ble_eq_true rfl) (s_Mo_clip rfl) ?_
      rintro _ _ ⟨rfl, rfl⟩
      obtain rfl := Option.some.inj hf
      refine ok_lreturn (L := [some (.inl v0), some (.inr (.inl v1)), none, some (.inr (.inl v3)), none]) (M := mm V h) (x := f_Mo_clip V (w64 (Int.tdiv v1 v3))) rfl rfl ?_
      exact ⟨rfl, rfl⟩
    ·
      replace hf := (if_pos c8).symm.trans hf
      refine ok_goto (L := [some (.inl v0), some (.inr (.inl v1)), none, some (.inr (.inl v3)), none]) (S := [.inr (.inl 0)]) (M := mm V h) rfl rfl ?_
      obtain rfl := Option.some.inj hf
      refine ok_lreturn (L := [some (.inl v0), some (.inr (.inl v1)), none, some (.inr (.inl v3)), none]) (M := mm V h) (x := 0) rfl rfl ?_
      exact ⟨rfl, rfl⟩
  replace hf := (if_neg c7).symm.trans hf
  by_cases c11 : v0 = 7
  ·
    replace hf := (if_pos c11).symm.trans hf
    refine ok_sw (x := v0) (b1 := 12) (L := [some (.inl v0), some (.inr (.inl v1)), none, some (.inr (.inl v3)), none]) (S := []) (M := mm V h) rfl rfl (by rw [c11]; rfl) ?_
    have JN12 : Ok X (d + 2) 235 15 ([some (.inl v0), some (.inr (.inl v1)), none, some (.inr (.inl v3)), none], [.inr (.inl (if (lcmpI v1 v3) < 0 then v1 else v3 : Int))], mm V h) QQ := by
      obtain rfl := Option.some.inj hf
      refine ok_lreturn (L := [some (.inl v0), some (.inr (.inl v1)), none, some (.inr (.inl v3)), none]) (M := mm V h) (x := (if (lcmpI v1 v3) < 0 then v1 else v3 : Int)) rfl rfl ?_
      exact ⟨rfl, rfl⟩
    clear hf
    refine ok_if_ge (x := lcmpI v1 v3) (L := [some (.inl v0), some (.inr (.inl v1)), none, some (.inr (.inl v3)), none]) (S := []) (M := mm V h) rfl rfl (fun c13 => ?_) (fun c13 => ?_)
    ·
      simp only [if_neg (Int.not_lt.mpr c13)] at JN12
      refine ok_thru (L := [some (.inl v0), some (.inr (.inl v1)), none, some (.inr (.inl v3)), none]) (S := [.inr (.inl v3)]) (M := mm V h) rfl rfl ?_
      first | exact JN12 | (simp only [if_neg (Int.not_lt.mpr c13)]; exact JN12)
    ·
      simp only [if_pos c13] at JN12
      refine ok_goto (L := [some (.inl v0), some (.inr (.inl v1)), none, some (.inr (.inl v3)), none]) (S := [.inr (.inl v1)]) (M := mm V h) rfl rfl ?_
      first | exact JN12 | (simp only [if_pos c13]; exact JN12)
  replace hf := (if_neg c11).symm.trans hf
  refine ok_sw (x := v0) (b1 := 16) (L := [some (.inl v0), some (.inr (.inl v1)), none, some (.inr (.inl v3)), none]) (S := []) (M := mm V h) rfl rfl (if_pos (by omega)) ?_
  have JN14 : Ok X (d + 2) 235 19 ([some (.inl v0), some (.inr (.inl v1)), none, some (.inr (.inl v3)), none], [.inr (.inl (if 0 < (lcmpI v1 v3) then v1 else v3 : Int))], mm V h) QQ := by
    obtain rfl := Option.some.inj hf
    refine ok_lreturn (L := [some (.inl v0), some (.inr (.inl v1)), none, some (.inr (.inl v3)), none]) (M := mm V h) (x := (if 0 < (lcmpI v1 v3) then v1 else v3 : Int)) rfl rfl ?_
    exact ⟨rfl, rfl⟩
  clear hf
  refine ok_if_le (x := lcmpI v1 v3) (L := [some (.inl v0), some (.inr (.inl v1)), none, some (.inr (.inl v3)), none]) (S := []) (M := mm V h) rfl rfl (fun c15 => ?_) (fun c15 => ?_)
  ·
    simp only [if_neg (Int.not_lt.mpr c15)] at JN14
    refine ok_thru (L := [some (.inl v0), some (.inr (.inl v1)), none, some (.inr (.inl v3)), none]) (S := [.inr (.inl v3)]) (M := mm V h) rfl rfl ?_
    first | exact JN14 | (simp only [if_neg (Int.not_lt.mpr c15)]; exact JN14)
  ·
    simp only [if_pos c15] at JN14
    refine ok_goto (L := [some (.inl v0), some (.inr (.inl v1)), none, some (.inr (.inl v3)), none]) (S := [.inr (.inl v1)]) (M := mm V h) rfl rfl ?_
    first | exact JN14 | (simp only [if_pos c15]; exact JN14)
def f_Mo_work_25 (k1 : VV → Int → Int → Int → Int → Int → Int → (Option (VV × Int))) (V : VV) (v1 : Int) (v2 : Int) (v3 : Int) (v4 : Int) (v5 : Int) (v6 : Int) : Option (VV × Int) := k1 V v1 v2 v3 v4 v5 (w32 (v6 + 1))
set_option maxRecDepth 20000 in
set_option maxHeartbeats 4000000 in
theorem s_Mo_work_25 {X : Xs} {d : Nat} {k1 : VV → Int → Int → Int → Int → Int → Int → (Option (VV × Int))} {V : VV} {h : HP} {v1 : Int} {v2 : Int} {v3 : Int} {v4 : Int} {v5 : Int} {v6 : Int} {w7 : Int} {z8 : Option AV} {q : VV × Int} (hf : f_Mo_work_25 k1 V v1 v2 v3 v4 v5 v6 = some q) (K1 : ∀ (V : VV) (v1 : Int) (v2 : Int) (v3 : Int) (v4 : Int) (v5 : Int) (v6 : Int) (z7 : Option AV) (z8 : Option AV), k1 V v1 v2 v3 v4 v5 v6 = some q → Ok X (d + 3) 234 1 ([some (.inr (.inr (.inl 63))), some (.inl v1), some (.inl v2), some (.inl v3), some (.inl v4), some (.inl v5), some (.inl v6), z7, z8], [], mm V h) (fun M r => M = mm q.1 h ∧ r = some (.inl q.2))) : Ok X (d + 3) 234 25 ([some (.inr (.inr (.inl 63))), some (.inl v1), some (.inl v2), some (.inl v3), some (.inl v4), some (.inl v5), some (.inl v6), some (.inl w7), z8], [], mm V h) (fun M r => M = mm q.1 h ∧ r = some (.inl q.2)) := by
  let QQ : Mm → Option AV → Prop := fun M r => M = mm q.1 h ∧ r = some (.inl q.2)
  show Ok X (d + 3) 234 25 ([some (.inr (.inr (.inl 63))), some (.inl v1), some (.inl v2), some (.inl v3), some (.inl v4), some (.inl v5), some (.inl v6), some (.inl w7), z8], [], mm V h) QQ
  refine ok_goto (L := [some (.inr (.inr (.inl 63))), some (.inl v1), some (.inl v2), some (.inl v3), some (.inl v4), some (.inl v5), some (.inl (w32 (v6 + 1))), some (.inl w7), z8]) (S := []) (M := mm V h) rfl rfl ?_
  exact K1 V v1 v2 v3 v4 v5 (w32 (v6 + 1)) (some (.inl w7)) z8 hf
def f_Mo_work_5 (k1 : VV → Int → Int → Int → Int → Int → Int → (Option (VV × Int))) (V : VV) (v1 : Int) (v2 : Int) (v3 : Int) (v4 : Int) (v5 : Int) (v6 : Int) (v7 : Int) : Option (VV × Int) := if 0 ≤ v6 ∧ v6 < (256 : Int) then if 0 ≤ v5 ∧ v5 < (128 : Int) then f_Mo_work_25 k1 (up V 121 v5.toNat (if v7 = 0 then V 119 v6.toNat else (if (V 119 v6.toNat) = 0 then v1 else (if (V 119 v6.toNat) = 1 then v2 else (if (V 119 v6.toNat) = 2 then v3 else v4 : Int) : Int) : Int) : Int)) v1 v2 v3 v4 (w32 (v5 + 1)) v6 else none else none
set_option maxRecDepth 20000 in
set_option maxHeartbeats 4000000 in
theorem s_Mo_work_5 {X : Xs} {d : Nat} {k1 : VV → Int → Int → Int → Int → Int → Int → (Option (VV × Int))} {V : VV} {h : HP} {v1 : Int} {v2 : Int} {v3 : Int} {v4 : Int} {v5 : Int} {v6 : Int} {v7 : Int} {z8 : Option AV} {q : VV × Int} (hf : f_Mo_work_5 k1 V v1 v2 v3 v4 v5 v6 v7 = some q) (K1 : ∀ (V : VV) (v1 : Int) (v2 : Int) (v3 : Int) (v4 : Int) (v5 : Int) (v6 : Int) (z7 : Option AV) (z8 : Option AV), k1 V v1 v2 v3 v4 v5 v6 = some q → Ok X (d + 3) 234 1 ([some (.inr (.inr (.inl 63))), some (.inl v1), some (.inl v2), some (.inl v3), some (.inl v4), some (.inl v5), some (.inl v6), z7, z8], [], mm V h) (fun M r => M = mm q.1 h ∧ r = some (.inl q.2))) : Ok X (d + 3) 234 5 ([some (.inr (.inr (.inl 63))), some (.inl v1), some (.inl v2), some (.inl v3), some (.inl v4), some (.inl v5), some (.inl v6), some (.inl v7), z8], [], mm V h) (fun M r => M = mm q.1 h ∧ r = some (.inl q.2)) := by
  let QQ : Mm → Option AV → Prop := fun M r => M = mm q.1 h ∧ r = some (.inl q.2)
  show Ok X (d + 3) 234 5 ([some (.inr (.inr (.inl 63))), some (.inl v1), some (.inl v2), some (.inl v3), some (.inl v4), some (.inl v5), some (.inl v6), some (.inl v7), z8], [], mm V h) QQ
  by_cases c1 : 0 ≤ v6 ∧ v6 < (256 : Int)
  case neg => replace hf := (if_neg c1).symm.trans hf; cases hf
  replace hf := (if_pos c1).symm.trans hf
  refine ok_iald (i := v6) (id := 119) (n := 256) (L := [some (.inr (.inr (.inl 63))), some (.inl v1), some (.inl v2), some (.inl v3), some (.inl v4), some (.inl v5), some (.inl v6), some (.inl v7), z8]) (S := []) (M := mm V h) rfl rfl rfl c1.1 c1.2 ?_
  have JN2 : Ok X (d + 3) 234 15 ([some (.inr (.inr (.inl 63))), some (.inl v1), some (.inl v2), some (.inl v3), some (.inl v4), some (.inl v5), some (.inl v6), some (.inl v7), some (.inl (V 119 v6.toNat))], [.inr (.inl (if v7 = 0 then V 119 v6.toNat else (if (V 119 v6.toNat) = 0 then v1 else (if (V 119 v6.toNat) = 1 then v2 else (if (V 119 v6.toNat) = 2 then v3 else v4 : Int) : Int) : Int) : Int)), .inl v5, .inr (.inr (.inl 122))], mm V h) QQ := by
    by_cases c3 : 0 ≤ v5 ∧ v5 < (128 : Int)
    case neg => replace hf := (if_neg c3).symm.trans hf; cases hf
    replace hf := (if_pos c3).symm.trans hf
    refine ok_last (i := v5) (v := (if v7 = 0 then V 119 v6.toNat else (if (V 119 v6.toNat) = 0 then v1 else (if (V 119 v6.toNat) = 1 then v2 else (if (V 119 v6.toNat) = 2 then v3 else v4 : Int) : Int) : Int) : Int)) (id := 121) (n := 128) (L := [some (.inr (.inr (.inl 63))), some (.inl v1), some (.inl v2), some (.inl v3), some (.inl v4), some (.inl v5), some (.inl v6), some (.inl v7), some (.inl (V 119 v6.toNat))]) (S := []) (M := mm V h) rfl rfl rfl c3.1 c3.2 ?_
    refine ok_goto (L := [some (.inr (.inr (.inl 63))), some (.inl v1), some (.inl v2), some (.inl v3), some (.inl v4), some (.inl (w32 (v5 + 1))), some (.inl v6), some (.inl v7), some (.inl (V 119 v6.toNat))]) (S := []) (M := mm (up V 121 v5.toNat (if v7 = 0 then V 119 v6.toNat else (if (V 119 v6.toNat) = 0 then v1 else (if (V 119 v6.toNat) = 1 then v2 else (if (V 119 v6.toNat) = 2 then v3 else v4 : Int) : Int) : Int) : Int)) h) rfl rfl ?_
    exact s_Mo_work_25 hf K1
  clear hf
  refine ok_if_ne (x := v7) (L := [some (.inr (.inr (.inl 63))), some (.inl v1), some (.inl v2), some (.inl v3), some (.inl v4), some (.inl v5), some (.inl v6), some (.inl v7), some (.inl (V 119 v6.toNat))]) (S := [.inl v5, .inr (.inr (.inl 122))]) (M := mm V h) rfl rfl (fun c4 => ?_) (fun c4 => ?_)
  ·
    simp only [if_neg c4] at JN2
    refine ok_if_ne (x := V 119 v6.toNat) (L := [some (.inr (.inr (.inl 63))), some (.inl v1), some (.inl v2), some (.inl v3), some (.inl v4), some (.inl v5), some (.inl v6), some (.inl v7), some (.inl (V 119 v6.toNat))]) (S := [.inl v5, .inr (.inr (.inl 122))]) (M := mm V h) rfl rfl (fun c5 => ?_) (fun c5 => ?_)
    ·
      simp only [if_neg c5] at JN2
      refine ok_ic_ne (x := V 119 v6.toNat) (u := 1) (L := [some (.inr (.inr (.inl 63))), some (.inl v1), some (.inl v2), some (.inl v3), some (.inl v4), some (.inl v5), some (.inl v6), some (.inl v7), some (.inl (V 119 v6.toNat))]) (S := [.inl v5, .inr (.inr (.inl 122))]) (M := mm V h) rfl rfl (fun c6 => ?_) (fun c6 => ?_)
      ·
        simp only [if_neg c6] at JN2
        refine ok_ic_ne (x := V 119 v6.toNat) (u := 2) (L := [some (.inr (.inr (.inl 63))), some (.inl v1), some (.inl v2), some (.inl v3), some (.inl v4), some (.inl v5), some (.inl v6), some (.inl v7), some (.inl (V 119 v6.toNat))]) (S := [.inl v5, .inr (.inr (.inl 122))]) (M := mm V h) rfl rfl (fun c7 => ?_) (fun c7 => ?_)
        ·
          simp only [if_neg c7] at JN2
          refine ok_thru (L := [some (.inr (.inr (.inl 63))), some (.inl v1), some (.inl v2), some (.inl v3), some (.inl v4), some (.inl v5), some (.inl v6), some (.inl v7), some (.inl (V 119 v6.toNat))]) (S := [.inr (.inl v4), .inl v5, .inr (.inr (.inl 122))]) (M := mm V h) rfl rfl ?_
          first | exact JN2 | (simp only [if_neg c4, if_neg c5, if_neg c6, if_neg c7]; exact JN2)
        ·
          simp only [if_pos c7] at JN2
          refine ok_goto (L := [some (.inr (.inr (.inl 63))), some (.inl v1), some (.inl v2), some (.inl v3), some (.inl v4), some (.inl v5), some (.inl v6), some (.inl v7), some (.inl (V 119 v6.toNat))]) (S := [.inr (.inl v3), .inl v5, .inr (.inr (.inl 122))]) (M := mm V h) rfl rfl ?_
          first | exact JN2 | (simp only [if_neg c4, if_neg c5, if_neg c6, if_pos c7]; exact JN2)
      ·
        simp only [if_pos c6] at JN2
        refine ok_goto (L := [some (.inr (.inr (.inl 63))), some (.inl v1), some (.inl v2), some (.inl v3), some (.inl v4), some (.inl v5), some (.inl v6), some (.inl v7), some (.inl (V 119 v6.toNat))]) (S := [.inr (.inl v2), .inl v5, .inr (.inr (.inl 122))]) (M := mm V h) rfl rfl ?_
        first | exact JN2 | (simp only [if_neg c4, if_neg c5, if_pos c6]; exact JN2)
    ·
      simp only [if_pos c5] at JN2
      refine ok_goto (L := [some (.inr (.inr (.inl 63))), some (.inl v1), some (.inl v2), some (.inl v3), some (.inl v4), some (.inl v5), some (.inl v6), some (.inl v7), some (.inl (V 119 v6.toNat))]) (S := [.inr (.inl v1), .inl v5, .inr (.inr (.inl 122))]) (M := mm V h) rfl rfl ?_
      first | exact JN2 | (simp only [if_neg c4, if_pos c5]; exact JN2)
  ·
    simp only [if_pos c4] at JN2
    refine ok_goto (L := [some (.inr (.inr (.inl 63))), some (.inl v1), some (.inl v2), some (.inl v3), some (.inl v4), some (.inl v5), some (.inl v6), some (.inl v7), some (.inl (V 119 v6.toNat))]) (S := [.inr (.inl (V 119 v6.toNat)), .inl v5, .inr (.inr (.inl 122))]) (M := mm V h) rfl rfl ?_
    first | exact JN2 | (simp only [if_pos c4]; exact JN2)
def f_Mo_work_1 : Nat → VV → Int → Int → Int → Int → Int → Int → (Option (VV × Int))
  | 0, _, _, _, _, _, _, _ => none
  | n + 1, V, v1, v2, v3, v4, v5, v6 => if v6 < (V 62 105) then if 0 ≤ v6 ∧ v6 < (256 : Int) then if (V 118 v6.toNat) = 0 then f_Mo_work_5 (f_Mo_work_1 n) V v1 v2 v3 v4 v5 v6 (V 118 v6.toNat) else if (V 118 v6.toNat) = 1 then f_Mo_work_5 (f_Mo_work_1 n) V v1 v2 v3 v4 v5 v6 (V 118 v6.toNat) else if (V 118 v6.toNat) = 2 then if 0 ≤ (w32 (v5 - 1)) ∧ (w32 (v5 - 1)) < (128 : Int) then if 0 ≤ (w32 (v5 - 1)) ∧ (w32 (v5 - 1)) < (128 : Int) then f_Mo_work_25 (f_Mo_work_1 n) (up V 121 ((w32 (v5 - 1)).toNat) (w64 (-(V 121 ((w32 (v5 - 1)).toNat))))) v1 v2 v3 v4 v5 v6 else none else none else if 0 ≤ (w32 ((w32 (v5 + (-1))) - 1)) ∧ (w32 ((w32 (v5 + (-1))) - 1)) < (128 : Int) then if 0 ≤ (w32 (v5 + (-1))) ∧ (w32 (v5 + (-1))) < (128 : Int) then Option.bind (f_Mo_act V (V 118 v6.toNat) (V 121 ((w32 ((w32 (v5 + (-1))) - 1)).toNat)) (V 121 ((w32 (v5 + (-1))).toNat))) (fun q9 => if 0 ≤ (w32 ((w32 (v5 + (-1))) - 1)) ∧ (w32 ((w32 (v5 + (-1))) - 1)) < (128 : Int) then f_Mo_work_25 (f_Mo_work_1 n) (up V 121 ((w32 ((w32 (v5 + (-1))) - 1)).toNat) q9) v1 v2 v3 v4 (w32 (v5 + (-1))) v6 else none) else none else none else none else some (V, w32 (V 121 0))
set_option maxRecDepth 20000 in
set_option maxHeartbeats 4000000 in
theorem s_Mo_work_1_n {X : Xs} {d : Nat} {h : HP} {q : VV × Int} : ∀ (n : Nat) (V : VV) (v1 : Int) (v2 : Int) (v3 : Int) (v4 : Int) (v5 : Int) (v6 : Int) (z7 : Option AV) (z8 : Option AV), f_Mo_work_1 n V v1 v2 v3 v4 v5 v6 = some q → Ok X (d + 3) 234 1 ([some (.inr (.inr (.inl 63))), some (.inl v1), some (.inl v2), some (.inl v3), some (.inl v4), some (.inl v5), some (.inl v6), z7, z8], [], mm V h) (fun M r => M = mm q.1 h ∧ r = some (.inl q.2)) := by
  intro n
  induction n with
  | zero => intro V v1 v2 v3 v4 v5 v6 z7 z8 hf; cases hf
  | succ n ih =>
    intro V v1 v2 v3 v4 v5 v6 z7 z8 hf
    let QQ : Mm → Option AV → Prop := fun M r => M = mm q.1 h ∧ r = some (.inl q.2)
    show Ok X (d + 3) 234 1 ([some (.inr (.inr (.inl 63))), some (.inl v1), some (.inl v2), some (.inl v3), some (.inl v4), some (.inl v5), some (.inl v6), z7, z8], [], mm V h) QQ
    refine ok_ic_ge (x := v6) (u := V 62 105) (L := [some (.inr (.inr (.inl 63))), some (.inl v1), some (.inl v2), some (.inl v3), some (.inl v4), some (.inl v5), some (.inl v6), z7, z8]) (S := []) (M := mm V h) rfl rfl (fun c1 => ?_) (fun c1 => ?_)
    ·
      replace hf := (if_neg (Int.not_lt.mpr c1)).symm.trans hf
      refine ok_lald (i := 0) (id := 121) (n := 128) (L := [some (.inr (.inr (.inl 63))), some (.inl v1), some (.inl v2), some (.inl v3), some (.inl v4), some (.inl v5), some (.inl v6), z7, z8]) (S := []) (M := mm V h) rfl rfl rfl (by decide) (by decide) ?_
      obtain rfl := Option.some.inj hf
      refine ok_ireturn (L := [some (.inr (.inr (.inl 63))), some (.inl v1), some (.inl v2), some (.inl v3), some (.inl v4), some (.inl v5), some (.inl v6), z7, z8]) (M := mm V h) (x := w32 (V 121 0)) rfl rfl ?_
      exact ⟨rfl, rfl⟩
    ·
      replace hf := (if_pos c1).symm.trans hf
      by_cases c3 : 0 ≤ v6 ∧ v6 < (256 : Int)
      case neg => replace hf := (if_neg c3).symm.trans hf; cases hf
      replace hf := (if_pos c3).symm.trans hf
      refine ok_iald (i := v6) (id := 118) (n := 256) (L := [some (.inr (.inr (.inl 63))), some (.inl v1), some (.inl v2), some (.inl v3), some (.inl v4), some (.inl v5), some (.inl v6), z7, z8]) (S := []) (M := mm V h) rfl rfl rfl c3.1 c3.2 ?_
      refine ok_if_eq (x := V 118 v6.toNat) (L := [some (.inr (.inr (.inl 63))), some (.inl v1), some (.inl v2), some (.inl v3), some (.inl v4), some (.inl v5), some (.inl v6), some (.inl (V 118 v6.toNat)), z8]) (S := []) (M := mm V h) rfl rfl (fun c4 => ?_) (fun c4 => ?_)
      ·
        replace hf := (if_pos c4).symm.trans hf
        exact s_Mo_work_5 hf ih
      ·
        replace hf := (if_neg c4).symm.trans hf
        refine ok_ic_ne (x := V 118 v6.toNat) (u := 1) (L := [some (.inr (.inr (.inl 63))), some (.inl v1), some (.inl v2), some (.inl v3), some (.inl v4), some (.inl v5), some (.inl v6), some (.inl (V 118 v6.toNat)), z8]) (S := []) (M := mm V h) rfl rfl (fun c5 => ?_) (fun c5 => ?_)
        ·
          replace hf := (if_neg c5).symm.trans hf
          refine ok_ic_ne (x := V 118 v6.toNat) (u := 2) (L := [some (.inr (.inr (.inl 63))), some (.inl v1), some (.inl v2), some (.inl v3), some (.inl v4), some (.inl v5), some (.inl v6), some (.inl (V 118 v6.toNat)), z8]) (S := []) (M := mm V h) rfl rfl (fun c6 => ?_) (fun c6 => ?_)
          ·
            replace hf := (if_neg c6).symm.trans hf
            by_cases c7 : 0 ≤ (w32 ((w32 (v5 + (-1))) - 1)) ∧ (w32 ((w32 (v5 + (-1))) - 1)) < (128 : Int)
            case neg => replace hf := (if_neg c7).symm.trans hf; cases hf
            replace hf := (if_pos c7).symm.trans hf
            refine ok_lald (i := w32 ((w32 (v5 + (-1))) - 1)) (id := 121) (n := 128) (L := [some (.inr (.inr (.inl 63))), some (.inl v1), some (.inl v2), some (.inl v3), some (.inl v4), some (.inl (w32 (v5 + (-1)))), some (.inl v6), some (.inl (V 118 v6.toNat)), z8]) (S := [.inl (V 118 v6.toNat), .inl (w32 ((w32 (v5 + (-1))) - 1)), .inr (.inr (.inl 122))]) (M := mm V h) rfl rfl rfl c7.1 c7.2 ?_
            by_cases c8 : 0 ≤ (w32 (v5 + (-1))) ∧ (w32 (v5 + (-1))) < (128 : Int)
            case neg => replace hf := (if_neg c8).symm.trans hf; cases hf
            replace hf := (if_pos c8).symm.trans hf
            refine ok_lald (i := w32 (v5 + (-1))) (id := 121) (n := 128) (L := [some (.inr (.inr (.inl 63))), some (.inl v1), some (.inl v2), some (.inl v3), some (.inl v4), some (.inl (w32 (v5 + (-1)))), some (.inl v6), some (.inl (V 118 v6.toNat)), z8]) (S := [.inr (.inl (V 121 ((w32 ((w32 (v5 + (-1))) - 1)).toNat))), .inl (V 118 v6.toNat), .inl (w32 ((w32 (v5 + (-1))) - 1)), .inr (.inr (.inl 122))]) (M := mm V h) rfl rfl rfl c8.1 c8.2 ?_
            obtain ⟨q9, e9, hf⟩ := obind hf
            refine ok_callA (L := [some (.inr (.inr (.inl 63))), some (.inl v1), some (.inl v2), some (.inl v3), some (.inl v4), some (.inl (w32 (v5 + (-1)))), some (.inl v6), some (.inl (V 118 v6.toNat)), z8]) (M := mm V h) (args := [.inl (V 118 v6.toNat), .inr (.inl (V 121 ((w32 ((w32 (v5 + (-1))) - 1)).toNat))), .inr (.inl (V 121 ((w32 (v5 + (-1))).toNat)))]) (rest := [.inl (w32 ((w32 (v5 + (-1))) - 1)), .inr (.inr (.inl 122))]) (y2 := 235) rfl rfl rfl (Or.inr (Or.inl rfl)) rfl rfl (Nat.le_of_ble_eq_true rfl) rfl rfl (Nat.le_of_ble_eq_true rfl) (Nat.le_of_ble_eq_true rfl) (s_Mo_act e9) ?_
            rintro _ _ ⟨rfl, rfl⟩
            by_cases c10 : 0 ≤ (w32 ((w32 (v5 + (-1))) - 1)) ∧ (w32 ((w32 (v5 + (-1))) - 1)) < (128 : Int)
            case neg => replace hf := (if_neg c10).symm.trans hf; cases hf
            replace hf := (if_pos c10).symm.trans hf
            refine ok_last (i := w32 ((w32 (v5 + (-1))) - 1)) (v := q9) (id := 121) (n := 128) (L := [some (.inr (.inr (.inl 63))), some (.inl v1), some (.inl v2), some (.inl v3), some (.inl v4), some (.inl (w32 (v5 + (-1)))), some (.inl v6), some (.inl (V 118 v6.toNat)), z8]) (S := []) (M := mm V h) rfl rfl rfl c10.1 c10.2 ?_
            exact s_Mo_work_25 hf ih
          ·
            replace hf := (if_pos c6).symm.trans hf
            by_cases c11 : 0 ≤ (w32 (v5 - 1)) ∧ (w32 (v5 - 1)) < (128 : Int)
            case neg => replace hf := (if_neg c11).symm.trans hf; cases hf
            replace hf := (if_pos c11).symm.trans hf
            refine ok_lald (i := w32 (v5 - 1)) (id := 121) (n := 128) (L := [some (.inr (.inr (.inl 63))), some (.inl v1), some (.inl v2), some (.inl v3), some (.inl v4), some (.inl v5), some (.inl v6), some (.inl (V 118 v6.toNat)), z8]) (S := [.inl (w32 (v5 - 1)), .inr (.inr (.inl 122))]) (M := mm V h) rfl rfl rfl c11.1 c11.2 ?_
            by_cases c12 : 0 ≤ (w32 (v5 - 1)) ∧ (w32 (v5 - 1)) < (128 : Int)
            case neg => replace hf := (if_neg c12).symm.trans hf; cases hf
            replace hf := (if_pos c12).symm.trans hf
            refine ok_last (i := w32 (v5 - 1)) (v := w64 (-(V 121 ((w32 (v5 - 1)).toNat)))) (id := 121) (n := 128) (L := [some (.inr (.inr (.inl 63))), some (.inl v1), some (.inl v2), some (.inl v3), some (.inl v4), some (.inl v5), some (.inl v6), some (.inl (V 118 v6.toNat)), z8]) (S := []) (M := mm V h) rfl rfl rfl c12.1 c12.2 ?_
            refine ok_goto (L := [some (.inr (.inr (.inl 63))), some (.inl v1), some (.inl v2), some (.inl v3), some (.inl v4), some (.inl v5), some (.inl v6), some (.inl (V 118 v6.toNat)), z8]) (S := []) (M := mm (up V 121 ((w32 (v5 - 1)).toNat) (w64 (-(V 121 ((w32 (v5 - 1)).toNat))))) h) rfl rfl ?_
            exact s_Mo_work_25 hf ih
        ·
          replace hf := (if_pos c5).symm.trans hf
          exact s_Mo_work_5 hf ih
theorem s_Mo_work_1 {X : Xs} {d : Nat} {h : HP} {V : VV} {v1 : Int} {v2 : Int} {v3 : Int} {v4 : Int} {v5 : Int} {v6 : Int} {z7 : Option AV} {z8 : Option AV} {n : Nat} {q : VV × Int} (hf : f_Mo_work_1 n V v1 v2 v3 v4 v5 v6 = some q) : Ok X (d + 3) 234 1 ([some (.inr (.inr (.inl 63))), some (.inl v1), some (.inl v2), some (.inl v3), some (.inl v4), some (.inl v5), some (.inl v6), z7, z8], [], mm V h) (fun M r => M = mm q.1 h ∧ r = some (.inl q.2)) :=
  s_Mo_work_1_n n V v1 v2 v3 v4 v5 v6 z7 z8 hf
def f_Mo_work (V : VV) (v1 : Int) (v2 : Int) (v3 : Int) (v4 : Int) : Option (VV × Int) := f_Mo_work_1 FU V v1 v2 v3 v4 0 0
set_option maxRecDepth 20000 in
set_option maxHeartbeats 4000000 in
theorem s_Mo_work {X : Xs} {d : Nat} {V : VV} {h : HP} {v1 : Int} {v2 : Int} {v3 : Int} {v4 : Int} {q : VV × Int} (hf : f_Mo_work V v1 v2 v3 v4 = some q) : Ok X (d + 3) 234 0 ([some (.inr (.inr (.inl 63))), some (.inl v1), some (.inl v2), some (.inl v3), some (.inl v4), none, none, none, none], [], mm V h) (fun M r => M = mm q.1 h ∧ r = some (.inl q.2)) := by
  let QQ : Mm → Option AV → Prop := fun M r => M = mm q.1 h ∧ r = some (.inl q.2)
  show Ok X (d + 3) 234 0 ([some (.inr (.inr (.inl 63))), some (.inl v1), some (.inl v2), some (.inl v3), some (.inl v4), none, none, none, none], [], mm V h) QQ
  refine ok_thru (L := [some (.inr (.inr (.inl 63))), some (.inl v1), some (.inl v2), some (.inl v3), some (.inl v4), some (.inl 0), some (.inl 0), none, none]) (S := []) (M := mm V h) rfl rfl ?_
  exact s_Mo_work_1 hf
def f_Mo_tells_10 (V : VV)  : Option (VV × Int) := some (V, (-2000000000))
set_option maxRecDepth 20000 in
set_option maxHeartbeats 4000000 in
theorem s_Mo_tells_10 {X : Xs} {d : Nat} {V : VV} {h : HP} {w1 : Int} {w2 : Int} {w3 : Int} {w4 : Int} {q : VV × Int} (hf : f_Mo_tells_10 V = some q) : Ok X (d + 4) 232 10 ([some (.inr (.inr (.inl 63))), some (.inl w1), some (.inl w2), some (.inl w3), some (.inl w4)], [], mm V h) (fun M r => M = mm q.1 h ∧ r = some (.inl q.2)) := by
  let QQ : Mm → Option AV → Prop := fun M r => M = mm q.1 h ∧ r = some (.inl q.2)
  show Ok X (d + 4) 232 10 ([some (.inr (.inr (.inl 63))), some (.inl w1), some (.inl w2), some (.inl w3), some (.inl w4)], [], mm V h) QQ
  refine ok_thru (L := [some (.inr (.inr (.inl 63))), some (.inl w1), some (.inl w2), some (.inl w3), some (.inl w4)]) (S := [.inl (-2000000000)]) (M := mm V h) rfl rfl ?_
  obtain rfl := Option.some.inj hf
  refine ok_ireturn (L := [some (.inr (.inr (.inl 63))), some (.inl w1), some (.inl w2), some (.inl w3), some (.inl w4)]) (M := mm V h) (x := (-2000000000)) rfl rfl ?_
  exact ⟨rfl, rfl⟩
def f_Mo_tells (V : VV) (v1 : Int) (v2 : Int) (v3 : Int) (v4 : Int) : Option (VV × Int) := if (f_Mo_isSmall V v1) = 0 then f_Mo_tells_10 V else if (f_Mo_isSmall V v2) = 0 then f_Mo_tells_10 V else if (f_Mo_isSmall V v3) = 0 then f_Mo_tells_10 V else if (f_Mo_isSmall V v4) = 0 then f_Mo_tells_10 V else Option.bind (f_Mo_work V v1 v2 v3 v4) (fun q9 => some (q9.1, q9.2))
set_option maxRecDepth 20000 in
set_option maxHeartbeats 4000000 in
theorem s_Mo_tells {X : Xs} {d : Nat} {V : VV} {h : HP} {v1 : Int} {v2 : Int} {v3 : Int} {v4 : Int} {q : VV × Int} (hf : f_Mo_tells V v1 v2 v3 v4 = some q) : Ok X (d + 4) 232 0 ([some (.inr (.inr (.inl 63))), some (.inl v1), some (.inl v2), some (.inl v3), some (.inl v4)], [], mm V h) (fun M r => M = mm q.1 h ∧ r = some (.inl q.2)) := by
  let QQ : Mm → Option AV → Prop := fun M r => M = mm q.1 h ∧ r = some (.inl q.2)
  show Ok X (d + 4) 232 0 ([some (.inr (.inr (.inl 63))), some (.inl v1), some (.inl v2), some (.inl v3), some (.inl v4)], [], mm V h) QQ
  refine ok_callA (L := [some (.inr (.inr (.inl 63))), some (.inl v1), some (.inl v2), some (.inl v3), some (.inl v4)]) (M := mm V h) (args := [.inl v1]) (rest := []) (y2 := 233) rfl rfl rfl (Or.inr (Or.inl rfl)) rfl rfl (Nat.le_of_ble_eq_true rfl) rfl rfl (Nat.le_of_ble_eq_true rfl) (Nat.le_of_ble_eq_true rfl) (s_Mo_isSmall rfl) ?_
  rintro _ _ ⟨rfl, rfl, hz1⟩
  refine ok_if_eq (x := f_Mo_isSmall V v1) (L := [some (.inr (.inr (.inl 63))), some (.inl v1), some (.inl v2), some (.inl v3), some (.inl v4)]) (S := []) (M := mm V h) rfl rfl (fun c2 => ?_) (fun c2 => ?_)
  ·
    replace hf := (if_pos c2).symm.trans hf
    exact s_Mo_tells_10 hf
  ·
    replace hf := (if_neg c2).symm.trans hf
    refine ok_callA (L := [some (.inr (.inr (.inl 63))), some (.inl v1), some (.inl v2), some (.inl v3), some (.inl v4)]) (M := mm V h) (args := [.inl v2]) (rest := []) (y2 := 233) rfl rfl rfl (Or.inr (Or.inl rfl)) rfl rfl (Nat.le_of_ble_eq_true rfl) rfl rfl (Nat.le_of_ble_eq_true rfl) (Nat.le_of_ble_eq_true rfl) (s_Mo_isSmall rfl) ?_
    rintro _ _ ⟨rfl, rfl, hz3⟩
    refine ok_if_eq (x := f_Mo_isSmall V v2) (L := [some (.inr (.inr (.inl 63))), some (.inl v1), some (.inl v2), some (.inl v3), some (.inl v4)]) (S := []) (M := mm V h) rfl rfl (fun c4 => ?_) (fun c4 => ?_)
    ·
      replace hf := (if_pos c4).symm.trans hf
      exact s_Mo_tells_10 hf
    ·
      replace hf := (if_neg c4).symm.trans hf
      refine ok_callA (L := [some (.inr (.inr (.inl 63))), some (.inl v1), some (.inl v2), some (.inl v3), some (.inl v4)]) (M := mm V h) (args := [.inl v3]) (rest := []) (y2 := 233) rfl rfl rfl (Or.inr (Or.inl rfl)) rfl rfl (Nat.le_of_ble_eq_true rfl) rfl rfl (Nat.le_of_ble_eq_true rfl) (Nat.le_of_ble_eq_true rfl) (s_Mo_isSmall rfl) ?_
      rintro _ _ ⟨rfl, rfl, hz5⟩
      refine ok_if_eq (x := f_Mo_isSmall V v3) (L := [some (.inr (.inr (.inl 63))), some (.inl v1), some (.inl v2), some (.inl v3), some (.inl v4)]) (S := []) (M := mm V h) rfl rfl (fun c6 => ?_) (fun c6 => ?_)
      ·
        replace hf := (if_pos c6).symm.trans hf
        exact s_Mo_tells_10 hf
      ·
        replace hf := (if_neg c6).symm.trans hf
        refine ok_callA (L := [some (.inr (.inr (.inl 63))), some (.inl v1), some (.inl v2), some (.inl v3), some (.inl v4)]) (M := mm V h) (args := [.inl v4]) (rest := []) (y2 := 233) rfl rfl rfl (Or.inr (Or.inl rfl)) rfl rfl (Nat.le_of_ble_eq_true rfl) rfl rfl (Nat.le_of_ble_eq_true rfl) (Nat.le_of_ble_eq_true rfl) (s_Mo_isSmall rfl) ?_
        rintro _ _ ⟨rfl, rfl, hz7⟩
        refine ok_if_eq (x := f_Mo_isSmall V v4) (L := [some (.inr (.inr (.inl 63))), some (.inl v1), some (.inl v2), some (.inl v3), some (.inl v4)]) (S := []) (M := mm V h) rfl rfl (fun c8 => ?_) (fun c8 => ?_)
        ·
          replace hf := (if_pos c8).symm.trans hf
          exact s_Mo_tells_10 hf
        ·
          replace hf := (if_neg c8).symm.trans hf
          obtain ⟨q9, e9, hf⟩ := obind hf
          refine ok_callA (L := [some (.inr (.inr (.inl 63))), some (.inl v1), some (.inl v2), some (.inl v3), some (.inl v4)]) (M := mm V h) (args := [.inr (.inr (.inl 63)), .inl v1, .inl v2, .inl v3, .inl v4]) (rest := []) (y2 := 234) rfl rfl rfl (Or.inl rfl) rfl rfl (Nat.le_of_ble_eq_true rfl) rfl rfl (Nat.le_of_ble_eq_true rfl) (Nat.le_of_ble_eq_true rfl) (s_Mo_work e9) ?_
          rintro _ _ ⟨rfl, rfl⟩
          refine ok_goto (L := [some (.inr (.inr (.inl 63))), some (.inl v1), some (.inl v2), some (.inl v3), some (.inl v4)]) (S := [.inl q9.2]) (M := mm q9.1 h) rfl rfl ?_
          obtain rfl := Option.some.inj hf
          refine ok_ireturn (L := [some (.inr (.inr (.inl 63))), some (.inl v1), some (.inl v2), some (.inl v3), some (.inl v4)]) (M := mm q9.1 h) (x := q9.2) rfl rfl ?_
          exact ⟨rfl, rfl⟩
def f_Mo_isDrawn_10 : Nat → VV → Int → Int → Int → (Option (VV × Int))
  | 0, _, _, _, _ => none
  | n + 1, V, v1, v3, v4 => if v4 < v1 then if (w32 ((V 62 13) - v4)) = 0 then none else if 0 ≤ v4 ∧ v4 < (36 : Int) then if 0 ≤ (w32 (v4 + (Int.tmod (iushrI (w32 ((w32 (v3 * 1103515245)) + 12345)) 16) (w32 ((V 62 13) - v4))))) ∧ (w32 (v4 + (Int.tmod (iushrI (w32 ((w32 (v3 * 1103515245)) + 12345)) 16) (w32 ((V 62 13) - v4))))) < (36 : Int) then if 0 ≤ v4 ∧ v4 < (36 : Int) then if 0 ≤ (w32 (v4 + (Int.tmod (iushrI (w32 ((w32 (v3 * 1103515245)) + 12345)) 16) (w32 ((V 62 13) - v4))))) ∧ (w32 (v4 + (Int.tmod (iushrI (w32 ((w32 (v3 * 1103515245)) + 12345)) 16) (w32 ((V 62 13) - v4))))) < (36 : Int) then f_Mo_isDrawn_10 n (up (up V 122 v4.toNat (V 122 ((w32 (v4 + (Int.tmod (iushrI (w32 ((w32 (v3 * 1103515245)) + 12345)) 16) (w32 ((V 62 13) - v4))))).toNat))) 122 ((w32 (v4 + (Int.tmod (iushrI (w32 ((w32 (v3 * 1103515245)) + 12345)) 16) (w32 ((V 62 13) - v4))))).toNat) (V 122 v4.toNat)) v1 (w32 ((w32 (v3 * 1103515245)) + 12345)) (w32 (v4 + 1)) else none else none else none else none else some (V, 1)
set_option maxRecDepth 20000 in
set_option maxHeartbeats 4000000 in
theorem s_Mo_isDrawn_10_n {X : Xs} {d : Nat} {h : HP} {q : VV × Int} : ∀ (n : Nat) (V : VV) (v1 : Int) (v3 : Int) (v4 : Int) (w2 : Int) (z5 : Option AV) (z6 : Option AV), f_Mo_isDrawn_10 n V v1 v3 v4 = some q → Ok X (d + 5) 238 10 ([some (.inr (.inr (.inl 63))), some (.inl v1), some (.inl w2), some (.inl v3), some (.inl v4), z5, z6], [], mm V h) (fun M r => M = mm q.1 h ∧ r = some (.inl q.2) ∧ (q.2 = 0 ∨ q.2 = 1)) := by
  intro n
  induction n with
  | zero => intro V v1 v3 v4 w2 z5 z6 hf; cases hf
  | succ n ih =>
    intro V v1 v3 v4 w2 z5 z6 hf
    let QQ : Mm → Option AV → Prop := fun M r => M = mm q.1 h ∧ r = some (.inl q.2) ∧ (q.2 = 0 ∨ q.2 = 1)
    show Ok X (d + 5) 238 10 ([some (.inr (.inr (.inl 63))), some (.inl v1), some (.inl w2), some (.inl v3), some (.inl v4), z5, z6], [], mm V h) QQ
    refine ok_ic_ge (x := v4) (u := v1) (L := [some (.inr (.inr (.inl 63))), some (.inl v1), some (.inl w2), some (.inl v3), some (.inl v4), z5, z6]) (S := []) (M := mm V h) rfl rfl (fun c1 => ?_) (fun c1 => ?_)
    ·
      replace hf := (if_neg (Int.not_lt.mpr c1)).symm.trans hf
      obtain rfl := Option.some.inj hf
      have hz : (1 : Int) = 0 ∨ (1 : Int) = 1 := by
        first | exact Or.inl rfl | exact Or.inr rfl | assumption | (repeat' split) <;> first | exact Or.inl rfl | exact Or.inr rfl | assumption
      refine ok_zreturn (L := [some (.inr (.inr (.inl 63))), some (.inl v1), some (.inl w2), some (.inl v3), some (.inl v4), z5, z6]) (M := mm V h) (x := 1) rfl rfl hz ?_
      exact ⟨rfl, rfl, hz⟩
    ·
      replace hf := (if_pos c1).symm.trans hf
      by_cases c2 : (w32 ((V 62 13) - v4)) = 0
      case pos => replace hf := (if_pos c2).symm.trans hf; cases hf
      replace hf := (if_neg c2).symm.trans hf
      refine ok_irem (u := iushrI (w32 ((w32 (v3 * 1103515245)) + 12345)) 16) (v := w32 ((V 62 13) - v4)) (L := [some (.inr (.inr (.inl 63))), some (.inl v1), some (.inl w2), some (.inl (w32 ((w32 (v3 * 1103515245)) + 12345))), some (.inl v4), z5, z6]) (S := [.inl v4]) (M := mm V h) rfl rfl c2 ?_
      by_cases c3 : 0 ≤ v4 ∧ v4 < (36 : Int)
      case neg => replace hf := (if_neg c3).symm.trans hf; cases hf
      replace hf := (if_pos c3).symm.trans hf
      refine ok_iald (i := v4) (id := 122) (n := 36) (L := [some (.inr (.inr (.inl 63))), some (.inl v1), some (.inl w2), some (.inl (w32 ((w32 (v3 * 1103515245)) + 12345))), some (.inl v4), some (.inl (w32 (v4 + (Int.tmod (iushrI (w32 ((w32 (v3 * 1103515245)) + 12345)) 16) (w32 ((V 62 13) - v4)))))), z6]) (S := []) (M := mm V h) rfl rfl rfl c3.1 c3.2 ?_
      by_cases c4 : 0 ≤ (w32 (v4 + (Int.tmod (iushrI (w32 ((w32 (v3 * 1103515245)) + 12345)) 16) (w32 ((V 62 13) - v4))))) ∧ (w32 (v4 + (Int.tmod (iushrI (w32 ((w32 (v3 * 1103515245)) + 12345)) 16) (w32 ((V 62 13) - v4))))) < (36 : Int)
      case neg => replace hf := (if_neg c4).symm.trans hf; cases hf
      replace hf := (if_pos c4).symm.trans hf
      refine ok_iald (i := w32 (v4 + (Int.tmod (iushrI (w32 ((w32 (v3 * 1103515245)) + 12345)) 16) (w32 ((V 62 13) - v4))))) (id := 122) (n := 36) (L := [some (.inr (.inr (.inl 63))), some (.inl v1), some (.inl w2), some (.inl (w32 ((w32 (v3 * 1103515245)) + 12345))), some (.inl v4), some (.inl (w32 (v4 + (Int.tmod (iushrI (w32 ((w32 (v3 * 1103515245)) + 12345)) 16) (w32 ((V 62 13) - v4)))))), some (.inl (V 122 v4.toNat))]) (S := [.inl v4, .inr (.inr (.inl 123))]) (M := mm V h) rfl rfl rfl c4.1 c4.2 ?_
      by_cases c5 : 0 ≤ v4 ∧ v4 < (36 : Int)
      case neg => replace hf := (if_neg c5).symm.trans hf; cases hf
      replace hf := (if_pos c5).symm.trans hf
      refine ok_iast (i := v4) (v := V 122 ((w32 (v4 + (Int.tmod (iushrI (w32 ((w32 (v3 * 1103515245)) + 12345)) 16) (w32 ((V 62 13) - v4))))).toNat)) (id := 122) (n := 36) (L := [some (.inr (.inr (.inl 63))), some (.inl v1), some (.inl w2), some (.inl (w32 ((w32 (v3 * 1103515245)) + 12345))), some (.inl v4), some (.inl (w32 (v4 + (Int.tmod (iushrI (w32 ((w32 (v3 * 1103515245)) + 12345)) 16) (w32 ((V 62 13) - v4)))))), some (.inl (V 122 v4.toNat))]) (S := []) (M := mm V h) rfl rfl rfl c5.1 c5.2 ?_
      by_cases c6 : 0 ≤ (w32 (v4 + (Int.tmod (iushrI (w32 ((w32 (v3 * 1103515245)) + 12345)) 16) (w32 ((V 62 13) - v4))))) ∧ (w32 (v4 + (Int.tmod (iushrI (w32 ((w32 (v3 * 1103515245)) + 12345)) 16) (w32 ((V 62 13) - v4))))) < (36 : Int)
      case neg => replace hf := (if_neg c6).symm.trans hf; cases hf
      replace hf := (if_pos c6).symm.trans hf
      refine ok_iast (i := w32 (v4 + (Int.tmod (iushrI (w32 ((w32 (v3 * 1103515245)) + 12345)) 16) (w32 ((V 62 13) - v4))))) (v := V 122 v4.toNat) (id := 122) (n := 36) (L := [some (.inr (.inr (.inl 63))), some (.inl v1), some (.inl w2), some (.inl (w32 ((w32 (v3 * 1103515245)) + 12345))), some (.inl v4), some (.inl (w32 (v4 + (Int.tmod (iushrI (w32 ((w32 (v3 * 1103515245)) + 12345)) 16) (w32 ((V 62 13) - v4)))))), some (.inl (V 122 v4.toNat))]) (S := []) (M := mm (up V 122 v4.toNat (V 122 ((w32 (v4 + (Int.tmod (iushrI (w32 ((w32 (v3 * 1103515245)) + 12345)) 16) (w32 ((V 62 13) - v4))))).toNat))) h) rfl rfl rfl c6.1 c6.2 ?_
      refine ok_goto (L := [some (.inr (.inr (.inl 63))), some (.inl v1), some (.inl w2), some (.inl (w32 ((w32 (v3 * 1103515245)) + 12345))), some (.inl (w32 (v4 + 1))), some (.inl (w32 (v4 + (Int.tmod (iushrI (w32 ((w32 (v3 * 1103515245)) + 12345)) 16) (w32 ((V 62 13) - v4)))))), some (.inl (V 122 v4.toNat))]) (S := []) (M := mm (up (up V 122 v4.toNat (V 122 ((w32 (v4 + (Int.tmod (iushrI (w32 ((w32 (v3 * 1103515245)) + 12345)) 16) (w32 ((V 62 13) - v4))))).toNat))) 122 ((w32 (v4 + (Int.tmod (iushrI (w32 ((w32 (v3 * 1103515245)) + 12345)) 16) (w32 ((V 62 13) - v4))))).toNat) (V 122 v4.toNat)) h) rfl rfl ?_
      exact ih (up (up V 122 v4.toNat (V 122 ((w32 (v4 + (Int.tmod (iushrI (w32 ((w32 (v3 * 1103515245)) + 12345)) 16) (w32 ((V 62 13) - v4))))).toNat))) 122 ((w32 (v4 + (Int.tmod (iushrI (w32 ((w32 (v3 * 1103515245)) + 12345)) 16) (w32 ((V 62 13) - v4))))).toNat) (V 122 v4.toNat)) v1 (w32 ((w32 (v3 * 1103515245)) + 12345)) (w32 (v4 + 1)) w2 (some (.inl (w32 (v4 + (Int.tmod (iushrI (w32 ((w32 (v3 * 1103515245)) + 12345)) 16) (w32 ((V 62 13) - v4))))))) (some (.inl (V 122 v4.toNat))) hf
theorem s_Mo_isDrawn_10 {X : Xs} {d : Nat} {h : HP} {V : VV} {v1 : Int} {v3 : Int} {v4 : Int} {w2 : Int} {z5 : Option AV} {z6 : Option AV} {n : Nat} {q : VV × Int} (hf : f_Mo_isDrawn_10 n V v1 v3 v4 = some q) : Ok X (d + 5) 238 10 ([some (.inr (.inr (.inl 63))), some (.inl v1), some (.inl w2), some (.inl v3), some (.inl v4), z5, z6], [], mm V h) (fun M r => M = mm q.1 h ∧ r = some (.inl q.2) ∧ (q.2 = 0 ∨ q.2 = 1)) :=
  s_Mo_isDrawn_10_n n V v1 v3 v4 w2 z5 z6 hf
def f_Mo_isDrawn_6 : Nat → VV → Int → Int → Int → (Option (VV × Int))
  | 0, _, _, _, _ => none
  | n + 1, V, v1, v3, v4 => if v4 < (V 62 13) then if 0 ≤ v4 ∧ v4 < (36 : Int) then f_Mo_isDrawn_6 n (up V 122 v4.toNat v4) v1 v3 (w32 (v4 + 1)) else none else f_Mo_isDrawn_10 FU V v1 v3 0
set_option maxRecDepth 20000 in
set_option maxHeartbeats 4000000 in
theorem s_Mo_isDrawn_6_n {X : Xs} {d : Nat} {h : HP} {q : VV × Int} : ∀ (n : Nat) (V : VV) (v1 : Int) (v3 : Int) (v4 : Int) (w2 : Int) (z5 : Option AV) (z6 : Option AV), f_Mo_isDrawn_6 n V v1 v3 v4 = some q → Ok X (d + 5) 238 6 ([some (.inr (.inr (.inl 63))), some (.inl v1), some (.inl w2), some (.inl v3), some (.inl v4), z5, z6], [], mm V h) (fun M r => M = mm q.1 h ∧ r = some (.inl q.2) ∧ (q.2 = 0 ∨ q.2 = 1)) := by
  intro n
  induction n with
  | zero => intro V v1 v3 v4 w2 z5 z6 hf; cases hf
  | succ n ih =>
    intro V v1 v3 v4 w2 z5 z6 hf
    let QQ : Mm → Option AV → Prop := fun M r => M = mm q.1 h ∧ r = some (.inl q.2) ∧ (q.2 = 0 ∨ q.2 = 1)
    show Ok X (d + 5) 238 6 ([some (.inr (.inr (.inl 63))), some (.inl v1), some (.inl w2), some (.inl v3), some (.inl v4), z5, z6], [], mm V h) QQ
    refine ok_ic_ge (x := v4) (u := V 62 13) (L := [some (.inr (.inr (.inl 63))), some (.inl v1), some (.inl w2), some (.inl v3), some (.inl v4), z5, z6]) (S := []) (M := mm V h) rfl rfl (fun c1 => ?_) (fun c1 => ?_)
    ·
      replace hf := (if_neg (Int.not_lt.mpr c1)).symm.trans hf
      refine ok_thru (L := [some (.inr (.inr (.inl 63))), some (.inl v1), some (.inl w2), some (.inl v3), some (.inl 0), z5, z6]) (S := []) (M := mm V h) rfl rfl ?_
      exact s_Mo_isDrawn_10 hf
    ·
      replace hf := (if_pos c1).symm.trans hf
      by_cases c2 : 0 ≤ v4 ∧ v4 < (36 : Int)
      case neg => replace hf := (if_neg c2).symm.trans hf; cases hf
      replace hf := (if_pos c2).symm.trans hf
      refine ok_iast (i := v4) (v := v4) (id := 122) (n := 36) (L := [some (.inr (.inr (.inl 63))), some (.inl v1), some (.inl w2), some (.inl v3), some (.inl v4), z5, z6]) (S := []) (M := mm V h) rfl rfl rfl c2.1 c2.2 ?_
      refine ok_goto (L := [some (.inr (.inr (.inl 63))), some (.inl v1), some (.inl w2), some (.inl v3), some (.inl (w32 (v4 + 1))), z5, z6]) (S := []) (M := mm (up V 122 v4.toNat v4) h) rfl rfl ?_
      exact ih (up V 122 v4.toNat v4) v1 v3 (w32 (v4 + 1)) w2 z5 z6 hf
theorem s_Mo_isDrawn_6 {X : Xs} {d : Nat} {h : HP} {V : VV} {v1 : Int} {v3 : Int} {v4 : Int} {w2 : Int} {z5 : Option AV} {z6 : Option AV} {n : Nat} {q : VV × Int} (hf : f_Mo_isDrawn_6 n V v1 v3 v4 = some q) : Ok X (d + 5) 238 6 ([some (.inr (.inr (.inl 63))), some (.inl v1), some (.inl w2), some (.inl v3), some (.inl v4), z5, z6], [], mm V h) (fun M r => M = mm q.1 h ∧ r = some (.inl q.2) ∧ (q.2 = 0 ∨ q.2 = 1)) :=
  s_Mo_isDrawn_6_n n V v1 v3 v4 w2 z5 z6 hf
def f_Mo_isDrawn (V : VV) (v1 : Int) (v2 : Int) : Option (VV × Int) := Option.bind (f_Mo_hasJobs V) (fun q1 => if q1.2 = 0 then some (q1.1, 0) else if (f_Mo_isIn q1.1 v1 1 (q1.1 62 13)) = 0 then some (q1.1, 0) else f_Mo_isDrawn_6 FU q1.1 v1 v2 0)
set_option maxRecDepth 20000 in
set_option maxHeartbeats 4000000 in
theorem s_Mo_isDrawn {X : Xs} {d : Nat} {V : VV} {h : HP} {v1 : Int} {v2 : Int} {q : VV × Int} (hf : f_Mo_isDrawn V v1 v2 = some q) : Ok X (d + 5) 238 0 ([some (.inr (.inr (.inl 63))), some (.inl v1), some (.inl v2), none, none, none, none], [], mm V h) (fun M r => M = mm q.1 h ∧ r = some (.inl q.2) ∧ (q.2 = 0 ∨ q.2 = 1)) := by
  let QQ : Mm → Option AV → Prop := fun M r => M = mm q.1 h ∧ r = some (.inl q.2) ∧ (q.2 = 0 ∨ q.2 = 1)
  show Ok X (d + 5) 238 0 ([some (.inr (.inr (.inl 63))), some (.inl v1), some (.inl v2), none, none, none, none], [], mm V h) QQ
  obtain ⟨q1, e1, hf⟩ := obind hf
  refine ok_callA (L := [some (.inr (.inr (.inl 63))), some (.inl v1), some (.inl v2), none, none, none, none]) (M := mm V h) (args := [.inr (.inr (.inl 63))]) (rest := []) (y2 := 162) rfl rfl rfl (Or.inl rfl) rfl rfl (Nat.le_of_ble_eq_true rfl) rfl rfl (Nat.le_of_ble_eq_true rfl) (Nat.le_of_ble_eq_true rfl) (s_Mo_hasJobs e1) ?_
  rintro _ _ ⟨rfl, rfl, hz1⟩
  refine ok_if_eq (x := q1.2) (L := [some (.inr (.inr (.inl 63))), some (.inl v1), some (.inl v2), none, none, none, none]) (S := []) (M := mm q1.1 h) rfl rfl (fun c2 => ?_) (fun c2 => ?_)
  ·
    replace hf := (if_pos c2).symm.trans hf
    obtain rfl := Option.some.inj hf
    have hz : (0 : Int) = 0 ∨ (0 : Int) = 1 := by
      first | exact Or.inl rfl | exact Or.inr rfl | assumption | (repeat' split) <;> first | exact Or.inl rfl | exact Or.inr rfl | assumption
    refine ok_zreturn (L := [some (.inr (.inr (.inl 63))), some (.inl v1), some (.inl v2), none, none, none, none]) (M := mm q1.1 h) (x := 0) rfl rfl hz ?_
    exact ⟨rfl, rfl, hz⟩
  ·
    replace hf := (if_neg c2).symm.trans hf
    refine ok_callA (L := [some (.inr (.inr (.inl 63))), some (.inl v1), some (.inl v2), none, none, none, none]) (M := mm q1.1 h) (args := [.inl v1, .inl 1, .inl (q1.1 62 13)]) (rest := []) (y2 := 152) rfl rfl rfl (Or.inr (Or.inl rfl)) rfl rfl (Nat.le_of_ble_eq_true rfl) rfl rfl (Nat.le_of_ble_eq_true rfl) (Nat.le_of_ble_eq_true rfl) (s_Mo_isIn rfl) ?_
    rintro _ _ ⟨rfl, rfl, hz3⟩
    refine ok_if_ne (x := f_Mo_isIn q1.1 v1 1 (q1.1 62 13)) (L := [some (.inr (.inr (.inl 63))), some (.inl v1), some (.inl v2), none, none, none, none]) (S := []) (M := mm q1.1 h) rfl rfl (fun c4 => ?_) (fun c4 => ?_)
    ·
      replace hf := (if_neg c4).symm.trans hf
      refine ok_thru (L := [some (.inr (.inr (.inl 63))), some (.inl v1), some (.inl v2), some (.inl v2), some (.inl 0), none, none]) (S := []) (M := mm q1.1 h) rfl rfl ?_
      exact s_Mo_isDrawn_6 hf
    ·
      replace hf := (if_pos c4).symm.trans hf
      obtain rfl := Option.some.inj hf
      have hz : (0 : Int) = 0 ∨ (0 : Int) = 1 := by
        first | exact Or.inl rfl | exact Or.inr rfl | assumption | (repeat' split) <;> first | exact Or.inl rfl | exact Or.inr rfl | assumption
      refine ok_zreturn (L := [some (.inr (.inr (.inl 63))), some (.inl v1), some (.inl v2), none, none, none, none]) (M := mm q1.1 h) (x := 0) rfl rfl hz ?_
      exact ⟨rfl, rfl, hz⟩
