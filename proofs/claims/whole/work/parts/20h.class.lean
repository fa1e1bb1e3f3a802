/-! shallow functions of the program (printed by wip/tools/gen20.py) -/
def f_Cooling_meanBehind_4 : Nat → VV → Int → Int → Int → (Option (VV × Int))
  | 0, _, _, _, _ => none
  | n + 1, V, v1, v3, v4 => if v3 < v4 then some (V, atV V 36 21636 (w32 ((w32 (v1 * 601)) + v3))) else Option.bind (f_Cooling_cool V v1) (fun q3 => lt_ (setV q3.1 36 21636 (w32 ((w32 (v1 * 601)) + v4)) (w32 (Int.tdiv q3.2 5))) (fun q5 => lt_ (setV q5 34 36 v1 v4) (fun q6 => f_Cooling_meanBehind_4 n q6 v1 v3 (w32 (v4 + 1)))))
set_option maxRecDepth 20000 in
set_option maxHeartbeats 4000000 in
theorem s_Cooling_meanBehind_4_n {X : Xs} {d : Nat} {h : HP} {q : VV × Int} : ∀ (n : Nat) (V : VV) (v1 : Int) (v3 : Int) (v4 : Int) (w2 : Int) (z5 : Option AV), f_Cooling_meanBehind_4 n V v1 v3 v4 = some q → Ok X (d + 3) 116 4 ([some (.inr (.inr (.inl 32))), some (.inl v1), some (.inl w2), some (.inl v3), some (.inl v4), z5], [], mm V h) (fun M r => M = mm q.1 h ∧ r = some (.inl q.2)) := by
  intro n
  induction n with
  | zero => intro V v1 v3 v4 w2 z5 hf; cases hf
  | succ n ih =>
    intro V v1 v3 v4 w2 z5 hf
    let QQ : Mm → Option AV → Prop := fun M r => M = mm q.1 h ∧ r = some (.inl q.2)
    show Ok X (d + 3) 116 4 ([some (.inr (.inr (.inl 32))), some (.inl v1), some (.inl w2), some (.inl v3), some (.inl v4), z5], [], mm V h) QQ
    refine ok_ic_gt (x := v4) (u := v3) (L := [some (.inr (.inr (.inl 32))), some (.inl v1), some (.inl w2), some (.inl v3), some (.inl v4), z5]) (S := []) (M := mm V h) rfl rfl (fun c1 => ?_) (fun c1 => ?_)
    ·
      replace hf := (if_pos c1).symm.trans hf
      refine ok_callA (L := [some (.inr (.inr (.inl 32))), some (.inl v1), some (.inl w2), some (.inl v3), some (.inl v4), z5]) (M := mm V h) (args := [.inr (.inr (.inl 37)), .inl (w32 ((w32 (v1 * 601)) + v3))]) (rest := []) (y2 := 21) rfl rfl rfl (Or.inr (Or.inl rfl)) rfl rfl (Nat.le_of_ble_eq_true rfl) rfl rfl (Nat.le_of_ble_eq_true rfl) (Nat.le_of_ble_eq_true rfl) (w_at rfl rfl) ?_
      rintro _ _ ⟨rfl, rfl⟩
      obtain rfl := Option.some.inj hf
      refine ok_ireturn (L := [some (.inr (.inr (.inl 32))), some (.inl v1), some (.inl w2), some (.inl v3), some (.inl v4), z5]) (M := mm V h) (x := atV V 36 21636 (w32 ((w32 (v1 * 601)) + v3))) rfl rfl ?_
      exact ⟨rfl, rfl⟩
    ·
      replace hf := (if_neg (Int.not_lt.mpr c1)).symm.trans hf
      obtain ⟨q3, e3, hf⟩ := obind hf
      refine ok_callA (L := [some (.inr (.inr (.inl 32))), some (.inl v1), some (.inl w2), some (.inl v3), some (.inl v4), z5]) (M := mm V h) (args := [.inr (.inr (.inl 32)), .inl v1]) (rest := []) (y2 := 117) rfl rfl rfl (Or.inl rfl) rfl rfl (Nat.le_of_ble_eq_true rfl) rfl rfl (Nat.le_of_ble_eq_true rfl) (Nat.le_of_ble_eq_true rfl) (s_Cooling_cool e3) ?_
      rintro _ _ ⟨rfl, rfl⟩
      refine ok_idiv (u := q3.2) (v := 5) (L := [some (.inr (.inr (.inl 32))), some (.inl v1), some (.inl w2), some (.inl v3), some (.inl v4), some (.inl q3.2)]) (S := [.inl (w32 ((w32 (v1 * 601)) + v4)), .inr (.inr (.inl 37))]) (M := mm q3.1 h) rfl rfl (by decide) ?_
      obtain ⟨q5, e5, hf⟩ := lt_x hf
      refine ok_callA (L := [some (.inr (.inr (.inl 32))), some (.inl v1), some (.inl w2), some (.inl v3), some (.inl v4), some (.inl q3.2)]) (M := mm q3.1 h) (args := [.inr (.inr (.inl 37)), .inl (w32 ((w32 (v1 * 601)) + v4)), .inl (w32 (Int.tdiv q3.2 5))]) (rest := []) (y2 := 9) rfl rfl rfl (Or.inr (Or.inl rfl)) rfl rfl (Nat.le_of_ble_eq_true rfl) rfl rfl (Nat.le_of_ble_eq_true rfl) (Nat.le_of_ble_eq_true rfl) (w_set rfl e5) ?_
      rintro _ _ ⟨rfl, rfl⟩
      obtain ⟨q6, e6, hf⟩ := lt_x hf
      refine ok_callA (L := [some (.inr (.inr (.inl 32))), some (.inl v1), some (.inl w2), some (.inl v3), some (.inl v4), some (.inl q3.2)]) (M := mm q5 h) (args := [.inr (.inr (.inl 35)), .inl v1, .inl v4]) (rest := []) (y2 := 9) rfl rfl rfl (Or.inr (Or.inl rfl)) rfl rfl (Nat.le_of_ble_eq_true rfl) rfl rfl (Nat.le_of_ble_eq_true rfl) (Nat.le_of_ble_eq_true rfl) (w_set rfl e6) ?_
      rintro _ _ ⟨rfl, rfl⟩
      refine ok_goto (L := [some (.inr (.inr (.inl 32))), some (.inl v1), some (.inl w2), some (.inl v3), some (.inl (w32 (v4 + 1))), some (.inl q3.2)]) (S := []) (M := mm q6 h) rfl rfl ?_
      exact ih q6 v1 v3 (w32 (v4 + 1)) w2 (some (.inl q3.2)) hf
theorem s_Cooling_meanBehind_4 {X : Xs} {d : Nat} {h : HP} {V : VV} {v1 : Int} {v3 : Int} {v4 : Int} {w2 : Int} {z5 : Option AV} {n : Nat} {q : VV × Int} (hf : f_Cooling_meanBehind_4 n V v1 v3 v4 = some q) : Ok X (d + 3) 116 4 ([some (.inr (.inr (.inl 32))), some (.inl v1), some (.inl w2), some (.inl v3), some (.inl v4), z5], [], mm V h) (fun M r => M = mm q.1 h ∧ r = some (.inl q.2)) :=
  s_Cooling_meanBehind_4_n n V v1 v3 v4 w2 z5 hf
def f_Cooling_meanBehind (V : VV) (v1 : Int) (v2 : Int) : Option (VV × Int) := f_Cooling_meanBehind_4 FU V v1 (max 0 (min 600 v2)) (w32 ((atV V 34 36 v1) + 1))
set_option maxRecDepth 20000 in
set_option maxHeartbeats 4000000 in
theorem s_Cooling_meanBehind {X : Xs} {d : Nat} {V : VV} {h : HP} {v1 : Int} {v2 : Int} {q : VV × Int} (hf : f_Cooling_meanBehind V v1 v2 = some q) : Ok X (d + 3) 116 0 ([some (.inr (.inr (.inl 32))), some (.inl v1), some (.inl v2), none, none, none], [], mm V h) (fun M r => M = mm q.1 h ∧ r = some (.inl q.2)) := by
  let QQ : Mm → Option AV → Prop := fun M r => M = mm q.1 h ∧ r = some (.inl q.2)
  show Ok X (d + 3) 116 0 ([some (.inr (.inr (.inl 32))), some (.inl v1), some (.inl v2), none, none, none], [], mm V h) QQ
  refine ok_mmin (u := 600) (v := v2) (L := [some (.inr (.inr (.inl 32))), some (.inl v1), some (.inl v2), none, none, none]) (S := [.inl 0]) (M := mm V h) rfl rfl rfl (Nat.le_of_ble_eq_true rfl) ?_
  refine ok_mmax (u := 0) (v := min 600 v2) (L := [some (.inr (.inr (.inl 32))), some (.inl v1), some (.inl v2), none, none, none]) (S := []) (M := mm V h) rfl rfl rfl (Nat.le_of_ble_eq_true rfl) ?_
  refine ok_callA (L := [some (.inr (.inr (.inl 32))), some (.inl v1), some (.inl v2), some (.inl (max 0 (min 600 v2))), none, none]) (M := mm V h) (args := [.inr (.inr (.inl 35)), .inl v1]) (rest := []) (y2 := 21) rfl rfl rfl (Or.inr (Or.inl rfl)) rfl rfl (Nat.le_of_ble_eq_true rfl) rfl rfl (Nat.le_of_ble_eq_true rfl) (Nat.le_of_ble_eq_true rfl) (w_at rfl rfl) ?_
  rintro _ _ ⟨rfl, rfl⟩
  refine ok_thru (L := [some (.inr (.inr (.inl 32))), some (.inl v1), some (.inl v2), some (.inl (max 0 (min 600 v2))), some (.inl (w32 ((atV V 34 36 v1) + 1))), none]) (S := []) (M := mm V h) rfl rfl ?_
  exact s_Cooling_meanBehind_4 hf
def f_Paving_isFirmBelow_4 (V : VV)  : Option (VV × Int) := some (V, 1)
set_option maxRecDepth 20000 in
set_option maxHeartbeats 4000000 in
theorem s_Paving_isFirmBelow_4 {X : Xs} {d : Nat} {V : VV} {h : HP} {w1 : Int} {w2 : Int} {q : VV × Int} (hf : f_Paving_isFirmBelow_4 V = some q) : Ok X (d + 4) 115 4 ([some (.inr (.inr (.inl 47))), some (.inl w1), some (.inl w2)], [], mm V h) (fun M r => M = mm q.1 h ∧ r = some (.inl q.2) ∧ (q.2 = 0 ∨ q.2 = 1)) := by
  let QQ : Mm → Option AV → Prop := fun M r => M = mm q.1 h ∧ r = some (.inl q.2) ∧ (q.2 = 0 ∨ q.2 = 1)
  show Ok X (d + 4) 115 4 ([some (.inr (.inr (.inl 47))), some (.inl w1), some (.inl w2)], [], mm V h) QQ
  refine ok_goto (L := [some (.inr (.inr (.inl 47))), some (.inl w1), some (.inl w2)]) (S := [.inl 1]) (M := mm V h) rfl rfl ?_
  obtain rfl := Option.some.inj hf
  have hz : (1 : Int) = 0 ∨ (1 : Int) = 1 := by
    first | exact Or.inl rfl | exact Or.inr rfl | assumption | (repeat' split) <;> first | exact Or.inl rfl | exact Or.inr rfl | assumption
  refine ok_zreturn (L := [some (.inr (.inr (.inl 47))), some (.inl w1), some (.inl w2)]) (M := mm V h) (x := 1) rfl rfl hz ?_
  exact ⟨rfl, rfl, hz⟩
def f_Paving_isFirmBelow (V : VV) (v1 : Int) : Option (VV × Int) := if (w32 ((V 46 12) - (V 1 8))) < 0 then f_Paving_isFirmBelow_4 V else Option.bind (f_Cooling_meanBehind V (w32 ((V 46 12) - (V 1 8))) (w32 (v1 - (atV V 32 36 (w32 ((V 46 12) - (V 1 8))))))) (fun q3 => if (q3.1 15 3) < q3.2 then some (q3.1, 0) else f_Paving_isFirmBelow_4 q3.1)
set_option maxRecDepth 20000 in
set_option maxHeartbeats 4000000 in
theorem s_Paving_isFirmBelow {X : Xs} {d : Nat} {V : VV} {h : HP} {v1 : Int} {q : VV × Int} (hf : f_Paving_isFirmBelow V v1 = some q) : Ok X (d + 4) 115 0 ([some (.inr (.inr (.inl 47))), some (.inl v1), none], [], mm V h) (fun M r => M = mm q.1 h ∧ r = some (.inl q.2) ∧ (q.2 = 0 ∨ q.2 = 1)) := by
  let QQ : Mm → Option AV → Prop := fun M r => M = mm q.1 h ∧ r = some (.inl q.2) ∧ (q.2 = 0 ∨ q.2 = 1)
  show Ok X (d + 4) 115 0 ([some (.inr (.inr (.inl 47))), some (.inl v1), none], [], mm V h) QQ
  refine ok_if_lt (x := w32 ((V 46 12) - (V 1 8))) (L := [some (.inr (.inr (.inl 47))), some (.inl v1), some (.inl (w32 ((V 46 12) - (V 1 8))))]) (S := []) (M := mm V h) rfl rfl (fun c1 => ?_) (fun c1 => ?_)
  ·
    replace hf := (if_pos c1).symm.trans hf
    exact s_Paving_isFirmBelow_4 hf
  ·
    replace hf := (if_neg (Int.not_lt.mpr c1)).symm.trans hf
    refine ok_callA (L := [some (.inr (.inr (.inl 47))), some (.inl v1), some (.inl (w32 ((V 46 12) - (V 1 8))))]) (M := mm V h) (args := [.inr (.inr (.inl 33)), .inl (w32 ((V 46 12) - (V 1 8)))]) (rest := [.inl v1, .inl (w32 ((V 46 12) - (V 1 8))), .inr (.inr (.inl 32))]) (y2 := 21) rfl rfl rfl (Or.inr (Or.inl rfl)) rfl rfl (Nat.le_of_ble_eq_true rfl) rfl rfl (Nat.le_of_ble_eq_true rfl) (Nat.le_of_ble_eq_true rfl) (w_at rfl rfl) ?_
    rintro _ _ ⟨rfl, rfl⟩
    obtain ⟨q3, e3, hf⟩ := obind hf
    refine ok_callA (L := [some (.inr (.inr (.inl 47))), some (.inl v1), some (.inl (w32 ((V 46 12) - (V 1 8))))]) (M := mm V h) (args := [.inr (.inr (.inl 32)), .inl (w32 ((V 46 12) - (V 1 8))), .inl (w32 (v1 - (atV V 32 36 (w32 ((V 46 12) - (V 1 8))))))]) (rest := []) (y2 := 116) rfl rfl rfl (Or.inl rfl) rfl rfl (Nat.le_of_ble_eq_true rfl) rfl rfl (Nat.le_of_ble_eq_true rfl) (Nat.le_of_ble_eq_true rfl) (s_Cooling_meanBehind e3) ?_
    rintro _ _ ⟨rfl, rfl⟩
    refine ok_ic_gt (x := q3.2) (u := q3.1 15 3) (L := [some (.inr (.inr (.inl 47))), some (.inl v1), some (.inl (w32 ((V 46 12) - (V 1 8))))]) (S := []) (M := mm q3.1 h) rfl rfl (fun c4 => ?_) (fun c4 => ?_)
    ·
      replace hf := (if_pos c4).symm.trans hf
      refine ok_thru (L := [some (.inr (.inr (.inl 47))), some (.inl v1), some (.inl (w32 ((V 46 12) - (V 1 8))))]) (S := [.inl 0]) (M := mm q3.1 h) rfl rfl ?_
      obtain rfl := Option.some.inj hf
      have hz : (0 : Int) = 0 ∨ (0 : Int) = 1 := by
        first | exact Or.inl rfl | exact Or.inr rfl | assumption | (repeat' split) <;> first | exact Or.inl rfl | exact Or.inr rfl | assumption
      refine ok_zreturn (L := [some (.inr (.inr (.inl 47))), some (.inl v1), some (.inl (w32 ((V 46 12) - (V 1 8))))]) (M := mm q3.1 h) (x := 0) rfl rfl hz ?_
      exact ⟨rfl, rfl, hz⟩
    ·
      replace hf := (if_neg (Int.not_lt.mpr c4)).symm.trans hf
      exact s_Paving_isFirmBelow_4 hf
def f_Cooling_begin_4 : Nat → VV → Int → Int → Int → (Option (VV))
  | 0, _, _, _, _ => none
  | n + 1, V, v1, v3, v4 => if v4 < 5 then lt_ (setV V 35 180 (w32 ((w32 (v1 * 5)) + v4)) v3) (fun q3 => f_Cooling_begin_4 n q3 v1 v3 (w32 (v4 + 1))) else lt_ (setV V 36 21636 (w32 (v1 * 601)) v3) (fun q2 => some q2)
set_option maxRecDepth 20000 in
set_option maxHeartbeats 4000000 in
theorem s_Cooling_begin_4_n {X : Xs} {d : Nat} {h : HP} {q : VV} : ∀ (n : Nat) (V : VV) (v1 : Int) (v3 : Int) (v4 : Int) (w2 : Int), f_Cooling_begin_4 n V v1 v3 v4 = some q → Ok X (d + 2) 119 4 ([some (.inr (.inr (.inl 32))), some (.inl v1), some (.inl w2), some (.inl v3), some (.inl v4)], [], mm V h) (fun M r => M = mm q h ∧ r = none) := by
  intro n
  induction n with
  | zero => intro V v1 v3 v4 w2 hf; cases hf
  | succ n ih =>
    intro V v1 v3 v4 w2 hf
    let QQ : Mm → Option AV → Prop := fun M r => M = mm q h ∧ r = none
    show Ok X (d + 2) 119 4 ([some (.inr (.inr (.inl 32))), some (.inl v1), some (.inl w2), some (.inl v3), some (.inl v4)], [], mm V h) QQ
    refine ok_ic_ge (x := v4) (u := 5) (L := [some (.inr (.inr (.inl 32))), some (.inl v1), some (.inl w2), some (.inl v3), some (.inl v4)]) (S := []) (M := mm V h) rfl rfl (fun c1 => ?_) (fun c1 => ?_)
    ·
      replace hf := (if_neg (Int.not_lt.mpr c1)).symm.trans hf
      obtain ⟨q2, e2, hf⟩ := lt_x hf
      refine ok_callA (L := [some (.inr (.inr (.inl 32))), some (.inl v1), some (.inl w2), some (.inl v3), some (.inl v4)]) (M := mm V h) (args := [.inr (.inr (.inl 37)), .inl (w32 (v1 * 601)), .inl v3]) (rest := []) (y2 := 9) rfl rfl rfl (Or.inr (Or.inl rfl)) rfl rfl (Nat.le_of_ble_eq_true rfl) rfl rfl (Nat.le_of_ble_eq_true rfl) (Nat.le_of_ble_eq_true rfl) (w_set rfl e2) ?_
      rintro _ _ ⟨rfl, rfl⟩
      obtain rfl := Option.some.inj hf
      refine ok_return (L := [some (.inr (.inr (.inl 32))), some (.inl v1), some (.inl w2), some (.inl v3), some (.inl v4)]) (M := mm q2 h) rfl rfl ?_
      exact ⟨rfl, rfl⟩
    ·
      replace hf := (if_pos c1).symm.trans hf
      obtain ⟨q3, e3, hf⟩ := lt_x hf
      refine ok_callA (L := [some (.inr (.inr (.inl 32))), some (.inl v1), some (.inl w2), some (.inl v3), some (.inl v4)]) (M := mm V h) (args := [.inr (.inr (.inl 36)), .inl (w32 ((w32 (v1 * 5)) + v4)), .inl v3]) (rest := []) (y2 := 9) rfl rfl rfl (Or.inr (Or.inl rfl)) rfl rfl (Nat.le_of_ble_eq_true rfl) rfl rfl (Nat.le_of_ble_eq_true rfl) (Nat.le_of_ble_eq_true rfl) (w_set rfl e3) ?_
      rintro _ _ ⟨rfl, rfl⟩
      refine ok_goto (L := [some (.inr (.inr (.inl 32))), some (.inl v1), some (.inl w2), some (.inl v3), some (.inl (w32 (v4 + 1)))]) (S := []) (M := mm q3 h) rfl rfl ?_
      exact ih q3 v1 v3 (w32 (v4 + 1)) w2 hf
theorem s_Cooling_begin_4 {X : Xs} {d : Nat} {h : HP} {V : VV} {v1 : Int} {v3 : Int} {v4 : Int} {w2 : Int} {n : Nat} {q : VV} (hf : f_Cooling_begin_4 n V v1 v3 v4 = some q) : Ok X (d + 2) 119 4 ([some (.inr (.inr (.inl 32))), some (.inl v1), some (.inl w2), some (.inl v3), some (.inl v4)], [], mm V h) (fun M r => M = mm q h ∧ r = none) :=
  s_Cooling_begin_4_n n V v1 v3 v4 w2 hf
def f_Cooling_begin (V : VV) (v1 : Int) (v2 : Int) (v3 : Int) : Option (VV) := lt_ (setV V 32 36 v1 v2) (fun q1 => lt_ (setV q1 33 36 v1 v3) (fun q2 => lt_ (setV q2 34 36 v1 0) (fun q3 => f_Cooling_begin_4 FU q3 v1 v3 0)))
set_option maxRecDepth 20000 in
set_option maxHeartbeats 4000000 in
theorem s_Cooling_begin {X : Xs} {d : Nat} {V : VV} {h : HP} {v1 : Int} {v2 : Int} {v3 : Int} {q : VV} (hf : f_Cooling_begin V v1 v2 v3 = some q) : Ok X (d + 2) 119 0 ([some (.inr (.inr (.inl 32))), some (.inl v1), some (.inl v2), some (.inl v3), none], [], mm V h) (fun M r => M = mm q h ∧ r = none) := by
  let QQ : Mm → Option AV → Prop := fun M r => M = mm q h ∧ r = none
  show Ok X (d + 2) 119 0 ([some (.inr (.inr (.inl 32))), some (.inl v1), some (.inl v2), some (.inl v3), none], [], mm V h) QQ
  obtain ⟨q1, e1, hf⟩ := lt_x hf
  refine ok_callA (L := [some (.inr (.inr (.inl 32))), some (.inl v1), some (.inl v2), some (.inl v3), none]) (M := mm V h) (args := [.inr (.inr (.inl 33)), .inl v1, .inl v2]) (rest := []) (y2 := 9) rfl rfl rfl (Or.inr (Or.inl rfl)) rfl rfl (Nat.le_of_ble_eq_true rfl) rfl rfl (Nat.le_of_ble_eq_true rfl) (Nat.le_of_ble_eq_true rfl) (w_set rfl e1) ?_
  rintro _ _ ⟨rfl, rfl⟩
  obtain ⟨q2, e2, hf⟩ := lt_x hf
  refine ok_callA (L := [some (.inr (.inr (.inl 32))), some (.inl v1), some (.inl v2), some (.inl v3), none]) (M := mm q1 h) (args := [.inr (.inr (.inl 34)), .inl v1, .inl v3]) (rest := []) (y2 := 9) rfl rfl rfl (Or.inr (Or.inl rfl)) rfl rfl (Nat.le_of_ble_eq_true rfl) rfl rfl (Nat.le_of_ble_eq_true rfl) (Nat.le_of_ble_eq_true rfl) (w_set rfl e2) ?_
  rintro _ _ ⟨rfl, rfl⟩
  obtain ⟨q3, e3, hf⟩ := lt_x hf
  refine ok_callA (L := [some (.inr (.inr (.inl 32))), some (.inl v1), some (.inl v2), some (.inl v3), none]) (M := mm q2 h) (args := [.inr (.inr (.inl 35)), .inl v1, .inl 0]) (rest := []) (y2 := 9) rfl rfl rfl (Or.inr (Or.inl rfl)) rfl rfl (Nat.le_of_ble_eq_true rfl) rfl rfl (Nat.le_of_ble_eq_true rfl) (Nat.le_of_ble_eq_true rfl) (w_set rfl e3) ?_
  rintro _ _ ⟨rfl, rfl⟩
  refine ok_thru (L := [some (.inr (.inr (.inl 32))), some (.inl v1), some (.inl v2), some (.inl v3), some (.inl 0)]) (S := []) (M := mm q3 h) rfl rfl ?_
  exact s_Cooling_begin_4 hf
def f_Paving_layOut_12 (V : VV) (v3 : Int) : Option (VV × Int) := some (V, v3)
set_option maxRecDepth 20000 in
set_option maxHeartbeats 4000000 in
theorem s_Paving_layOut_12 {X : Xs} {d : Nat} {V : VV} {h : HP} {v3 : Int} {w1 : Int} {w2 : Int} {q : VV × Int} (hf : f_Paving_layOut_12 V v3 = some q) : Ok X (d + 3) 118 12 ([some (.inr (.inr (.inl 47))), some (.inl w1), some (.inl w2), some (.inl v3)], [], mm V h) (fun M r => M = mm q.1 h ∧ r = some (.inl q.2)) := by
  let QQ : Mm → Option AV → Prop := fun M r => M = mm q.1 h ∧ r = some (.inl q.2)
  show Ok X (d + 3) 118 12 ([some (.inr (.inr (.inl 47))), some (.inl w1), some (.inl w2), some (.inl v3)], [], mm V h) QQ
  obtain rfl := Option.some.inj hf
  refine ok_ireturn (L := [some (.inr (.inr (.inl 47))), some (.inl w1), some (.inl w2), some (.inl v3)]) (M := mm V h) (x := v3) rfl rfl ?_
  exact ⟨rfl, rfl⟩
def f_Paving_layOut_6 (V : VV) (v2 : Int) (v3 : Int) : Option (VV × Int) := if (w32 ((V 46 13) + v3)) < (atV (up (up V 46 15 (w32 ((V 46 15) - v3))) 46 13 (w32 ((V 46 13) + v3))) 9 36 (V 46 12)) then f_Paving_layOut_12 (up (up V 46 15 (w32 ((V 46 15) - v3))) 46 13 (w32 ((V 46 13) + v3))) v3 else Option.bind (f_Cooling_begin (up (up V 46 15 (w32 ((V 46 15) - v3))) 46 13 (w32 ((V 46 13) + v3))) (V 46 12) v2 (V 46 14)) (fun q3 => if (w32 ((q3 46 12) + 1)) < (f_Road_jobs (up (up q3 46 12 (w32 ((q3 46 12) + 1))) 46 13 0)) then f_Paving_layOut_12 (up (up q3 46 12 (w32 ((q3 46 12) + 1))) 46 13 0) v3 else lt_ (setV (up (up (up q3 46 12 (w32 ((q3 46 12) + 1))) 46 13 0) 46 8 1) 47 6 1 v2) (fun q6 => f_Paving_layOut_12 q6 v3))
set_option maxRecDepth 20000 in
set_option maxHeartbeats 4000000 in
theorem s_Paving_layOut_6 {X : Xs} {d : Nat} {V : VV} {h : HP} {v2 : Int} {v3 : Int} {w1 : Int} {q : VV × Int} (hf : f_Paving_layOut_6 V v2 v3 = some q) : Ok X (d + 3) 118 6 ([some (.inr (.inr (.inl 47))), some (.inl w1), some (.inl v2), some (.inl v3)], [], mm V h) (fun M r => M = mm q.1 h ∧ r = some (.inl q.2)) := by
  let QQ : Mm → Option AV → Prop := fun M r => M = mm q.1 h ∧ r = some (.inl q.2)
  show Ok X (d + 3) 118 6 ([some (.inr (.inr (.inl 47))), some (.inl w1), some (.inl v2), some (.inl v3)], [], mm V h) QQ
  refine ok_callA (L := [some (.inr (.inr (.inl 47))), some (.inl w1), some (.inl v2), some (.inl v3)]) (M := mm (up (up V 46 15 (w32 ((V 46 15) - v3))) 46 13 (w32 ((V 46 13) + v3))) h) (args := [.inr (.inr (.inl 10)), .inl (V 46 12)]) (rest := [.inl (w32 ((V 46 13) + v3))]) (y2 := 21) rfl rfl rfl (Or.inr (Or.inl rfl)) rfl rfl (Nat.le_of_ble_eq_true rfl) rfl rfl (Nat.le_of_ble_eq_true rfl) (Nat.le_of_ble_eq_true rfl) (w_at rfl rfl) ?_
  rintro _ _ ⟨rfl, rfl⟩
  refine ok_ic_lt (x := w32 ((V 46 13) + v3)) (u := atV (up (up V 46 15 (w32 ((V 46 15) - v3))) 46 13 (w32 ((V 46 13) + v3))) 9 36 (V 46 12)) (L := [some (.inr (.inr (.inl 47))), some (.inl w1), some (.inl v2), some (.inl v3)]) (S := []) (M := mm (up (up V 46 15 (w32 ((V 46 15) - v3))) 46 13 (w32 ((V 46 13) + v3))) h) rfl rfl (fun c2 => ?_) (fun c2 => ?_)
  ·
    replace hf := (if_pos c2).symm.trans hf
    exact s_Paving_layOut_12 hf
  ·
    replace hf := (if_neg (Int.not_lt.mpr c2)).symm.trans hf
    obtain ⟨q3, e3, hf⟩ := obind hf
    refine ok_callA (L := [some (.inr (.inr (.inl 47))), some (.inl w1), some (.inl v2), some (.inl v3)]) (M := mm (up (up V 46 15 (w32 ((V 46 15) - v3))) 46 13 (w32 ((V 46 13) + v3))) h) (args := [.inr (.inr (.inl 32)), .inl (V 46 12), .inl v2, .inl (V 46 14)]) (rest := []) (y2 := 119) rfl rfl rfl (Or.inl rfl) rfl rfl (Nat.le_of_ble_eq_true rfl) rfl rfl (Nat.le_of_ble_eq_true rfl) (Nat.le_of_ble_eq_true rfl) (s_Cooling_begin e3) ?_
    rintro _ _ ⟨rfl, rfl⟩
    refine ok_callA (L := [some (.inr (.inr (.inl 47))), some (.inl w1), some (.inl v2), some (.inl v3)]) (M := mm (up (up q3 46 12 (w32 ((q3 46 12) + 1))) 46 13 0) h) (args := [.inr (.inr (.inl 2))]) (rest := [.inl (w32 ((q3 46 12) + 1))]) (y2 := 25) rfl rfl rfl (Or.inl rfl) rfl rfl (Nat.le_of_ble_eq_true rfl) rfl rfl (Nat.le_of_ble_eq_true rfl) (Nat.le_of_ble_eq_true rfl) (s_Road_jobs rfl) ?_
    rintro _ _ ⟨rfl, rfl⟩
    refine ok_ic_lt (x := w32 ((q3 46 12) + 1)) (u := f_Road_jobs (up (up q3 46 12 (w32 ((q3 46 12) + 1))) 46 13 0)) (L := [some (.inr (.inr (.inl 47))), some (.inl w1), some (.inl v2), some (.inl v3)]) (S := []) (M := mm (up (up q3 46 12 (w32 ((q3 46 12) + 1))) 46 13 0) h) rfl rfl (fun c5 => ?_) (fun c5 => ?_)
    ·
      replace hf := (if_pos c5).symm.trans hf
      exact s_Paving_layOut_12 hf
    ·
      replace hf := (if_neg (Int.not_lt.mpr c5)).symm.trans hf
      obtain ⟨q6, e6, hf⟩ := lt_x hf
      refine ok_callA (L := [some (.inr (.inr (.inl 47))), some (.inl w1), some (.inl v2), some (.inl v3)]) (M := mm (up (up (up q3 46 12 (w32 ((q3 46 12) + 1))) 46 13 0) 46 8 1) h) (args := [.inr (.inr (.inl 48)), .inl 1, .inl v2]) (rest := []) (y2 := 9) rfl rfl rfl (Or.inr (Or.inl rfl)) rfl rfl (Nat.le_of_ble_eq_true rfl) rfl rfl (Nat.le_of_ble_eq_true rfl) (Nat.le_of_ble_eq_true rfl) (w_set rfl e6) ?_
      rintro _ _ ⟨rfl, rfl⟩
      exact s_Paving_layOut_12 hf
def f_Paving_layOut_4 (V : VV) (v2 : Int) (v3 : Int) : Option (VV × Int) := if (V 46 13) = 0 then lt_ (setV V 48 36 (V 46 12) v2) (fun q2 => f_Paving_layOut_6 q2 v2 v3) else f_Paving_layOut_6 V v2 v3
set_option maxRecDepth 20000 in
set_option maxHeartbeats 4000000 in
theorem s_Paving_layOut_4 {X : Xs} {d : Nat} {V : VV} {h : HP} {v2 : Int} {v3 : Int} {w1 : Int} {q : VV × Int} (hf : f_Paving_layOut_4 V v2 v3 = some q) : Ok X (d + 3) 118 4 ([some (.inr (.inr (.inl 47))), some (.inl w1), some (.inl v2), some (.inl v3)], [], mm V h) (fun M r => M = mm q.1 h ∧ r = some (.inl q.2)) := by
  let QQ : Mm → Option AV → Prop := fun M r => M = mm q.1 h ∧ r = some (.inl q.2)
  show Ok X (d + 3) 118 4 ([some (.inr (.inr (.inl 47))), some (.inl w1), some (.inl v2), some (.inl v3)], [], mm V h) QQ
  refine ok_if_ne (x := V 46 13) (L := [some (.inr (.inr (.inl 47))), some (.inl w1), some (.inl v2), some (.inl v3)]) (S := []) (M := mm V h) rfl rfl (fun c1 => ?_) (fun c1 => ?_)
  ·
    replace hf := (if_neg c1).symm.trans hf
    exact s_Paving_layOut_6 hf
  ·
    replace hf := (if_pos c1).symm.trans hf
    obtain ⟨q2, e2, hf⟩ := lt_x hf
    refine ok_callA (L := [some (.inr (.inr (.inl 47))), some (.inl w1), some (.inl v2), some (.inl v3)]) (M := mm V h) (args := [.inr (.inr (.inl 49)), .inl (V 46 12), .inl v2]) (rest := []) (y2 := 9) rfl rfl rfl (Or.inr (Or.inl rfl)) rfl rfl (Nat.le_of_ble_eq_true rfl) rfl rfl (Nat.le_of_ble_eq_true rfl) (Nat.le_of_ble_eq_true rfl) (w_set rfl e2) ?_
    rintro _ _ ⟨rfl, rfl⟩
    exact s_Paving_layOut_6 hf
def f_Paving_layOut (V : VV) (v1 : Int) (v2 : Int) : Option (VV × Int) := if (atV V 47 6 3) = (-1) then lt_ (setV V 47 6 3 v2) (fun q3 => f_Paving_layOut_4 q3 v2 (min (V 46 15) v1)) else f_Paving_layOut_4 V v2 (min (V 46 15) v1)
set_option maxRecDepth 20000 in
set_option maxHeartbeats 4000000 in
theorem s_Paving_layOut {X : Xs} {d : Nat} {V : VV} {h : HP} {v1 : Int} {v2 : Int} {q : VV × Int} (hf : f_Paving_layOut V v1 v2 = some q) : Ok X (d + 3) 118 0 ([some (.inr (.inr (.inl 47))), some (.inl v1), some (.inl v2), none], [], mm V h) (fun M r => M = mm q.1 h ∧ r = some (.inl q.2)) := by
  let QQ : Mm → Option AV → Prop := fun M r => M = mm q.1 h ∧ r = some (.inl q.2)
  show Ok X (d + 3) 118 0 ([some (.inr (.inr (.inl 47))), some (.inl v1), some (.inl v2), none], [], mm V h) QQ
  refine ok_mmin (u := V 46 15) (v := v1) (L := [some (.inr (.inr (.inl 47))), some (.inl v1), some (.inl v2), none]) (S := []) (M := mm V h) rfl rfl rfl (Nat.le_of_ble_eq_true rfl) ?_
  refine ok_callA (L := [some (.inr (.inr (.inl 47))), some (.inl v1), some (.inl v2), some (.inl (min (V 46 15) v1))]) (M := mm V h) (args := [.inr (.inr (.inl 48)), .inl 3]) (rest := []) (y2 := 21) rfl rfl rfl (Or.inr (Or.inl rfl)) rfl rfl (Nat.le_of_ble_eq_true rfl) rfl rfl (Nat.le_of_ble_eq_true rfl) (Nat.le_of_ble_eq_true rfl) (w_at rfl rfl) ?_
  rintro _ _ ⟨rfl, rfl⟩
  refine ok_ic_ne (x := atV V 47 6 3) (u := (-1)) (L := [some (.inr (.inr (.inl 47))), some (.inl v1), some (.inl v2), some (.inl (min (V 46 15) v1))]) (S := []) (M := mm V h) rfl rfl (fun c2 => ?_) (fun c2 => ?_)
  ·
    replace hf := (if_neg c2).symm.trans hf
    exact s_Paving_layOut_4 hf
  ·
    replace hf := (if_pos c2).symm.trans hf
    obtain ⟨q3, e3, hf⟩ := lt_x hf
    refine ok_callA (L := [some (.inr (.inr (.inl 47))), some (.inl v1), some (.inl v2), some (.inl (min (V 46 15) v1))]) (M := mm V h) (args := [.inr (.inr (.inl 48)), .inl 3, .inl v2]) (rest := []) (y2 := 9) rfl rfl rfl (Or.inr (Or.inl rfl)) rfl rfl (Nat.le_of_ble_eq_true rfl) rfl rfl (Nat.le_of_ble_eq_true rfl) (Nat.le_of_ble_eq_true rfl) (w_set rfl e3) ?_
    rintro _ _ ⟨rfl, rfl⟩
    exact s_Paving_layOut_4 hf
def f_Haulage_unload (V : VV) (v1 : Int) : VV × Int := lt_ (setV V 42 16 v1 0) (fun q1 => (q1, atV q1 44 16 v1))
set_option maxRecDepth 20000 in
set_option maxHeartbeats 4000000 in
theorem s_Haulage_unload {X : Xs} {d : Nat} {V : VV} {h : HP} {v1 : Int} {q : VV × Int} (hf : f_Haulage_unload V v1 = q) : Ok X (d + 2) 121 0 ([some (.inr (.inr (.inl 38))), some (.inl v1)], [], mm V h) (fun M r => M = mm q.1 h ∧ r = some (.inl q.2)) := by
  let QQ : Mm → Option AV → Prop := fun M r => M = mm q.1 h ∧ r = some (.inl q.2)
  show Ok X (d + 2) 121 0 ([some (.inr (.inr (.inl 38))), some (.inl v1)], [], mm V h) QQ
  obtain ⟨q1, e1, hf⟩ := lt_x hf
  refine ok_callA (L := [some (.inr (.inr (.inl 38))), some (.inl v1)]) (M := mm V h) (args := [.inr (.inr (.inl 43)), .inl v1, .inl 0]) (rest := []) (y2 := 9) rfl rfl rfl (Or.inr (Or.inl rfl)) rfl rfl (Nat.le_of_ble_eq_true rfl) rfl rfl (Nat.le_of_ble_eq_true rfl) (Nat.le_of_ble_eq_true rfl) (w_set rfl e1) ?_
  rintro _ _ ⟨rfl, rfl⟩
  refine ok_callA (L := [some (.inr (.inr (.inl 38))), some (.inl v1)]) (M := mm q1 h) (args := [.inr (.inr (.inl 45)), .inl v1]) (rest := []) (y2 := 21) rfl rfl rfl (Or.inr (Or.inl rfl)) rfl rfl (Nat.le_of_ble_eq_true rfl) rfl rfl (Nat.le_of_ble_eq_true rfl) (Nat.le_of_ble_eq_true rfl) (w_at rfl rfl) ?_
  rintro _ _ ⟨rfl, rfl⟩
  have hq : ((q1, atV q1 44 16 v1)) = q := hf
  subst hq
  refine ok_ireturn (L := [some (.inr (.inr (.inl 38))), some (.inl v1)]) (M := mm q1 h) (x := atV q1 44 16 v1) rfl rfl ?_
  exact ⟨rfl, rfl⟩
def f_Haulage_orderAgain (V : VV) (h : HP) (v1 : Int) : VV := lt_ (setV V 45 36 (f_Loads_of V h v1 0) (w32 ((atV V 45 36 (f_Loads_of V h v1 0)) - (f_Loads_of V h v1 1)))) (fun q4 => up q4 37 6 (min (q4 37 6) (f_Loads_of V h v1 0)))
set_option maxRecDepth 20000 in
set_option maxHeartbeats 4000000 in
theorem s_Haulage_orderAgain {X : Xs} {d : Nat} {V : VV} {h : HP} {v1 : Int} {q : VV} (hh : HOK h) (hf : f_Haulage_orderAgain V h v1 = q) : Ok X (d + 3) 122 0 ([some (.inr (.inr (.inl 38))), some (.inl v1), none], [], mm V h) (fun M r => M = mm q h ∧ r = none) := by
  let QQ : Mm → Option AV → Prop := fun M r => M = mm q h ∧ r = none
  show Ok X (d + 3) 122 0 ([some (.inr (.inr (.inl 38))), some (.inl v1), none], [], mm V h) QQ
  refine ok_callA (L := [some (.inr (.inr (.inl 38))), some (.inl v1), none]) (M := mm V h) (args := [.inr (.inr (.inl 29)), .inl v1, .inl 0]) (rest := []) (y2 := 105) rfl rfl rfl (Or.inl rfl) rfl rfl (Nat.le_of_ble_eq_true rfl) rfl rfl (Nat.le_of_ble_eq_true rfl) (Nat.le_of_ble_eq_true rfl) (s_Loads_of hh rfl) ?_
  rintro _ _ ⟨rfl, rfl⟩
  refine ok_callA (L := [some (.inr (.inr (.inl 38))), some (.inl v1), some (.inl (f_Loads_of V h v1 0))]) (M := mm V h) (args := [.inr (.inr (.inl 46)), .inl (f_Loads_of V h v1 0)]) (rest := [.inl (f_Loads_of V h v1 0), .inr (.inr (.inl 46))]) (y2 := 21) rfl rfl rfl (Or.inr (Or.inl rfl)) rfl rfl (Nat.le_of_ble_eq_true rfl) rfl rfl (Nat.le_of_ble_eq_true rfl) (Nat.le_of_ble_eq_true rfl) (w_at rfl rfl) ?_
  rintro _ _ ⟨rfl, rfl⟩
  refine ok_callA (L := [some (.inr (.inr (.inl 38))), some (.inl v1), some (.inl (f_Loads_of V h v1 0))]) (M := mm V h) (args := [.inr (.inr (.inl 29)), .inl v1, .inl 1]) (rest := [.inl (atV V 45 36 (f_Loads_of V h v1 0)), .inl (f_Loads_of V h v1 0), .inr (.inr (.inl 46))]) (y2 := 105) rfl rfl rfl (Or.inl rfl) rfl rfl (Nat.le_of_ble_eq_true rfl) rfl rfl (Nat.le_of_ble_eq_true rfl) (Nat.le_of_ble_eq_true rfl) (s_Loads_of hh rfl) ?_
  rintro _ _ ⟨rfl, rfl⟩
  obtain ⟨q4, e4, hf⟩ := lt_x hf
  refine ok_callA (L := [some (.inr (.inr (.inl 38))), some (.inl v1), some (.inl (f_Loads_of V h v1 0))]) (M := mm V h) (args := [.inr (.inr (.inl 46)), .inl (f_Loads_of V h v1 0), .inl (w32 ((atV V 45 36 (f_Loads_of V h v1 0)) - (f_Loads_of V h v1 1)))]) (rest := []) (y2 := 9) rfl rfl rfl (Or.inr (Or.inl rfl)) rfl rfl (Nat.le_of_ble_eq_true rfl) rfl rfl (Nat.le_of_ble_eq_true rfl) (Nat.le_of_ble_eq_true rfl) (w_set rfl e4) ?_
  rintro _ _ ⟨rfl, rfl⟩
  refine ok_mmin (u := q4 37 6) (v := f_Loads_of V h v1 0) (L := [some (.inr (.inr (.inl 38))), some (.inl v1), some (.inl (f_Loads_of V h v1 0))]) (S := [.inr (.inr (.inl 38))]) (M := mm q4 h) rfl rfl rfl (Nat.le_of_ble_eq_true rfl) ?_
  have hq : (up q4 37 6 (min (q4 37 6) (f_Loads_of V h v1 0))) = q := hf
  subst hq
  refine ok_return (L := [some (.inr (.inr (.inl 38))), some (.inl v1), some (.inl (f_Loads_of V h v1 0))]) (M := mm (up q4 37 6 (min (q4 37 6) (f_Loads_of V h v1 0))) h) rfl rfl ?_
  exact ⟨rfl, rfl⟩
def f_Loads_noteLaid (V : VV) (h : HP) (v1 : Int) : VV := lt_ (setV V h.2.1 (ordN h) (V 28 2) v1) (fun q1 => up q1 28 2 (w32 ((q1 28 2) + 1)))
set_option maxRecDepth 20000 in
set_option maxHeartbeats 4000000 in
theorem s_Loads_noteLaid {X : Xs} {d : Nat} {V : VV} {h : HP} {v1 : Int} {q : VV} (hh : HOK h) (hf : f_Loads_noteLaid V h v1 = q) : Ok X (d + 2) 123 0 ([some (.inr (.inr (.inl 29))), some (.inl v1)], [], mm V h) (fun M r => M = mm q h ∧ r = none) := by
  let QQ : Mm → Option AV → Prop := fun M r => M = mm q h ∧ r = none
  show Ok X (d + 2) 123 0 ([some (.inr (.inr (.inl 29))), some (.inl v1)], [], mm V h) QQ
  obtain ⟨q1, e1, hf⟩ := lt_x hf
  refine ok_callA (L := [some (.inr (.inr (.inl 29))), some (.inl v1)]) (M := mm V h) (args := [.inr (.inr (.inl (h.2.1 + 1))), .inl (V 28 2), .inl v1]) (rest := []) (y2 := 9) rfl rfl rfl (Or.inr (Or.inl rfl)) rfl rfl (Nat.le_of_ble_eq_true rfl) rfl rfl (Nat.le_of_ble_eq_true rfl) (Nat.le_of_ble_eq_true rfl) (w_set hh.ord e1) ?_
  rintro _ _ ⟨rfl, rfl⟩
  have hq : (up q1 28 2 (w32 ((q1 28 2) + 1))) = q := hf
  subst hq
  refine ok_return (L := [some (.inr (.inr (.inl 29))), some (.inl v1)]) (M := mm (up q1 28 2 (w32 ((q1 28 2) + 1))) h) rfl rfl ?_
  exact ⟨rfl, rfl⟩
def f_Paving_takeLoad (V : VV) (h : HP) (v1 : Int) : Option (VV × Int) := Option.bind (f_Haulage_firstStanding V h 5 0 (V 46 12)) (fun q1 => if q1 = (-1) then some (V, 0) else lt_ (f_Haulage_unload V q1) (fun q3 => lt_ (f_Loads_note q3.1 h q3.2 6 v1) (fun q7 => lt_ (f_Loads_note q7 h q3.2 7 (w32 ((q3.1 15 0) - (cutV (w32 (v1 - (f_Loads_of q3.1 h q3.2 5))) (q3.1 15 1))))) (fun q8 => if (w32 ((q3.1 15 0) - (cutV (w32 (v1 - (f_Loads_of q3.1 h q3.2 5))) (q3.1 15 1)))) < (q8 15 2) then lt_ (f_Loads_note q8 h q3.2 8 1) (fun q13 => lt_ (f_Haulage_orderAgain q13 h q3.2) (fun q14 => lt_ (setV q14 47 6 4 (w32 ((atV q14 47 6 4) + 1))) (fun q16 => lt_ (setV q16 47 6 5 (w32 ((atV q16 47 6 5) + (f_Loads_of q3.1 h q3.2 1)))) (fun q18 => some (q18, 1))))) else lt_ (f_Loads_noteLaid (up (up q8 46 14 (if (q8 46 13) = 0 then w32 ((q3.1 15 0) - (cutV (w32 (v1 - (f_Loads_of q3.1 h q3.2 5))) (q3.1 15 1))) else min (q8 46 14) (w32 ((q3.1 15 0) - (cutV (w32 (v1 - (f_Loads_of q3.1 h q3.2 5))) (q3.1 15 1)))) : Int)) 46 15 (f_Loads_of q3.1 h q3.2 1)) h q3.2) (fun q11 => some (q11, 1))))))
set_option maxRecDepth 20000 in
set_option maxHeartbeats 4000000 in
theorem s_Paving_takeLoad {X : Xs} {d : Nat} {V : VV} {h : HP} {v1 : Int} {q : VV × Int} (hh : HOK h) (hf : f_Paving_takeLoad V h v1 = some q) : Ok X (d + 4) 120 0 ([some (.inr (.inr (.inl 47))), some (.inl v1), none, none, none, none, none], [], mm V h) (fun M r => M = mm q.1 h ∧ r = some (.inl q.2) ∧ (q.2 = 0 ∨ q.2 = 1)) := by
  let QQ : Mm → Option AV → Prop := fun M r => M = mm q.1 h ∧ r = some (.inl q.2) ∧ (q.2 = 0 ∨ q.2 = 1)
  show Ok X (d + 4) 120 0 ([some (.inr (.inr (.inl 47))), some (.inl v1), none, none, none, none, none], [], mm V h) QQ
  obtain ⟨q1, e1, hf⟩ := obind hf
  refine ok_callA (L := [some (.inr (.inr (.inl 47))), some (.inl v1), none, none, none, none, none]) (M := mm V h) (args := [.inr (.inr (.inl 38)), .inl 5, .inl 0, .inl (V 46 12)]) (rest := []) (y2 := 104) rfl rfl rfl (Or.inl rfl) rfl rfl (Nat.le_of_ble_eq_true rfl) rfl rfl (Nat.le_of_ble_eq_true rfl) (Nat.le_of_ble_eq_true rfl) (s_Haulage_firstStanding hh e1) ?_
  rintro _ _ ⟨rfl, rfl⟩
  refine ok_ic_ne (x := q1) (u := (-1)) (L := [some (.inr (.inr (.inl 47))), some (.inl v1), some (.inl q1), none, none, none, none]) (S := []) (M := mm V h) rfl rfl (fun c2 => ?_) (fun c2 => ?_)
  ·
    replace hf := (if_neg c2).symm.trans hf
    obtain ⟨q3, e3, hf⟩ := lt_x hf
    refine ok_callA (L := [some (.inr (.inr (.inl 47))), some (.inl v1), some (.inl q1), some (.inr (.inr (.inl 29))), none, none, none]) (M := mm V h) (args := [.inr (.inr (.inl 38)), .inl q1]) (rest := []) (y2 := 121) rfl rfl rfl (Or.inl rfl) rfl rfl (Nat.le_of_ble_eq_true rfl) rfl rfl (Nat.le_of_ble_eq_true rfl) (Nat.le_of_ble_eq_true rfl) (s_Haulage_unload e3) ?_
    rintro _ _ ⟨rfl, rfl⟩
    refine ok_callA (L := [some (.inr (.inr (.inl 47))), some (.inl v1), some (.inl q1), some (.inr (.inr (.inl 29))), some (.inl q3.2), none, none]) (M := mm q3.1 h) (args := [.inr (.inr (.inl 29)), .inl q3.2, .inl 1]) (rest := []) (y2 := 105) rfl rfl rfl (Or.inl rfl) rfl rfl (Nat.le_of_ble_eq_true rfl) rfl rfl (Nat.le_of_ble_eq_true rfl) (Nat.le_of_ble_eq_true rfl) (s_Loads_of hh rfl) ?_
    rintro _ _ ⟨rfl, rfl⟩
    refine ok_callA (L := [some (.inr (.inr (.inl 47))), some (.inl v1), some (.inl q1), some (.inr (.inr (.inl 29))), some (.inl q3.2), some (.inl (f_Loads_of q3.1 h q3.2 1)), none]) (M := mm q3.1 h) (args := [.inr (.inr (.inl 29)), .inl q3.2, .inl 5]) (rest := [.inl v1, .inl (q3.1 15 0)]) (y2 := 105) rfl rfl rfl (Or.inl rfl) rfl rfl (Nat.le_of_ble_eq_true rfl) rfl rfl (Nat.le_of_ble_eq_true rfl) (Nat.le_of_ble_eq_true rfl) (s_Loads_of hh rfl) ?_
    rintro _ _ ⟨rfl, rfl⟩
    refine ok_callA (L := [some (.inr (.inr (.inl 47))), some (.inl v1), some (.inl q1), some (.inr (.inr (.inl 29))), some (.inl q3.2), some (.inl (f_Loads_of q3.1 h q3.2 1)), none]) (M := mm q3.1 h) (args := [.inl (w32 (v1 - (f_Loads_of q3.1 h q3.2 5))), .inl (q3.1 15 1)]) (rest := [.inl (q3.1 15 0)]) (y2 := 28) rfl rfl rfl (Or.inr (Or.inl rfl)) rfl rfl (Nat.le_of_ble_eq_true rfl) rfl rfl (Nat.le_of_ble_eq_true rfl) (Nat.le_of_ble_eq_true rfl) (w_cut rfl) ?_
    rintro _ _ ⟨rfl, rfl⟩
    obtain ⟨q7, e7, hf⟩ := lt_x hf
    refine ok_callA (L := [some (.inr (.inr (.inl 47))), some (.inl v1), some (.inl q1), some (.inr (.inr (.inl 29))), some (.inl q3.2), some (.inl (f_Loads_of q3.1 h q3.2 1)), some (.inl (w32 ((q3.1 15 0) - (cutV (w32 (v1 - (f_Loads_of q3.1 h q3.2 5))) (q3.1 15 1)))))]) (M := mm q3.1 h) (args := [.inr (.inr (.inl 29)), .inl q3.2, .inl 6, .inl v1]) (rest := []) (y2 := 106) rfl rfl rfl (Or.inl rfl) rfl rfl (Nat.le_of_ble_eq_true rfl) rfl rfl (Nat.le_of_ble_eq_true rfl) (Nat.le_of_ble_eq_true rfl) (s_Loads_note hh e7) ?_
    rintro _ _ ⟨rfl, rfl⟩
    obtain ⟨q8, e8, hf⟩ := lt_x hf
    refine ok_callA (L := [some (.inr (.inr (.inl 47))), some (.inl v1), some (.inl q1), some (.inr (.inr (.inl 29))), some (.inl q3.2), some (.inl (f_Loads_of q3.1 h q3.2 1)), some (.inl (w32 ((q3.1 15 0) - (cutV (w32 (v1 - (f_Loads_of q3.1 h q3.2 5))) (q3.1 15 1)))))]) (M := mm q7 h) (args := [.inr (.inr (.inl 29)), .inl q3.2, .inl 7, .inl (w32 ((q3.1 15 0) - (cutV (w32 (v1 - (f_Loads_of q3.1 h q3.2 5))) (q3.1 15 1))))]) (rest := []) (y2 := 106) rfl rfl rfl (Or.inl rfl) rfl rfl (Nat.le_of_ble_eq_true rfl) rfl rfl (Nat.le_of_ble_eq_true rfl) (Nat.le_of_ble_eq_true rfl) (s_Loads_note hh e8) ?_
    rintro _ _ ⟨rfl, rfl⟩
    refine ok_ic_ge (x := w32 ((q3.1 15 0) - (cutV (w32 (v1 - (f_Loads_of q3.1 h q3.2 5))) (q3.1 15 1)))) (u := q8 15 2) (L := [some (.inr (.inr (.inl 47))), some (.inl v1), some (.inl q1), some (.inr (.inr (.inl 29))), some (.inl q3.2), some (.inl (f_Loads_of q3.1 h q3.2 1)), some (.inl (w32 ((q3.1 15 0) - (cutV (w32 (v1 - (f_Loads_of q3.1 h q3.2 5))) (q3.1 15 1)))))]) (S := []) (M := mm q8 h) rfl rfl (fun c9 => ?_) (fun c9 => ?_)
    ·
      replace hf := (if_neg (Int.not_lt.mpr c9)).symm.trans hf
      have JN10 : Ok X (d + 4) 120 20 ([some (.inr (.inr (.inl 47))), some (.inl v1), some (.inl q1), some (.inr (.inr (.inl 29))), some (.inl q3.2), some (.inl (f_Loads_of q3.1 h q3.2 1)), some (.inl (w32 ((q3.1 15 0) - (cutV (w32 (v1 - (f_Loads_of q3.1 h q3.2 5))) (q3.1 15 1)))))], [.inl (if (q8 46 13) = 0 then w32 ((q3.1 15 0) - (cutV (w32 (v1 - (f_Loads_of q3.1 h q3.2 5))) (q3.1 15 1))) else min (q8 46 14) (w32 ((q3.1 15 0) - (cutV (w32 (v1 - (f_Loads_of q3.1 h q3.2 5))) (q3.1 15 1)))) : Int), .inr (.inr (.inl 47))], mm q8 h) QQ := by
        obtain ⟨q11, e11, hf⟩ := lt_x hf
        refine ok_callA (L := [some (.inr (.inr (.inl 47))), some (.inl v1), some (.inl q1), some (.inr (.inr (.inl 29))), some (.inl q3.2), some (.inl (f_Loads_of q3.1 h q3.2 1)), some (.inl (w32 ((q3.1 15 0) - (cutV (w32 (v1 - (f_Loads_of q3.1 h q3.2 5))) (q3.1 15 1)))))]) (M := mm (up (up q8 46 14 (if (q8 46 13) = 0 then w32 ((q3.1 15 0) - (cutV (w32 (v1 - (f_Loads_of q3.1 h q3.2 5))) (q3.1 15 1))) else min (q8 46 14) (w32 ((q3.1 15 0) - (cutV (w32 (v1 - (f_Loads_of q3.1 h q3.2 5))) (q3.1 15 1)))) : Int)) 46 15 (f_Loads_of q3.1 h q3.2 1)) h) (args := [.inr (.inr (.inl 29)), .inl q3.2]) (rest := []) (y2 := 123) rfl rfl rfl (Or.inl rfl) rfl rfl (Nat.le_of_ble_eq_true rfl) rfl rfl (Nat.le_of_ble_eq_true rfl) (Nat.le_of_ble_eq_true rfl) (s_Loads_noteLaid hh e11) ?_
        rintro _ _ ⟨rfl, rfl⟩
        obtain rfl := Option.some.inj hf
        have hz : (1 : Int) = 0 ∨ (1 : Int) = 1 := by
          first | exact Or.inl rfl | exact Or.inr rfl | assumption | (repeat' split) <;> first | exact Or.inl rfl | exact Or.inr rfl | assumption
        refine ok_zreturn (L := [some (.inr (.inr (.inl 47))), some (.inl v1), some (.inl q1), some (.inr (.inr (.inl 29))), some (.inl q3.2), some (.inl (f_Loads_of q3.1 h q3.2 1)), some (.inl (w32 ((q3.1 15 0) - (cutV (w32 (v1 - (f_Loads_of q3.1 h q3.2 5))) (q3.1 15 1)))))]) (M := mm q11 h) (x := 1) rfl rfl hz ?_
        exact ⟨rfl, rfl, hz⟩
      clear hf
      refine ok_if_ne (x := q8 46 13) (L := [some (.inr (.inr (.inl 47))), some (.inl v1), some (.inl q1), some (.inr (.inr (.inl 29))), some (.inl q3.2), some (.inl (f_Loads_of q3.1 h q3.2 1)), some (.inl (w32 ((q3.1 15 0) - (cutV (w32 (v1 - (f_Loads_of q3.1 h q3.2 5))) (q3.1 15 1)))))]) (S := [.inr (.inr (.inl 47))]) (M := mm q8 h) rfl rfl (fun c12 => ?_) (fun c12 => ?_)
      ·
        simp only [if_neg c12] at JN10
        refine ok_mmin (u := q8 46 14) (v := w32 ((q3.1 15 0) - (cutV (w32 (v1 - (f_Loads_of q3.1 h q3.2 5))) (q3.1 15 1)))) (L := [some (.inr (.inr (.inl 47))), some (.inl v1), some (.inl q1), some (.inr (.inr (.inl 29))), some (.inl q3.2), some (.inl (f_Loads_of q3.1 h q3.2 1)), some (.inl (w32 ((q3.1 15 0) - (cutV (w32 (v1 - (f_Loads_of q3.1 h q3.2 5))) (q3.1 15 1)))))]) (S := [.inr (.inr (.inl 47))]) (M := mm q8 h) rfl rfl rfl (Nat.le_of_ble_eq_true rfl) ?_
        first | exact JN10 | (simp only [if_neg c12]; exact JN10)
      ·
        simp only [if_pos c12] at JN10
        refine ok_goto (L := [some (.inr (.inr (.inl 47))), some (.inl v1), some (.inl q1), some (.inr (.inr (.inl 29))), some (.inl q3.2), some (.inl (f_Loads_of q3.1 h q3.2 1)), some (.inl (w32 ((q3.1 15 0) - (cutV (w32 (v1 - (f_Loads_of q3.1 h q3.2 5))) (q3.1 15 1)))))]) (S := [.inl (w32 ((q3.1 15 0) - (cutV (w32 (v1 - (f_Loads_of q3.1 h q3.2 5))) (q3.1 15 1)))), .inr (.inr (.inl 47))]) (M := mm q8 h) rfl rfl ?_
        first | exact JN10 | (simp only [if_pos c12]; exact JN10)
    ·
      replace hf := (if_pos c9).symm.trans hf
      obtain ⟨q13, e13, hf⟩ := lt_x hf
      refine ok_callA (L := [some (.inr (.inr (.inl 47))), some (.inl v1), some (.inl q1), some (.inr (.inr (.inl 29))), some (.inl q3.2), some (.inl (f_Loads_of q3.1 h q3.2 1)), some (.inl (w32 ((q3.1 15 0) - (cutV (w32 (v1 - (f_Loads_of q3.1 h q3.2 5))) (q3.1 15 1)))))]) (M := mm q8 h) (args := [.inr (.inr (.inl 29)), .inl q3.2, .inl 8, .inl 1]) (rest := []) (y2 := 106) rfl rfl rfl (Or.inl rfl) rfl rfl (Nat.le_of_ble_eq_true rfl) rfl rfl (Nat.le_of_ble_eq_true rfl) (Nat.le_of_ble_eq_true rfl) (s_Loads_note hh e13) ?_
      rintro _ _ ⟨rfl, rfl⟩
      obtain ⟨q14, e14, hf⟩ := lt_x hf
      refine ok_callA (L := [some (.inr (.inr (.inl 47))), some (.inl v1), some (.inl q1), some (.inr (.inr (.inl 29))), some (.inl q3.2), some (.inl (f_Loads_of q3.1 h q3.2 1)), some (.inl (w32 ((q3.1 15 0) - (cutV (w32 (v1 - (f_Loads_of q3.1 h q3.2 5))) (q3.1 15 1)))))]) (M := mm q13 h) (args := [.inr (.inr (.inl 38)), .inl q3.2]) (rest := []) (y2 := 122) rfl rfl rfl (Or.inl rfl) rfl rfl (Nat.le_of_ble_eq_true rfl) rfl rfl (Nat.le_of_ble_eq_true rfl) (Nat.le_of_ble_eq_true rfl) (s_Haulage_orderAgain hh e14) ?_
      rintro _ _ ⟨rfl, rfl⟩
      refine ok_callA (L := [some (.inr (.inr (.inl 47))), some (.inl v1), some (.inl q1), some (.inr (.inr (.inl 29))), some (.inl q3.2), some (.inl (f_Loads_of q3.1 h q3.2 1)), some (.inl (w32 ((q3.1 15 0) - (cutV (w32 (v1 - (f_Loads_of q3.1 h q3.2 5))) (q3.1 15 1)))))]) (M := mm q14 h) (args := [.inr (.inr (.inl 48)), .inl 4]) (rest := [.inl 4, .inr (.inr (.inl 48))]) (y2 := 21) rfl rfl rfl (Or.inr (Or.inl rfl)) rfl rfl (Nat.le_of_ble_eq_true rfl) rfl rfl (Nat.le_of_ble_eq_true rfl) (Nat.le_of_ble_eq_true rfl) (w_at rfl rfl) ?_
      rintro _ _ ⟨rfl, rfl⟩
      obtain ⟨q16, e16, hf⟩ := lt_x hf
      refine ok_callA (L := [some (.inr (.inr (.inl 47))), some (.inl v1), some (.inl q1), some (.inr (.inr (.inl 29))), some (.inl q3.2), some (.inl (f_Loads_of q3.1 h q3.2 1)), some (.inl (w32 ((q3.1 15 0) - (cutV (w32 (v1 - (f_Loads_of q3.1 h q3.2 5))) (q3.1 15 1)))))]) (M := mm q14 h) (args := [.inr (.inr (.inl 48)), .inl 4, .inl (w32 ((atV q14 47 6 4) + 1))]) (rest := []) (y2 := 9) rfl rfl rfl (Or.inr (Or.inl rfl)) rfl rfl (Nat.le_of_ble_eq_true rfl) rfl rfl (Nat.le_of_ble_eq_true rfl) (Nat.le_of_ble_eq_true rfl) (w_set rfl e16) ?_
      rintro _ _ ⟨rfl, rfl⟩
      refine ok_callA (L := [some (.inr (.inr (.inl 47))), some (.inl v1), some (.inl q1), some (.inr (.inr (.inl 29))), some (.inl q3.2), some (.inl (f_Loads_of q3.1 h q3.2 1)), some (.inl (w32 ((q3.1 15 0) - (cutV (w32 (v1 - (f_Loads_of q3.1 h q3.2 5))) (q3.1 15 1)))))]) (M := mm q16 h) (args := [.inr (.inr (.inl 48)), .inl 5]) (rest := [.inl 5, .inr (.inr (.inl 48))]) (y2 := 21) rfl rfl rfl (Or.inr (Or.inl rfl)) rfl rfl (Nat.le_of_ble_eq_true rfl) rfl rfl (Nat.le_of_ble_eq_true rfl) (Nat.le_of_ble_eq_true rfl) (w_at rfl rfl) ?_
      rintro _ _ ⟨rfl, rfl⟩
      obtain ⟨q18, e18, hf⟩ := lt_x hf
      refine ok_callA (L := [some (.inr (.inr (.inl 47))), some (.inl v1), some (.inl q1), some (.inr (.inr (.inl 29))), some (.inl q3.2), some (.inl (f_Loads_of q3.1 h q3.2 1)), some (.inl (w32 ((q3.1 15 0) - (cutV (w32 (v1 - (f_Loads_of q3.1 h q3.2 5))) (q3.1 15 1)))))]) (M := mm q16 h) (args := [.inr (.inr (.inl 48)), .inl 5, .inl (w32 ((atV q16 47 6 5) + (f_Loads_of q3.1 h q3.2 1)))]) (rest := []) (y2 := 9) rfl rfl rfl (Or.inr (Or.inl rfl)) rfl rfl (Nat.le_of_ble_eq_true rfl) rfl rfl (Nat.le_of_ble_eq_true rfl) (Nat.le_of_ble_eq_true rfl) (w_set rfl e18) ?_
      rintro _ _ ⟨rfl, rfl⟩
      obtain rfl := Option.some.inj hf
      have hz : (1 : Int) = 0 ∨ (1 : Int) = 1 := by
        first | exact Or.inl rfl | exact Or.inr rfl | assumption | (repeat' split) <;> first | exact Or.inl rfl | exact Or.inr rfl | assumption
      refine ok_zreturn (L := [some (.inr (.inr (.inl 47))), some (.inl v1), some (.inl q1), some (.inr (.inr (.inl 29))), some (.inl q3.2), some (.inl (f_Loads_of q3.1 h q3.2 1)), some (.inl (w32 ((q3.1 15 0) - (cutV (w32 (v1 - (f_Loads_of q3.1 h q3.2 5))) (q3.1 15 1)))))]) (M := mm q18 h) (x := 1) rfl rfl hz ?_
      exact ⟨rfl, rfl, hz⟩
  ·
    replace hf := (if_pos c2).symm.trans hf
    obtain rfl := Option.some.inj hf
    have hz : (0 : Int) = 0 ∨ (0 : Int) = 1 := by
      first | exact Or.inl rfl | exact Or.inr rfl | assumption | (repeat' split) <;> first | exact Or.inl rfl | exact Or.inr rfl | assumption
    refine ok_zreturn (L := [some (.inr (.inr (.inl 47))), some (.inl v1), some (.inl q1), none, none, none, none]) (M := mm V h) (x := 0) rfl rfl hz ?_
    exact ⟨rfl, rfl, hz⟩
def f_Paving_pave_13 (V : VV) (h : HP) (v2 : Int) : Option (VV) := if v2 = (V 46 10) then if (atV V 47 6 3) = (-1) then some V else lt_ (setV V 47 6 0 (w32 ((atV V 47 6 0) + 1))) (fun q5 => some q5) else some V
set_option maxRecDepth 20000 in
set_option maxHeartbeats 4000000 in
theorem s_Paving_pave_13 {X : Xs} {d : Nat} {V : VV} {h : HP} {v2 : Int} {w1 : Int} {w3 : Int} {q : VV} (hh : HOK h) (hf : f_Paving_pave_13 V h v2 = some q) : Ok X (d + 5) 114 13 ([some (.inr (.inr (.inl 47))), some (.inl w1), some (.inl v2), some (.inl w3)], [], mm V h) (fun M r => M = mm q h ∧ r = none) := by
  let QQ : Mm → Option AV → Prop := fun M r => M = mm q h ∧ r = none
  show Ok X (d + 5) 114 13 ([some (.inr (.inr (.inl 47))), some (.inl w1), some (.inl v2), some (.inl w3)], [], mm V h) QQ
  refine ok_ic_ne (x := v2) (u := V 46 10) (L := [some (.inr (.inr (.inl 47))), some (.inl w1), some (.inl v2), some (.inl w3)]) (S := []) (M := mm V h) rfl rfl (fun c1 => ?_) (fun c1 => ?_)
  ·
    replace hf := (if_neg c1).symm.trans hf
    obtain rfl := Option.some.inj hf
    refine ok_return (L := [some (.inr (.inr (.inl 47))), some (.inl w1), some (.inl v2), some (.inl w3)]) (M := mm V h) rfl rfl ?_
    exact ⟨rfl, rfl⟩
  ·
    replace hf := (if_pos c1).symm.trans hf
    refine ok_callA (L := [some (.inr (.inr (.inl 47))), some (.inl w1), some (.inl v2), some (.inl w3)]) (M := mm V h) (args := [.inr (.inr (.inl 48)), .inl 3]) (rest := []) (y2 := 21) rfl rfl rfl (Or.inr (Or.inl rfl)) rfl rfl (Nat.le_of_ble_eq_true rfl) rfl rfl (Nat.le_of_ble_eq_true rfl) (Nat.le_of_ble_eq_true rfl) (w_at rfl rfl) ?_
    rintro _ _ ⟨rfl, rfl⟩
    refine ok_ic_eq (x := atV V 47 6 3) (u := (-1)) (L := [some (.inr (.inr (.inl 47))), some (.inl w1), some (.inl v2), some (.inl w3)]) (S := []) (M := mm V h) rfl rfl (fun c3 => ?_) (fun c3 => ?_)
    ·
      replace hf := (if_pos c3).symm.trans hf
      obtain rfl := Option.some.inj hf
      refine ok_return (L := [some (.inr (.inr (.inl 47))), some (.inl w1), some (.inl v2), some (.inl w3)]) (M := mm V h) rfl rfl ?_
      exact ⟨rfl, rfl⟩
    ·
      replace hf := (if_neg c3).symm.trans hf
      refine ok_callA (L := [some (.inr (.inr (.inl 47))), some (.inl w1), some (.inl v2), some (.inl w3)]) (M := mm V h) (args := [.inr (.inr (.inl 48)), .inl 0]) (rest := [.inl 0, .inr (.inr (.inl 48))]) (y2 := 21) rfl rfl rfl (Or.inr (Or.inl rfl)) rfl rfl (Nat.le_of_ble_eq_true rfl) rfl rfl (Nat.le_of_ble_eq_true rfl) (Nat.le_of_ble_eq_true rfl) (w_at rfl rfl) ?_
      rintro _ _ ⟨rfl, rfl⟩
      obtain ⟨q5, e5, hf⟩ := lt_x hf
      refine ok_callA (L := [some (.inr (.inr (.inl 47))), some (.inl w1), some (.inl v2), some (.inl w3)]) (M := mm V h) (args := [.inr (.inr (.inl 48)), .inl 0, .inl (w32 ((atV V 47 6 0) + 1))]) (rest := []) (y2 := 9) rfl rfl rfl (Or.inr (Or.inl rfl)) rfl rfl (Nat.le_of_ble_eq_true rfl) rfl rfl (Nat.le_of_ble_eq_true rfl) (Nat.le_of_ble_eq_true rfl) (w_set rfl e5) ?_
      rintro _ _ ⟨rfl, rfl⟩
      obtain rfl := Option.some.inj hf
      refine ok_return (L := [some (.inr (.inr (.inl 47))), some (.inl w1), some (.inl v2), some (.inl w3)]) (M := mm q5 h) rfl rfl ?_
      exact ⟨rfl, rfl⟩
def f_Paving_pave_12 (k1 : VV → HP → Int → Int → Int → (Option (VV))) (V : VV) (h : HP) (v1 : Int) (v2 : Int) (v3 : Int) : Option (VV) := k1 V h v1 v2 (w32 (v3 + 1))
set_option maxRecDepth 20000 in
set_option maxHeartbeats 4000000 in
theorem s_Paving_pave_12 {X : Xs} {d : Nat} {k1 : VV → HP → Int → Int → Int → (Option (VV))} {V : VV} {h : HP} {v1 : Int} {v2 : Int} {v3 : Int} {q : VV} (hh : HOK h) (hf : f_Paving_pave_12 k1 V h v1 v2 v3 = some q) (K1 : ∀ (V : VV) (v1 : Int) (v2 : Int) (v3 : Int), k1 V h v1 v2 v3 = some q → Ok X (d + 5) 114 1 ([some (.inr (.inr (.inl 47))), some (.inl v1), some (.inl v2), some (.inl v3)], [], mm V h) (fun M r => M = mm q h ∧ r = none)) : Ok X (d + 5) 114 12 ([some (.inr (.inr (.inl 47))), some (.inl v1), some (.inl v2), some (.inl v3)], [], mm V h) (fun M r => M = mm q h ∧ r = none) := by
  let QQ : Mm → Option AV → Prop := fun M r => M = mm q h ∧ r = none
  show Ok X (d + 5) 114 12 ([some (.inr (.inr (.inl 47))), some (.inl v1), some (.inl v2), some (.inl v3)], [], mm V h) QQ
  refine ok_goto (L := [some (.inr (.inr (.inl 47))), some (.inl v1), some (.inl v2), some (.inl (w32 (v3 + 1)))]) (S := []) (M := mm V h) rfl rfl ?_
  exact K1 V v1 v2 (w32 (v3 + 1)) hf
def f_Paving_pave_1 : Nat → VV → HP → Int → Int → Int → (Option (VV))
  | 0, _, _, _, _, _ => none
  | n + 1, V, h, v1, v2, v3 => if v3 < 1000 then if 0 < v2 then if (V 46 8) = 0 then Option.bind (f_Paving_isFirmBelow V v1) (fun q4 => if q4.2 = 0 then f_Paving_pave_13 q4.1 h v2 else if 0 < (q4.1 46 15) then Option.bind (f_Paving_layOut q4.1 v2 v1) (fun q9 => f_Paving_pave_12 (f_Paving_pave_1 n) q9.1 h v1 (w32 (v2 - q9.2)) v3) else Option.bind (f_Paving_takeLoad q4.1 h v1) (fun q7 => if q7.2 = 0 then f_Paving_pave_13 q7.1 h v2 else f_Paving_pave_12 (f_Paving_pave_1 n) q7.1 h v1 v2 v3)) else f_Paving_pave_13 V h v2 else f_Paving_pave_13 V h v2 else f_Paving_pave_13 V h v2
set_option maxRecDepth 20000 in
set_option maxHeartbeats 4000000 in
theorem s_Paving_pave_1_n {X : Xs} {d : Nat} {h : HP} {q : VV} (hh : HOK h) : ∀ (n : Nat) (V : VV) (v1 : Int) (v2 : Int) (v3 : Int), f_Paving_pave_1 n V h v1 v2 v3 = some q → Ok X (d + 5) 114 1 ([some (.inr (.inr (.inl 47))), some (.inl v1), some (.inl v2), some (.inl v3)], [], mm V h) (fun M r => M = mm q h ∧ r = none) := by
  intro n
  induction n with
  | zero => intro V v1 v2 v3 hf; cases hf
  | succ n ih =>
    intro V v1 v2 v3 hf
    let QQ : Mm → Option AV → Prop := fun M r => M = mm q h ∧ r = none
    show Ok X (d + 5) 114 1 ([some (.inr (.inr (.inl 47))), some (.inl v1), some (.inl v2), some (.inl v3)], [], mm V h) QQ
    refine ok_ic_ge (x := v3) (u := 1000) (L := [some (.inr (.inr (.inl 47))), some (.inl v1), some (.inl v2), some (.inl v3)]) (S := []) (M := mm V h) rfl rfl (fun c1 => ?_) (fun c1 => ?_)
    ·
      replace hf := (if_neg (Int.not_lt.mpr c1)).symm.trans hf
      exact s_Paving_pave_13 hh hf
    ·
      replace hf := (if_pos c1).symm.trans hf
      refine ok_if_le (x := v2) (L := [some (.inr (.inr (.inl 47))), some (.inl v1), some (.inl v2), some (.inl v3)]) (S := []) (M := mm V h) rfl rfl (fun c2 => ?_) (fun c2 => ?_)
      ·
        replace hf := (if_neg (Int.not_lt.mpr c2)).symm.trans hf
        exact s_Paving_pave_13 hh hf
      ·
        replace hf := (if_pos c2).symm.trans hf
        refine ok_if_ne (x := V 46 8) (L := [some (.inr (.inr (.inl 47))), some (.inl v1), some (.inl v2), some (.inl v3)]) (S := []) (M := mm V h) rfl rfl (fun c3 => ?_) (fun c3 => ?_)
        ·
          replace hf := (if_neg c3).symm.trans hf
          exact s_Paving_pave_13 hh hf
        ·
          replace hf := (if_pos c3).symm.trans hf
          obtain ⟨q4, e4, hf⟩ := obind hf
          refine ok_callA (L := [some (.inr (.inr (.inl 47))), some (.inl v1), some (.inl v2), some (.inl v3)]) (M := mm V h) (args := [.inr (.inr (.inl 47)), .inl v1]) (rest := []) (y2 := 115) rfl rfl rfl (Or.inl rfl) rfl rfl (Nat.le_of_ble_eq_true rfl) rfl rfl (Nat.le_of_ble_eq_true rfl) (Nat.le_of_ble_eq_true rfl) (s_Paving_isFirmBelow e4) ?_
          rintro _ _ ⟨rfl, rfl, hz4⟩
          refine ok_if_eq (x := q4.2) (L := [some (.inr (.inr (.inl 47))), some (.inl v1), some (.inl v2), some (.inl v3)]) (S := []) (M := mm q4.1 h) rfl rfl (fun c5 => ?_) (fun c5 => ?_)
          ·
            replace hf := (if_pos c5).symm.trans hf
            exact s_Paving_pave_13 hh hf
          ·
            replace hf := (if_neg c5).symm.trans hf
            refine ok_if_le (x := q4.1 46 15) (L := [some (.inr (.inr (.inl 47))), some (.inl v1), some (.inl v2), some (.inl v3)]) (S := []) (M := mm q4.1 h) rfl rfl (fun c6 => ?_) (fun c6 => ?_)
            ·
              replace hf := (if_neg (Int.not_lt.mpr c6)).symm.trans hf
              obtain ⟨q7, e7, hf⟩ := obind hf
              refine ok_callA (L := [some (.inr (.inr (.inl 47))), some (.inl v1), some (.inl v2), some (.inl v3)]) (M := mm q4.1 h) (args := [.inr (.inr (.inl 47)), .inl v1]) (rest := []) (y2 := 120) rfl rfl rfl (Or.inl rfl) rfl rfl (Nat.le_of_ble_eq_true rfl) rfl rfl (Nat.le_of_ble_eq_true rfl) (Nat.le_of_ble_eq_true rfl) (s_Paving_takeLoad hh e7) ?_
              rintro _ _ ⟨rfl, rfl, hz7⟩
              refine ok_if_ne (x := q7.2) (L := [some (.inr (.inr (.inl 47))), some (.inl v1), some (.inl v2), some (.inl v3)]) (S := []) (M := mm q7.1 h) rfl rfl (fun c8 => ?_) (fun c8 => ?_)
              ·
                replace hf := (if_neg c8).symm.trans hf
                exact s_Paving_pave_12 hh hf ih
              ·
                replace hf := (if_pos c8).symm.trans hf
                refine ok_goto (L := [some (.inr (.inr (.inl 47))), some (.inl v1), some (.inl v2), some (.inl v3)]) (S := []) (M := mm q7.1 h) rfl rfl ?_
                exact s_Paving_pave_13 hh hf
            ·
              replace hf := (if_pos c6).symm.trans hf
              obtain ⟨q9, e9, hf⟩ := obind hf
              refine ok_callA (L := [some (.inr (.inr (.inl 47))), some (.inl v1), some (.inl v2), some (.inl v3)]) (M := mm q4.1 h) (args := [.inr (.inr (.inl 47)), .inl v2, .inl v1]) (rest := [.inl v2]) (y2 := 118) rfl rfl rfl (Or.inl rfl) rfl rfl (Nat.le_of_ble_eq_true rfl) rfl rfl (Nat.le_of_ble_eq_true rfl) (Nat.le_of_ble_eq_true rfl) (s_Paving_layOut e9) ?_
              rintro _ _ ⟨rfl, rfl⟩
              refine ok_goto (L := [some (.inr (.inr (.inl 47))), some (.inl v1), some (.inl (w32 (v2 - q9.2))), some (.inl v3)]) (S := []) (M := mm q9.1 h) rfl rfl ?_
              exact s_Paving_pave_12 hh hf ih
theorem s_Paving_pave_1 {X : Xs} {d : Nat} {h : HP} {V : VV} {v1 : Int} {v2 : Int} {v3 : Int} {n : Nat} {q : VV} (hh : HOK h) (hf : f_Paving_pave_1 n V h v1 v2 v3 = some q) : Ok X (d + 5) 114 1 ([some (.inr (.inr (.inl 47))), some (.inl v1), some (.inl v2), some (.inl v3)], [], mm V h) (fun M r => M = mm q h ∧ r = none) :=
  s_Paving_pave_1_n hh n V v1 v2 v3 hf
def f_Paving_pave (V : VV) (h : HP) (v1 : Int) : Option (VV) := f_Paving_pave_1 FU V h v1 (V 46 10) 0
set_option maxRecDepth 20000 in
set_option maxHeartbeats 4000000 in
theorem s_Paving_pave {X : Xs} {d : Nat} {V : VV} {h : HP} {v1 : Int} {q : VV} (hh : HOK h) (hf : f_Paving_pave V h v1 = some q) : Ok X (d + 5) 114 0 ([some (.inr (.inr (.inl 47))), some (.inl v1), none, none], [], mm V h) (fun M r => M = mm q h ∧ r = none) := by
  let QQ : Mm → Option AV → Prop := fun M r => M = mm q h ∧ r = none
  show Ok X (d + 5) 114 0 ([some (.inr (.inr (.inl 47))), some (.inl v1), none, none], [], mm V h) QQ
  refine ok_thru (L := [some (.inr (.inr (.inl 47))), some (.inl v1), some (.inl (V 46 10)), some (.inl 0)]) (S := []) (M := mm V h) rfl rfl ?_
  exact s_Paving_pave_1 hh hf
def f_Paving_isDone_21 (V : VV) (h : HP)  : Option ((VV × HP) × Int) := (if (V 46 8) = 0 ∨ (V 46 8) = 1 then some ((up V 46 7 1, h), V 46 8) else none)
set_option maxRecDepth 20000 in
set_option maxHeartbeats 4000000 in
theorem s_Paving_isDone_21 {X : Xs} {d : Nat} {V : VV} {h : HP} {w1 : Int} {w2 : Int} {w3 : Int} {w4 : Int} {z5 : Option AV} {q : (VV × HP) × Int} (hh : HOK h) (hf : f_Paving_isDone_21 V h = some q) : Ok X (d + 7) 96 21 ([some (.inr (.inr (.inl 47))), some (.inl w1), some (.inl w2), some (.inl w3), some (.inl w4), z5], [], mm V h) (fun M r => M = mm q.1.1 q.1.2 ∧ HOK q.1.2 ∧ r = some (.inl q.2) ∧ (q.2 = 0 ∨ q.2 = 1)) := by
  let QQ : Mm → Option AV → Prop := fun M r => M = mm q.1.1 q.1.2 ∧ HOK q.1.2 ∧ r = some (.inl q.2) ∧ (q.2 = 0 ∨ q.2 = 1)
  show Ok X (d + 7) 96 21 ([some (.inr (.inr (.inl 47))), some (.inl w1), some (.inl w2), some (.inl w3), some (.inl w4), z5], [], mm V h) QQ
  by_cases c1 : (V 46 8) = 0 ∨ (V 46 8) = 1
  case neg => replace hf := (if_neg c1).symm.trans hf; cases hf
  replace hf := (if_pos c1).symm.trans hf
  obtain rfl := Option.some.inj hf
  have hz : (V 46 8 : Int) = 0 ∨ (V 46 8 : Int) = 1 := by
    first | exact Or.inl rfl | exact Or.inr rfl | assumption | (repeat' split) <;> first | exact Or.inl rfl | exact Or.inr rfl | assumption
  refine ok_zreturn (L := [some (.inr (.inr (.inl 47))), some (.inl w1), some (.inl w2), some (.inl w3), some (.inl w4), z5]) (M := mm (up V 46 7 1) h) (x := V 46 8) rfl rfl hz ?_
  exact ⟨rfl, hh, rfl, hz⟩
def f_Paving_isDone_20 (k8 : VV → HP → Int → (Option ((VV × HP) × Int))) (V : VV) (h : HP) (v4 : Int) : Option ((VV × HP) × Int) := k8 V h (w32 (v4 + 1))
set_option maxRecDepth 20000 in
set_option maxHeartbeats 4000000 in
theorem s_Paving_isDone_20 {X : Xs} {d : Nat} {k8 : VV → HP → Int → (Option ((VV × HP) × Int))} {V : VV} {h : HP} {v4 : Int} {w1 : Int} {w2 : Int} {w3 : Int} {w5 : Int} {q : (VV × HP) × Int} (hh : HOK h) (hf : f_Paving_isDone_20 k8 V h v4 = some q) (K8 : ∀ (V : VV) (h : HP) (v4 : Int) (w1 : Int) (w2 : Int) (w3 : Int) (z5 : Option AV), HOK h → k8 V h v4 = some q → Ok X (d + 7) 96 8 ([some (.inr (.inr (.inl 47))), some (.inl w1), some (.inl w2), some (.inl w3), some (.inl v4), z5], [], mm V h) (fun M r => M = mm q.1.1 q.1.2 ∧ HOK q.1.2 ∧ r = some (.inl q.2) ∧ (q.2 = 0 ∨ q.2 = 1))) : Ok X (d + 7) 96 20 ([some (.inr (.inr (.inl 47))), some (.inl w1), some (.inl w2), some (.inl w3), some (.inl v4), some (.inl w5)], [], mm V h) (fun M r => M = mm q.1.1 q.1.2 ∧ HOK q.1.2 ∧ r = some (.inl q.2) ∧ (q.2 = 0 ∨ q.2 = 1)) := by
  let QQ : Mm → Option AV → Prop := fun M r => M = mm q.1.1 q.1.2 ∧ HOK q.1.2 ∧ r = some (.inl q.2) ∧ (q.2 = 0 ∨ q.2 = 1)
  show Ok X (d + 7) 96 20 ([some (.inr (.inr (.inl 47))), some (.inl w1), some (.inl w2), some (.inl w3), some (.inl v4), some (.inl w5)], [], mm V h) QQ
  refine ok_goto (L := [some (.inr (.inr (.inl 47))), some (.inl w1), some (.inl w2), some (.inl w3), some (.inl (w32 (v4 + 1))), some (.inl w5)]) (S := []) (M := mm V h) rfl rfl ?_
  exact K8 V h (w32 (v4 + 1)) w1 w2 w3 (some (.inl w5)) hh hf
def f_Paving_isDone_13 (k8 : VV → HP → Int → (Option ((VV × HP) × Int))) : Nat → VV → HP → Int → Int → (Option ((VV × HP) × Int))
  | 0, _, _, _, _ => none
  | n + 1, V, h, v4, v5 => if v5 < (V 10 4) then Option.bind (f_Haulage_servePlant V h v5 v4) (fun q6 => f_Paving_isDone_13 k8 n q6 h v4 (w32 (v5 + 1))) else Option.bind (f_Haulage_orderLoads V h v4) (fun q2 => if (f_Hours_isOpen q2.1 (q2.1 46 9) v4) = 0 then f_Paving_isDone_20 k8 q2.1 (q2.2) v4 else Option.bind (f_Paving_pave q2.1 (q2.2) v4) (fun q5 => f_Paving_isDone_20 k8 q5 (q2.2) v4))
set_option maxRecDepth 20000 in
set_option maxHeartbeats 4000000 in
theorem s_Paving_isDone_13_n {X : Xs} {d : Nat} {k8 : VV → HP → Int → (Option ((VV × HP) × Int))}  {q : (VV × HP) × Int} (K8 : ∀ (V : VV) (h : HP) (v4 : Int) (w1 : Int) (w2 : Int) (w3 : Int) (z5 : Option AV), HOK h → k8 V h v4 = some q → Ok X (d + 7) 96 8 ([some (.inr (.inr (.inl 47))), some (.inl w1), some (.inl w2), some (.inl w3), some (.inl v4), z5], [], mm V h) (fun M r => M = mm q.1.1 q.1.2 ∧ HOK q.1.2 ∧ r = some (.inl q.2) ∧ (q.2 = 0 ∨ q.2 = 1))) : ∀ (n : Nat) (V : VV) (h : HP) (v4 : Int) (v5 : Int) (w1 : Int) (w2 : Int) (w3 : Int), HOK h → f_Paving_isDone_13 k8 n V h v4 v5 = some q → Ok X (d + 7) 96 13 ([some (.inr (.inr (.inl 47))), some (.inl w1), some (.inl w2), some (.inl w3), some (.inl v4), some (.inl v5)], [], mm V h) (fun M r => M = mm q.1.1 q.1.2 ∧ HOK q.1.2 ∧ r = some (.inl q.2) ∧ (q.2 = 0 ∨ q.2 = 1)) := by
  intro n
  induction n with
  | zero => intro V h v4 v5 w1 w2 w3 hh hf; cases hf
  | succ n ih =>
    intro V h v4 v5 w1 w2 w3 hh hf
    let QQ : Mm → Option AV → Prop := fun M r => M = mm q.1.1 q.1.2 ∧ HOK q.1.2 ∧ r = some (.inl q.2) ∧ (q.2 = 0 ∨ q.2 = 1)
    show Ok X (d + 7) 96 13 ([some (.inr (.inr (.inl 47))), some (.inl w1), some (.inl w2), some (.inl w3), some (.inl v4), some (.inl v5)], [], mm V h) QQ
    refine ok_ic_ge (x := v5) (u := V 10 4) (L := [some (.inr (.inr (.inl 47))), some (.inl w1), some (.inl w2), some (.inl w3), some (.inl v4), some (.inl v5)]) (S := []) (M := mm V h) rfl rfl (fun c1 => ?_) (fun c1 => ?_)
    ·
      replace hf := (if_neg (Int.not_lt.mpr c1)).symm.trans hf
      obtain ⟨q2, e2, hf⟩ := obind hf
      refine ok_callA (L := [some (.inr (.inr (.inl 47))), some (.inl w1), some (.inl w2), some (.inl w3), some (.inl v4), some (.inl v5)]) (M := mm V h) (args := [.inr (.inr (.inl 38)), .inl v4]) (rest := []) (y2 := 107) rfl rfl rfl (Or.inl rfl) rfl rfl (Nat.le_of_ble_eq_true rfl) rfl rfl (Nat.le_of_ble_eq_true rfl) (Nat.le_of_ble_eq_true rfl) (s_Haulage_orderLoads hh e2) ?_
      rintro _ _ ⟨rfl, hh, rfl⟩
      refine ok_callA (L := [some (.inr (.inr (.inl 47))), some (.inl w1), some (.inl w2), some (.inl w3), some (.inl v4), some (.inl v5)]) (M := mm q2.1 (q2.2)) (args := [.inr (.inr (.inl 19)), .inl (q2.1 46 9), .inl v4]) (rest := []) (y2 := 89) rfl rfl rfl (Or.inl rfl) rfl rfl (Nat.le_of_ble_eq_true rfl) rfl rfl (Nat.le_of_ble_eq_true rfl) (Nat.le_of_ble_eq_true rfl) (s_Hours_isOpen rfl) ?_
      rintro _ _ ⟨rfl, rfl, hz3⟩
      refine ok_if_eq (x := f_Hours_isOpen q2.1 (q2.1 46 9) v4) (L := [some (.inr (.inr (.inl 47))), some (.inl w1), some (.inl w2), some (.inl w3), some (.inl v4), some (.inl v5)]) (S := []) (M := mm q2.1 (q2.2)) rfl rfl (fun c4 => ?_) (fun c4 => ?_)
      ·
        replace hf := (if_pos c4).symm.trans hf
        exact s_Paving_isDone_20 hh hf K8
      ·
        replace hf := (if_neg c4).symm.trans hf
        obtain ⟨q5, e5, hf⟩ := obind hf
        refine ok_callA (L := [some (.inr (.inr (.inl 47))), some (.inl w1), some (.inl w2), some (.inl w3), some (.inl v4), some (.inl v5)]) (M := mm q2.1 (q2.2)) (args := [.inr (.inr (.inl 47)), .inl v4]) (rest := []) (y2 := 114) rfl rfl rfl (Or.inl rfl) rfl rfl (Nat.le_of_ble_eq_true rfl) rfl rfl (Nat.le_of_ble_eq_true rfl) (Nat.le_of_ble_eq_true rfl) (s_Paving_pave hh e5) ?_
        rintro _ _ ⟨rfl, rfl⟩
        exact s_Paving_isDone_20 hh hf K8
    ·
      replace hf := (if_pos c1).symm.trans hf
      obtain ⟨q6, e6, hf⟩ := obind hf
      refine ok_callA (L := [some (.inr (.inr (.inl 47))), some (.inl w1), some (.inl w2), some (.inl w3), some (.inl v4), some (.inl v5)]) (M := mm V h) (args := [.inr (.inr (.inl 38)), .inl v5, .inl v4]) (rest := []) (y2 := 102) rfl rfl rfl (Or.inl rfl) rfl rfl (Nat.le_of_ble_eq_true rfl) rfl rfl (Nat.le_of_ble_eq_true rfl) (Nat.le_of_ble_eq_true rfl) (s_Haulage_servePlant hh e6) ?_
      rintro _ _ ⟨rfl, rfl⟩
      refine ok_goto (L := [some (.inr (.inr (.inl 47))), some (.inl w1), some (.inl w2), some (.inl w3), some (.inl v4), some (.inl (w32 (v5 + 1)))]) (S := []) (M := mm q6 h) rfl rfl ?_
      exact ih q6 h v4 (w32 (v5 + 1)) w1 w2 w3 hh hf
theorem s_Paving_isDone_13 {X : Xs} {d : Nat} {k8 : VV → HP → Int → (Option ((VV × HP) × Int))} {V : VV} {h : HP} {v4 : Int} {v5 : Int} {w1 : Int} {w2 : Int} {w3 : Int} {n : Nat} {q : (VV × HP) × Int} (hh : HOK h) (hf : f_Paving_isDone_13 k8 n V h v4 v5 = some q) (K8 : ∀ (V : VV) (h : HP) (v4 : Int) (w1 : Int) (w2 : Int) (w3 : Int) (z5 : Option AV), HOK h → k8 V h v4 = some q → Ok X (d + 7) 96 8 ([some (.inr (.inr (.inl 47))), some (.inl w1), some (.inl w2), some (.inl w3), some (.inl v4), z5], [], mm V h) (fun M r => M = mm q.1.1 q.1.2 ∧ HOK q.1.2 ∧ r = some (.inl q.2) ∧ (q.2 = 0 ∨ q.2 = 1))) : Ok X (d + 7) 96 13 ([some (.inr (.inr (.inl 47))), some (.inl w1), some (.inl w2), some (.inl w3), some (.inl v4), some (.inl v5)], [], mm V h) (fun M r => M = mm q.1.1 q.1.2 ∧ HOK q.1.2 ∧ r = some (.inl q.2) ∧ (q.2 = 0 ∨ q.2 = 1)) :=
  s_Paving_isDone_13_n K8 n V h v4 v5 w1 w2 w3 hh hf
def f_Paving_isDone_8 : Nat → VV → HP → Int → (Option ((VV × HP) × Int))
  | 0, _, _, _ => none
  | n + 1, V, h, v4 => if v4 < 4320 then if (V 46 8) = 0 then Option.bind (f_Haulage_makeMix V v4) (fun q3 => Option.bind (f_Haulage_comeIn q3 v4) (fun q4 => f_Paving_isDone_13 (f_Paving_isDone_8 n) FU q4 h v4 0)) else f_Paving_isDone_21 V h else f_Paving_isDone_21 V h
set_option maxRecDepth 20000 in
set_option maxHeartbeats 4000000 in
theorem s_Paving_isDone_8_n {X : Xs} {d : Nat}  {q : (VV × HP) × Int} : ∀ (n : Nat) (V : VV) (h : HP) (v4 : Int) (w1 : Int) (w2 : Int) (w3 : Int) (z5 : Option AV), HOK h → f_Paving_isDone_8 n V h v4 = some q → Ok X (d + 7) 96 8 ([some (.inr (.inr (.inl 47))), some (.inl w1), some (.inl w2), some (.inl w3), some (.inl v4), z5], [], mm V h) (fun M r => M = mm q.1.1 q.1.2 ∧ HOK q.1.2 ∧ r = some (.inl q.2) ∧ (q.2 = 0 ∨ q.2 = 1)) := by
  intro n
  induction n with
  | zero => intro V h v4 w1 w2 w3 z5 hh hf; cases hf
  | succ n ih =>
    intro V h v4 w1 w2 w3 z5 hh hf
    let QQ : Mm → Option AV → Prop := fun M r => M = mm q.1.1 q.1.2 ∧ HOK q.1.2 ∧ r = some (.inl q.2) ∧ (q.2 = 0 ∨ q.2 = 1)
    show Ok X (d + 7) 96 8 ([some (.inr (.inr (.inl 47))), some (.inl w1), some (.inl w2), some (.inl w3), some (.inl v4), z5], [], mm V h) QQ
    refine ok_ic_ge (x := v4) (u := 4320) (L := [some (.inr (.inr (.inl 47))), some (.inl w1), some (.inl w2), some (.inl w3), some (.inl v4), z5]) (S := []) (M := mm V h) rfl rfl (fun c1 => ?_) (fun c1 => ?_)
    ·
      replace hf := (if_neg (Int.not_lt.mpr c1)).symm.trans hf
      exact s_Paving_isDone_21 hh hf
    ·
      replace hf := (if_pos c1).symm.trans hf
      refine ok_if_ne (x := V 46 8) (L := [some (.inr (.inr (.inl 47))), some (.inl w1), some (.inl w2), some (.inl w3), some (.inl v4), z5]) (S := []) (M := mm V h) rfl rfl (fun c2 => ?_) (fun c2 => ?_)
      ·
        replace hf := (if_neg c2).symm.trans hf
        exact s_Paving_isDone_21 hh hf
      ·
        replace hf := (if_pos c2).symm.trans hf
        obtain ⟨q3, e3, hf⟩ := obind hf
        refine ok_callA (L := [some (.inr (.inr (.inl 47))), some (.inl w1), some (.inl w2), some (.inl w3), some (.inl v4), z5]) (M := mm V h) (args := [.inr (.inr (.inl 38)), .inl v4]) (rest := []) (y2 := 100) rfl rfl rfl (Or.inl rfl) rfl rfl (Nat.le_of_ble_eq_true rfl) rfl rfl (Nat.le_of_ble_eq_true rfl) (Nat.le_of_ble_eq_true rfl) (s_Haulage_makeMix e3) ?_
        rintro _ _ ⟨rfl, rfl⟩
        obtain ⟨q4, e4, hf⟩ := obind hf
        refine ok_callA (L := [some (.inr (.inr (.inl 47))), some (.inl w1), some (.inl w2), some (.inl w3), some (.inl v4), z5]) (M := mm q3 h) (args := [.inr (.inr (.inl 38)), .inl v4]) (rest := []) (y2 := 101) rfl rfl rfl (Or.inl rfl) rfl rfl (Nat.le_of_ble_eq_true rfl) rfl rfl (Nat.le_of_ble_eq_true rfl) (Nat.le_of_ble_eq_true rfl) (s_Haulage_comeIn e4) ?_
        rintro _ _ ⟨rfl, rfl⟩
        refine ok_thru (L := [some (.inr (.inr (.inl 47))), some (.inl w1), some (.inl w2), some (.inl w3), some (.inl v4), some (.inl 0)]) (S := []) (M := mm q4 h) rfl rfl ?_
        exact s_Paving_isDone_13 hh hf ih
theorem s_Paving_isDone_8 {X : Xs} {d : Nat} {V : VV} {h : HP} {v4 : Int} {w1 : Int} {w2 : Int} {w3 : Int} {z5 : Option AV} {n : Nat} {q : (VV × HP) × Int} (hh : HOK h) (hf : f_Paving_isDone_8 n V h v4 = some q) : Ok X (d + 7) 96 8 ([some (.inr (.inr (.inl 47))), some (.inl w1), some (.inl w2), some (.inl w3), some (.inl v4), z5], [], mm V h) (fun M r => M = mm q.1.1 q.1.2 ∧ HOK q.1.2 ∧ r = some (.inl q.2) ∧ (q.2 = 0 ∨ q.2 = 1)) :=
  s_Paving_isDone_8_n n V h v4 w1 w2 w3 z5 hh hf
def f_Paving_isDone_5 (V : VV) (h : HP) (v1 : Int) (v2 : Int) (v3 : Int) : Option ((VV × HP) × Int) := lt_ (f_Paving_clear V) (fun q1 => lt_ (f_Haulage_begin (up (up (up q1 46 9 v1) 46 10 v2) 46 11 v3) v1 v3) (fun q2 => f_Paving_isDone_8 FU q2 h 0))
set_option maxRecDepth 20000 in
set_option maxHeartbeats 4000000 in
theorem s_Paving_isDone_5 {X : Xs} {d : Nat} {V : VV} {h : HP} {v1 : Int} {v2 : Int} {v3 : Int} {z4 : Option AV} {z5 : Option AV} {q : (VV × HP) × Int} (hh : HOK h) (hf : f_Paving_isDone_5 V h v1 v2 v3 = some q) : Ok X (d + 7) 96 5 ([some (.inr (.inr (.inl 47))), some (.inl v1), some (.inl v2), some (.inl v3), z4, z5], [], mm V h) (fun M r => M = mm q.1.1 q.1.2 ∧ HOK q.1.2 ∧ r = some (.inl q.2) ∧ (q.2 = 0 ∨ q.2 = 1)) := by
  let QQ : Mm → Option AV → Prop := fun M r => M = mm q.1.1 q.1.2 ∧ HOK q.1.2 ∧ r = some (.inl q.2) ∧ (q.2 = 0 ∨ q.2 = 1)
  show Ok X (d + 7) 96 5 ([some (.inr (.inr (.inl 47))), some (.inl v1), some (.inl v2), some (.inl v3), z4, z5], [], mm V h) QQ
  obtain ⟨q1, e1, hf⟩ := lt_x hf
  refine ok_callA (L := [some (.inr (.inr (.inl 47))), some (.inl v1), some (.inl v2), some (.inl v3), z4, z5]) (M := mm V h) (args := [.inr (.inr (.inl 47))]) (rest := []) (y2 := 97) rfl rfl rfl (Or.inl rfl) rfl rfl (Nat.le_of_ble_eq_true rfl) rfl rfl (Nat.le_of_ble_eq_true rfl) (Nat.le_of_ble_eq_true rfl) (s_Paving_clear e1) ?_
  rintro _ _ ⟨rfl, rfl⟩
  obtain ⟨q2, e2, hf⟩ := lt_x hf
  refine ok_callA (L := [some (.inr (.inr (.inl 47))), some (.inl v1), some (.inl v2), some (.inl v3), z4, z5]) (M := mm (up (up (up q1 46 9 v1) 46 10 v2) 46 11 v3) h) (args := [.inr (.inr (.inl 38)), .inl v1, .inl v3]) (rest := []) (y2 := 98) rfl rfl rfl (Or.inl rfl) rfl rfl (Nat.le_of_ble_eq_true rfl) rfl rfl (Nat.le_of_ble_eq_true rfl) (Nat.le_of_ble_eq_true rfl) (s_Haulage_begin e2) ?_
  rintro _ _ ⟨rfl, rfl⟩
  refine ok_thru (L := [some (.inr (.inr (.inl 47))), some (.inl v1), some (.inl v2), some (.inl v3), some (.inl 0), z5]) (S := []) (M := mm q2 h) rfl rfl ?_
  exact s_Paving_isDone_8 hh hf
def f_Paving_isDone (V : VV) (h : HP) (v1 : Int) (v2 : Int) (v3 : Int) : Option ((VV × HP) × Int) := if (V 46 7) = 0 then f_Paving_isDone_5 V h v1 v2 v3 else if (V 46 9) = v1 then if (V 46 10) = v2 then if (V 46 11) = v3 then (if (V 46 8) = 0 ∨ (V 46 8) = 1 then some ((V, h), V 46 8) else none) else f_Paving_isDone_5 V h v1 v2 v3 else f_Paving_isDone_5 V h v1 v2 v3 else f_Paving_isDone_5 V h v1 v2 v3
set_option maxRecDepth 20000 in
set_option maxHeartbeats 4000000 in
theorem s_Paving_isDone {X : Xs} {d : Nat} {V : VV} {h : HP} {v1 : Int} {v2 : Int} {v3 : Int} {q : (VV × HP) × Int} (hh : HOK h) (hf : f_Paving_isDone V h v1 v2 v3 = some q) : Ok X (d + 7) 96 0 ([some (.inr (.inr (.inl 47))), some (.inl v1), some (.inl v2), some (.inl v3), none, none], [], mm V h) (fun M r => M = mm q.1.1 q.1.2 ∧ HOK q.1.2 ∧ r = some (.inl q.2) ∧ (q.2 = 0 ∨ q.2 = 1)) := by
  let QQ : Mm → Option AV → Prop := fun M r => M = mm q.1.1 q.1.2 ∧ HOK q.1.2 ∧ r = some (.inl q.2) ∧ (q.2 = 0 ∨ q.2 = 1)
  show Ok X (d + 7) 96 0 ([some (.inr (.inr (.inl 47))), some (.inl v1), some (.inl v2), some (.inl v3), none, none], [], mm V h) QQ
  refine ok_if_eq (x := V 46 7) (L := [some (.inr (.inr (.inl 47))), some (.inl v1), some (.inl v2), some (.inl v3), none, none]) (S := []) (M := mm V h) rfl rfl (fun c1 => ?_) (fun c1 => ?_)
  ·
    replace hf := (if_pos c1).symm.trans hf
    exact s_Paving_isDone_5 hh hf
  ·
    replace hf := (if_neg c1).symm.trans hf
    refine ok_ic_ne (x := V 46 9) (u := v1) (L := [some (.inr (.inr (.inl 47))), some (.inl v1), some (.inl v2), some (.inl v3), none, none]) (S := []) (M := mm V h) rfl rfl (fun c2 => ?_) (fun c2 => ?_)
    ·
      replace hf := (if_neg c2).symm.trans hf
      exact s_Paving_isDone_5 hh hf
    ·
      replace hf := (if_pos c2).symm.trans hf
      refine ok_ic_ne (x := V 46 10) (u := v2) (L := [some (.inr (.inr (.inl 47))), some (.inl v1), some (.inl v2), some (.inl v3), none, none]) (S := []) (M := mm V h) rfl rfl (fun c3 => ?_) (fun c3 => ?_)
      ·
        replace hf := (if_neg c3).symm.trans hf
        exact s_Paving_isDone_5 hh hf
      ·
        replace hf := (if_pos c3).symm.trans hf
        refine ok_ic_ne (x := V 46 11) (u := v3) (L := [some (.inr (.inr (.inl 47))), some (.inl v1), some (.inl v2), some (.inl v3), none, none]) (S := []) (M := mm V h) rfl rfl (fun c4 => ?_) (fun c4 => ?_)
        ·
          replace hf := (if_neg c4).symm.trans hf
          exact s_Paving_isDone_5 hh hf
        ·
          replace hf := (if_pos c4).symm.trans hf
          by_cases c5 : (V 46 8) = 0 ∨ (V 46 8) = 1
          case neg => replace hf := (if_neg c5).symm.trans hf; cases hf
          replace hf := (if_pos c5).symm.trans hf
          obtain rfl := Option.some.inj hf
          have hz : (V 46 8 : Int) = 0 ∨ (V 46 8 : Int) = 1 := by
            first | exact Or.inl rfl | exact Or.inr rfl | assumption | (repeat' split) <;> first | exact Or.inl rfl | exact Or.inr rfl | assumption
          refine ok_zreturn (L := [some (.inr (.inr (.inl 47))), some (.inl v1), some (.inl v2), some (.inl v3), none, none]) (M := mm V h) (x := V 46 8) rfl rfl hz ?_
          exact ⟨rfl, hh, rfl, hz⟩
