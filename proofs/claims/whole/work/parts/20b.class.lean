/-! shallow functions of the program (printed by wip/tools/gen20.py) -/
def f_Br_roller (V : VV) (v1 : Int) (v2 : Int) : VV × Int := if (isFromV v1 0 2) = 0 then (V, (-1)) else if (isFromV v2 10 100) = 0 then (V, (-1)) else lt_ (f_Rolling_add V v1 v2) (fun q5 => (q5.1, q5.2))
set_option maxRecDepth 20000 in
set_option maxHeartbeats 4000000 in
theorem s_Br_roller {X : Xs} {d : Nat} {V : VV} {h : HP} {v1 : Int} {v2 : Int} {q : VV × Int} (hf : f_Br_roller V v1 v2 = q) : Ok X (d + 3) 42 0 ([some (.inr (.inr (.inl 1))), some (.inl v1), some (.inl v2)], [], mm V h) (fun M r => M = mm q.1 h ∧ r = some (.inl q.2)) := by
  let QQ : Mm → Option AV → Prop := fun M r => M = mm q.1 h ∧ r = some (.inl q.2)
  show Ok X (d + 3) 42 0 ([some (.inr (.inr (.inl 1))), some (.inl v1), some (.inl v2)], [], mm V h) QQ
  refine ok_callA (L := [some (.inr (.inr (.inl 1))), some (.inl v1), some (.inl v2)]) (M := mm V h) (args := [.inl v1, .inl 0, .inl 2]) (rest := []) (y2 := 16) rfl rfl rfl (Or.inr (Or.inl rfl)) rfl rfl (Nat.le_of_ble_eq_true rfl) rfl rfl (Nat.le_of_ble_eq_true rfl) (Nat.le_of_ble_eq_true rfl) (w_isFrom rfl) ?_
  rintro _ _ ⟨rfl, rfl, hz1⟩
  refine ok_if_eq (x := isFromV v1 0 2) (L := [some (.inr (.inr (.inl 1))), some (.inl v1), some (.inl v2)]) (S := []) (M := mm V h) rfl rfl (fun c2 => ?_) (fun c2 => ?_)
  ·
    replace hf := (if_pos c2).symm.trans hf
    have hq : ((V, (-1))) = q := hf
    subst hq
    refine ok_ireturn (L := [some (.inr (.inr (.inl 1))), some (.inl v1), some (.inl v2)]) (M := mm V h) (x := (-1)) rfl rfl ?_
    exact ⟨rfl, rfl⟩
  ·
    replace hf := (if_neg c2).symm.trans hf
    refine ok_callA (L := [some (.inr (.inr (.inl 1))), some (.inl v1), some (.inl v2)]) (M := mm V h) (args := [.inl v2, .inl 10, .inl 100]) (rest := []) (y2 := 16) rfl rfl rfl (Or.inr (Or.inl rfl)) rfl rfl (Nat.le_of_ble_eq_true rfl) rfl rfl (Nat.le_of_ble_eq_true rfl) (Nat.le_of_ble_eq_true rfl) (w_isFrom rfl) ?_
    rintro _ _ ⟨rfl, rfl, hz3⟩
    refine ok_if_ne (x := isFromV v2 10 100) (L := [some (.inr (.inr (.inl 1))), some (.inl v1), some (.inl v2)]) (S := []) (M := mm V h) rfl rfl (fun c4 => ?_) (fun c4 => ?_)
    ·
      replace hf := (if_neg c4).symm.trans hf
      obtain ⟨q5, e5, hf⟩ := lt_x hf
      refine ok_callA (L := [some (.inr (.inr (.inl 1))), some (.inl v1), some (.inl v2)]) (M := mm V h) (args := [.inr (.inr (.inl 50)), .inl v1, .inl v2]) (rest := []) (y2 := 43) rfl rfl rfl (Or.inl rfl) rfl rfl (Nat.le_of_ble_eq_true rfl) rfl rfl (Nat.le_of_ble_eq_true rfl) (Nat.le_of_ble_eq_true rfl) (s_Rolling_add e5) ?_
      rintro _ _ ⟨rfl, rfl⟩
      have hq : ((q5.1, q5.2)) = q := hf
      subst hq
      refine ok_ireturn (L := [some (.inr (.inr (.inl 1))), some (.inl v1), some (.inl v2)]) (M := mm q5.1 h) (x := q5.2) rfl rfl ?_
      exact ⟨rfl, rfl⟩
    ·
      replace hf := (if_pos c4).symm.trans hf
      have hq : ((V, (-1))) = q := hf
      subst hq
      refine ok_ireturn (L := [some (.inr (.inr (.inl 1))), some (.inl v1), some (.inl v2)]) (M := mm V h) (x := (-1)) rfl rfl ?_
      exact ⟨rfl, rfl⟩
def f_Rolling_setSort (V : VV) (v1 : Int) (v2 : Int) (v3 : Int) (v4 : Int) : VV := lt_ (setV V 52 3 v1 v2) (fun q1 => lt_ (setV q1 53 3 v1 v3) (fun q2 => lt_ (setV q2 54 3 v1 v4) (fun q3 => up q3 49 10 (-1))))
set_option maxRecDepth 20000 in
set_option maxHeartbeats 4000000 in
theorem s_Rolling_setSort {X : Xs} {d : Nat} {V : VV} {h : HP} {v1 : Int} {v2 : Int} {v3 : Int} {v4 : Int} {q : VV} (hf : f_Rolling_setSort V v1 v2 v3 v4 = q) : Ok X (d + 2) 45 0 ([some (.inr (.inr (.inl 50))), some (.inl v1), some (.inl v2), some (.inl v3), some (.inl v4)], [], mm V h) (fun M r => M = mm q h ∧ r = none) := by
  let QQ : Mm → Option AV → Prop := fun M r => M = mm q h ∧ r = none
  show Ok X (d + 2) 45 0 ([some (.inr (.inr (.inl 50))), some (.inl v1), some (.inl v2), some (.inl v3), some (.inl v4)], [], mm V h) QQ
  obtain ⟨q1, e1, hf⟩ := lt_x hf
  refine ok_callA (L := [some (.inr (.inr (.inl 50))), some (.inl v1), some (.inl v2), some (.inl v3), some (.inl v4)]) (M := mm V h) (args := [.inr (.inr (.inl 53)), .inl v1, .inl v2]) (rest := []) (y2 := 9) rfl rfl rfl (Or.inr (Or.inl rfl)) rfl rfl (Nat.le_of_ble_eq_true rfl) rfl rfl (Nat.le_of_ble_eq_true rfl) (Nat.le_of_ble_eq_true rfl) (w_set rfl e1) ?_
  rintro _ _ ⟨rfl, rfl⟩
  obtain ⟨q2, e2, hf⟩ := lt_x hf
  refine ok_callA (L := [some (.inr (.inr (.inl 50))), some (.inl v1), some (.inl v2), some (.inl v3), some (.inl v4)]) (M := mm q1 h) (args := [.inr (.inr (.inl 54)), .inl v1, .inl v3]) (rest := []) (y2 := 9) rfl rfl rfl (Or.inr (Or.inl rfl)) rfl rfl (Nat.le_of_ble_eq_true rfl) rfl rfl (Nat.le_of_ble_eq_true rfl) (Nat.le_of_ble_eq_true rfl) (w_set rfl e2) ?_
  rintro _ _ ⟨rfl, rfl⟩
  obtain ⟨q3, e3, hf⟩ := lt_x hf
  refine ok_callA (L := [some (.inr (.inr (.inl 50))), some (.inl v1), some (.inl v2), some (.inl v3), some (.inl v4)]) (M := mm q2 h) (args := [.inr (.inr (.inl 55)), .inl v1, .inl v4]) (rest := []) (y2 := 9) rfl rfl rfl (Or.inr (Or.inl rfl)) rfl rfl (Nat.le_of_ble_eq_true rfl) rfl rfl (Nat.le_of_ble_eq_true rfl) (Nat.le_of_ble_eq_true rfl) (w_set rfl e3) ?_
  rintro _ _ ⟨rfl, rfl⟩
  have hq : (up q3 49 10 (-1)) = q := hf
  subst hq
  refine ok_return (L := [some (.inr (.inr (.inl 50))), some (.inl v1), some (.inl v2), some (.inl v3), some (.inl v4)]) (M := mm (up q3 49 10 (-1)) h) rfl rfl ?_
  exact ⟨rfl, rfl⟩
def f_Br_sort (V : VV) (v1 : Int) (v2 : Int) (v3 : Int) (v4 : Int) : VV × Int := if (isFromV v1 0 2) = 0 then (V, 0) else if (isFromV v2 0 200) = 0 then (V, 0) else if (isFromV v3 0 v2) = 0 then (V, 0) else if (isFromV v4 0 9) = 0 then (V, 0) else lt_ (f_Rolling_setSort V v1 v2 v3 v4) (fun q9 => (q9, 1))
set_option maxRecDepth 20000 in
set_option maxHeartbeats 4000000 in
theorem s_Br_sort {X : Xs} {d : Nat} {V : VV} {h : HP} {v1 : Int} {v2 : Int} {v3 : Int} {v4 : Int} {q : VV × Int} (hf : f_Br_sort V v1 v2 v3 v4 = q) : Ok X (d + 3) 44 0 ([some (.inr (.inr (.inl 1))), some (.inl v1), some (.inl v2), some (.inl v3), some (.inl v4)], [], mm V h) (fun M r => M = mm q.1 h ∧ r = some (.inl q.2) ∧ (q.2 = 0 ∨ q.2 = 1)) := by
  let QQ : Mm → Option AV → Prop := fun M r => M = mm q.1 h ∧ r = some (.inl q.2) ∧ (q.2 = 0 ∨ q.2 = 1)
  show Ok X (d + 3) 44 0 ([some (.inr (.inr (.inl 1))), some (.inl v1), some (.inl v2), some (.inl v3), some (.inl v4)], [], mm V h) QQ
  refine ok_callA (L := [some (.inr (.inr (.inl 1))), some (.inl v1), some (.inl v2), some (.inl v3), some (.inl v4)]) (M := mm V h) (args := [.inl v1, .inl 0, .inl 2]) (rest := []) (y2 := 16) rfl rfl rfl (Or.inr (Or.inl rfl)) rfl rfl (Nat.le_of_ble_eq_true rfl) rfl rfl (Nat.le_of_ble_eq_true rfl) (Nat.le_of_ble_eq_true rfl) (w_isFrom rfl) ?_
  rintro _ _ ⟨rfl, rfl, hz1⟩
  refine ok_if_eq (x := isFromV v1 0 2) (L := [some (.inr (.inr (.inl 1))), some (.inl v1), some (.inl v2), some (.inl v3), some (.inl v4)]) (S := []) (M := mm V h) rfl rfl (fun c2 => ?_) (fun c2 => ?_)
  ·
    replace hf := (if_pos c2).symm.trans hf
    have hq : ((V, 0)) = q := hf
    subst hq
    have hz : (0 : Int) = 0 ∨ (0 : Int) = 1 := by
      first | exact Or.inl rfl | exact Or.inr rfl | assumption | (repeat' split) <;> first | exact Or.inl rfl | exact Or.inr rfl | assumption
    refine ok_zreturn (L := [some (.inr (.inr (.inl 1))), some (.inl v1), some (.inl v2), some (.inl v3), some (.inl v4)]) (M := mm V h) (x := 0) rfl rfl hz ?_
    exact ⟨rfl, rfl, hz⟩
  ·
    replace hf := (if_neg c2).symm.trans hf
    refine ok_callA (L := [some (.inr (.inr (.inl 1))), some (.inl v1), some (.inl v2), some (.inl v3), some (.inl v4)]) (M := mm V h) (args := [.inl v2, .inl 0, .inl 200]) (rest := []) (y2 := 16) rfl rfl rfl (Or.inr (Or.inl rfl)) rfl rfl (Nat.le_of_ble_eq_true rfl) rfl rfl (Nat.le_of_ble_eq_true rfl) (Nat.le_of_ble_eq_true rfl) (w_isFrom rfl) ?_
    rintro _ _ ⟨rfl, rfl, hz3⟩
    refine ok_if_eq (x := isFromV v2 0 200) (L := [some (.inr (.inr (.inl 1))), some (.inl v1), some (.inl v2), some (.inl v3), some (.inl v4)]) (S := []) (M := mm V h) rfl rfl (fun c4 => ?_) (fun c4 => ?_)
    ·
      replace hf := (if_pos c4).symm.trans hf
      have hq : ((V, 0)) = q := hf
      subst hq
      have hz : (0 : Int) = 0 ∨ (0 : Int) = 1 := by
        first | exact Or.inl rfl | exact Or.inr rfl | assumption | (repeat' split) <;> first | exact Or.inl rfl | exact Or.inr rfl | assumption
      refine ok_zreturn (L := [some (.inr (.inr (.inl 1))), some (.inl v1), some (.inl v2), some (.inl v3), some (.inl v4)]) (M := mm V h) (x := 0) rfl rfl hz ?_
      exact ⟨rfl, rfl, hz⟩
    ·
      replace hf := (if_neg c4).symm.trans hf
      refine ok_callA (L := [some (.inr (.inr (.inl 1))), some (.inl v1), some (.inl v2), some (.inl v3), some (.inl v4)]) (M := mm V h) (args := [.inl v3, .inl 0, .inl v2]) (rest := []) (y2 := 16) rfl rfl rfl (Or.inr (Or.inl rfl)) rfl rfl (Nat.le_of_ble_eq_true rfl) rfl rfl (Nat.le_of_ble_eq_true rfl) (Nat.le_of_ble_eq_true rfl) (w_isFrom rfl) ?_
      rintro _ _ ⟨rfl, rfl, hz5⟩
      refine ok_if_eq (x := isFromV v3 0 v2) (L := [some (.inr (.inr (.inl 1))), some (.inl v1), some (.inl v2), some (.inl v3), some (.inl v4)]) (S := []) (M := mm V h) rfl rfl (fun c6 => ?_) (fun c6 => ?_)
      ·
        replace hf := (if_pos c6).symm.trans hf
        have hq : ((V, 0)) = q := hf
        subst hq
        have hz : (0 : Int) = 0 ∨ (0 : Int) = 1 := by
          first | exact Or.inl rfl | exact Or.inr rfl | assumption | (repeat' split) <;> first | exact Or.inl rfl | exact Or.inr rfl | assumption
        refine ok_zreturn (L := [some (.inr (.inr (.inl 1))), some (.inl v1), some (.inl v2), some (.inl v3), some (.inl v4)]) (M := mm V h) (x := 0) rfl rfl hz ?_
        exact ⟨rfl, rfl, hz⟩
      ·
        replace hf := (if_neg c6).symm.trans hf
        refine ok_callA (L := [some (.inr (.inr (.inl 1))), some (.inl v1), some (.inl v2), some (.inl v3), some (.inl v4)]) (M := mm V h) (args := [.inl v4, .inl 0, .inl 9]) (rest := []) (y2 := 16) rfl rfl rfl (Or.inr (Or.inl rfl)) rfl rfl (Nat.le_of_ble_eq_true rfl) rfl rfl (Nat.le_of_ble_eq_true rfl) (Nat.le_of_ble_eq_true rfl) (w_isFrom rfl) ?_
        rintro _ _ ⟨rfl, rfl, hz7⟩
        refine ok_if_ne (x := isFromV v4 0 9) (L := [some (.inr (.inr (.inl 1))), some (.inl v1), some (.inl v2), some (.inl v3), some (.inl v4)]) (S := []) (M := mm V h) rfl rfl (fun c8 => ?_) (fun c8 => ?_)
        ·
          replace hf := (if_neg c8).symm.trans hf
          obtain ⟨q9, e9, hf⟩ := lt_x hf
          refine ok_callA (L := [some (.inr (.inr (.inl 1))), some (.inl v1), some (.inl v2), some (.inl v3), some (.inl v4)]) (M := mm V h) (args := [.inr (.inr (.inl 50)), .inl v1, .inl v2, .inl v3, .inl v4]) (rest := []) (y2 := 45) rfl rfl rfl (Or.inl rfl) rfl rfl (Nat.le_of_ble_eq_true rfl) rfl rfl (Nat.le_of_ble_eq_true rfl) (Nat.le_of_ble_eq_true rfl) (s_Rolling_setSort e9) ?_
          rintro _ _ ⟨rfl, rfl⟩
          have hq : ((q9, 1)) = q := hf
          subst hq
          have hz : (1 : Int) = 0 ∨ (1 : Int) = 1 := by
            first | exact Or.inl rfl | exact Or.inr rfl | assumption | (repeat' split) <;> first | exact Or.inl rfl | exact Or.inr rfl | assumption
          refine ok_zreturn (L := [some (.inr (.inr (.inl 1))), some (.inl v1), some (.inl v2), some (.inl v3), some (.inl v4)]) (M := mm q9 h) (x := 1) rfl rfl hz ?_
          exact ⟨rfl, rfl, hz⟩
        ·
          replace hf := (if_pos c8).symm.trans hf
          have hq : ((V, 0)) = q := hf
          subst hq
          have hz : (0 : Int) = 0 ∨ (0 : Int) = 1 := by
            first | exact Or.inl rfl | exact Or.inr rfl | assumption | (repeat' split) <;> first | exact Or.inl rfl | exact Or.inr rfl | assumption
          refine ok_zreturn (L := [some (.inr (.inr (.inl 1))), some (.inl v1), some (.inl v2), some (.inl v3), some (.inl v4)]) (M := mm V h) (x := 0) rfl rfl hz ?_
          exact ⟨rfl, rfl, hz⟩
def f_Br_feed (V : VV) (v1 : Int) (v2 : Int) (v3 : Int) (v4 : Int) (v5 : Int) : Option (VV × Int) := if 400 < (w32 ((V 16 1) + 20)) then some (V, (-1)) else Option.bind (f_Tape_addFour V v1) (fun q2 => Option.bind (f_Tape_addFour q2 v2) (fun q3 => Option.bind (f_Tape_addFour q3 v3) (fun q4 => Option.bind (f_Tape_addFour q4 v4) (fun q5 => Option.bind (f_Tape_addFour q5 v5) (fun q6 => some (q6, q6 16 1))))))
set_option maxRecDepth 20000 in
set_option maxHeartbeats 4000000 in
theorem s_Br_feed {X : Xs} {d : Nat} {V : VV} {h : HP} {v1 : Int} {v2 : Int} {v3 : Int} {v4 : Int} {v5 : Int} {q : VV × Int} (hf : f_Br_feed V v1 v2 v3 v4 v5 = some q) : Ok X (d + 3) 46 0 ([some (.inr (.inr (.inl 1))), some (.inl v1), some (.inl v2), some (.inl v3), some (.inl v4), some (.inl v5)], [], mm V h) (fun M r => M = mm q.1 h ∧ r = some (.inl q.2)) := by
  let QQ : Mm → Option AV → Prop := fun M r => M = mm q.1 h ∧ r = some (.inl q.2)
  show Ok X (d + 3) 46 0 ([some (.inr (.inr (.inl 1))), some (.inl v1), some (.inl v2), some (.inl v3), some (.inl v4), some (.inl v5)], [], mm V h) QQ
  refine ok_ic_le (x := w32 ((V 16 1) + 20)) (u := 400) (L := [some (.inr (.inr (.inl 1))), some (.inl v1), some (.inl v2), some (.inl v3), some (.inl v4), some (.inl v5)]) (S := []) (M := mm V h) rfl rfl (fun c1 => ?_) (fun c1 => ?_)
  ·
    replace hf := (if_neg (Int.not_lt.mpr c1)).symm.trans hf
    obtain ⟨q2, e2, hf⟩ := obind hf
    refine ok_callA (L := [some (.inr (.inr (.inl 1))), some (.inl v1), some (.inl v2), some (.inl v3), some (.inl v4), some (.inl v5)]) (M := mm V h) (args := [.inr (.inr (.inl 17)), .inl v1]) (rest := []) (y2 := 8) rfl rfl rfl (Or.inl rfl) rfl rfl (Nat.le_of_ble_eq_true rfl) rfl rfl (Nat.le_of_ble_eq_true rfl) (Nat.le_of_ble_eq_true rfl) (s_Tape_addFour e2) ?_
    rintro _ _ ⟨rfl, rfl⟩
    obtain ⟨q3, e3, hf⟩ := obind hf
    refine ok_callA (L := [some (.inr (.inr (.inl 1))), some (.inl v1), some (.inl v2), some (.inl v3), some (.inl v4), some (.inl v5)]) (M := mm q2 h) (args := [.inr (.inr (.inl 17)), .inl v2]) (rest := []) (y2 := 8) rfl rfl rfl (Or.inl rfl) rfl rfl (Nat.le_of_ble_eq_true rfl) rfl rfl (Nat.le_of_ble_eq_true rfl) (Nat.le_of_ble_eq_true rfl) (s_Tape_addFour e3) ?_
    rintro _ _ ⟨rfl, rfl⟩
    obtain ⟨q4, e4, hf⟩ := obind hf
    refine ok_callA (L := [some (.inr (.inr (.inl 1))), some (.inl v1), some (.inl v2), some (.inl v3), some (.inl v4), some (.inl v5)]) (M := mm q3 h) (args := [.inr (.inr (.inl 17)), .inl v3]) (rest := []) (y2 := 8) rfl rfl rfl (Or.inl rfl) rfl rfl (Nat.le_of_ble_eq_true rfl) rfl rfl (Nat.le_of_ble_eq_true rfl) (Nat.le_of_ble_eq_true rfl) (s_Tape_addFour e4) ?_
    rintro _ _ ⟨rfl, rfl⟩
    obtain ⟨q5, e5, hf⟩ := obind hf
    refine ok_callA (L := [some (.inr (.inr (.inl 1))), some (.inl v1), some (.inl v2), some (.inl v3), some (.inl v4), some (.inl v5)]) (M := mm q4 h) (args := [.inr (.inr (.inl 17)), .inl v4]) (rest := []) (y2 := 8) rfl rfl rfl (Or.inl rfl) rfl rfl (Nat.le_of_ble_eq_true rfl) rfl rfl (Nat.le_of_ble_eq_true rfl) (Nat.le_of_ble_eq_true rfl) (s_Tape_addFour e5) ?_
    rintro _ _ ⟨rfl, rfl⟩
    obtain ⟨q6, e6, hf⟩ := obind hf
    refine ok_callA (L := [some (.inr (.inr (.inl 1))), some (.inl v1), some (.inl v2), some (.inl v3), some (.inl v4), some (.inl v5)]) (M := mm q5 h) (args := [.inr (.inr (.inl 17)), .inl v5]) (rest := []) (y2 := 8) rfl rfl rfl (Or.inl rfl) rfl rfl (Nat.le_of_ble_eq_true rfl) rfl rfl (Nat.le_of_ble_eq_true rfl) (Nat.le_of_ble_eq_true rfl) (s_Tape_addFour e6) ?_
    rintro _ _ ⟨rfl, rfl⟩
    obtain rfl := Option.some.inj hf
    refine ok_ireturn (L := [some (.inr (.inr (.inl 1))), some (.inl v1), some (.inl v2), some (.inl v3), some (.inl v4), some (.inl v5)]) (M := mm q6 h) (x := q6 16 1) rfl rfl ?_
    exact ⟨rfl, rfl⟩
  ·
    replace hf := (if_pos c1).symm.trans hf
    obtain rfl := Option.some.inj hf
    refine ok_ireturn (L := [some (.inr (.inr (.inl 1))), some (.inl v1), some (.inl v2), some (.inl v3), some (.inl v4), some (.inl v5)]) (M := mm V h) (x := (-1)) rfl rfl ?_
    exact ⟨rfl, rfl⟩
def f_Br_end (V : VV) (v1 : Int) : VV × Int := if (isFromV v1 0 (V 16 1)) = 0 then (V, (-1)) else (up V 16 1 v1, v1)
set_option maxRecDepth 20000 in
set_option maxHeartbeats 4000000 in
theorem s_Br_end {X : Xs} {d : Nat} {V : VV} {h : HP} {v1 : Int} {q : VV × Int} (hf : f_Br_end V v1 = q) : Ok X (d + 2) 47 0 ([some (.inr (.inr (.inl 1))), some (.inl v1)], [], mm V h) (fun M r => M = mm q.1 h ∧ r = some (.inl q.2)) := by
  let QQ : Mm → Option AV → Prop := fun M r => M = mm q.1 h ∧ r = some (.inl q.2)
  show Ok X (d + 2) 47 0 ([some (.inr (.inr (.inl 1))), some (.inl v1)], [], mm V h) QQ
  refine ok_callA (L := [some (.inr (.inr (.inl 1))), some (.inl v1)]) (M := mm V h) (args := [.inl v1, .inl 0, .inl (V 16 1)]) (rest := []) (y2 := 16) rfl rfl rfl (Or.inr (Or.inl rfl)) rfl rfl (Nat.le_of_ble_eq_true rfl) rfl rfl (Nat.le_of_ble_eq_true rfl) (Nat.le_of_ble_eq_true rfl) (w_isFrom rfl) ?_
  rintro _ _ ⟨rfl, rfl, hz1⟩
  refine ok_if_ne (x := isFromV v1 0 (V 16 1)) (L := [some (.inr (.inr (.inl 1))), some (.inl v1)]) (S := []) (M := mm V h) rfl rfl (fun c2 => ?_) (fun c2 => ?_)
  ·
    replace hf := (if_neg c2).symm.trans hf
    have hq : ((up V 16 1 v1, v1)) = q := hf
    subst hq
    refine ok_ireturn (L := [some (.inr (.inr (.inl 1))), some (.inl v1)]) (M := mm (up V 16 1 v1) h) (x := v1) rfl rfl ?_
    exact ⟨rfl, rfl⟩
  ·
    replace hf := (if_pos c2).symm.trans hf
    have hq : ((V, (-1))) = q := hf
    subst hq
    refine ok_ireturn (L := [some (.inr (.inr (.inl 1))), some (.inl v1)]) (M := mm V h) (x := (-1)) rfl rfl ?_
    exact ⟨rfl, rfl⟩
def f_Tape_isBlank (V : VV) (v0 : Int) : Int := (if v0 = 32 then 1 else (if v0 = 10 then 1 else 0 : Int) : Int)
set_option maxRecDepth 20000 in
set_option maxHeartbeats 4000000 in
theorem s_Tape_isBlank {X : Xs} {d : Nat} {V : VV} {h : HP} {v0 : Int} {q : Int} (hf : f_Tape_isBlank V v0 = q) : Ok X (d + 1) 53 0 ([some (.inl v0)], [], mm V h) (fun M r => M = mm V h ∧ r = some (.inl q) ∧ (q = 0 ∨ q = 1)) := by
  let QQ : Mm → Option AV → Prop := fun M r => M = mm V h ∧ r = some (.inl q) ∧ (q = 0 ∨ q = 1)
  show Ok X (d + 1) 53 0 ([some (.inl v0)], [], mm V h) QQ
  have JN1 : Ok X (d + 1) 53 4 ([some (.inl v0)], [.inl (if v0 = 32 then 1 else (if v0 = 10 then 1 else 0 : Int) : Int)], mm V h) QQ := by
    have hq : ((if v0 = 32 then 1 else (if v0 = 10 then 1 else 0 : Int) : Int)) = q := hf
    subst hq
    have hz : ((if v0 = 32 then 1 else (if v0 = 10 then 1 else 0 : Int) : Int) : Int) = 0 ∨ ((if v0 = 32 then 1 else (if v0 = 10 then 1 else 0 : Int) : Int) : Int) = 1 := by
      first | exact Or.inl rfl | exact Or.inr rfl | assumption | (repeat' split) <;> first | exact Or.inl rfl | exact Or.inr rfl | assumption
    refine ok_zreturn (L := [some (.inl v0)]) (M := mm V h) (x := (if v0 = 32 then 1 else (if v0 = 10 then 1 else 0 : Int) : Int)) rfl rfl hz ?_
    exact ⟨rfl, rfl, hz⟩
  clear hf
  refine ok_ic_eq (x := v0) (u := 32) (L := [some (.inl v0)]) (S := []) (M := mm V h) rfl rfl (fun c2 => ?_) (fun c2 => ?_)
  ·
    simp only [if_pos c2] at JN1
    refine ok_goto (L := [some (.inl v0)]) (S := [.inl 1]) (M := mm V h) rfl rfl ?_
    first | exact JN1 | (simp only [if_pos c2]; exact JN1)
  ·
    simp only [if_neg c2] at JN1
    refine ok_ic_ne (x := v0) (u := 10) (L := [some (.inl v0)]) (S := []) (M := mm V h) rfl rfl (fun c3 => ?_) (fun c3 => ?_)
    ·
      simp only [if_neg c3] at JN1
      refine ok_thru (L := [some (.inl v0)]) (S := [.inl 0]) (M := mm V h) rfl rfl ?_
      first | exact JN1 | (simp only [if_neg c2, if_neg c3]; exact JN1)
    ·
      simp only [if_pos c3] at JN1
      refine ok_goto (L := [some (.inl v0)]) (S := [.inl 1]) (M := mm V h) rfl rfl ?_
      first | exact JN1 | (simp only [if_neg c2, if_pos c3]; exact JN1)
def f_Tape_isLetter (V : VV) (v0 : Int) : Int := (if v0 < 97 then (if v0 < 65 then 0 else (if 90 < v0 then 0 else 1 : Int) : Int) else (if 122 < v0 then (if v0 < 65 then 0 else (if 90 < v0 then 0 else 1 : Int) : Int) else 1 : Int) : Int)
set_option maxRecDepth 20000 in
set_option maxHeartbeats 4000000 in
theorem s_Tape_isLetter {X : Xs} {d : Nat} {V : VV} {h : HP} {v0 : Int} {q : Int} (hf : f_Tape_isLetter V v0 = q) : Ok X (d + 1) 54 0 ([some (.inl v0)], [], mm V h) (fun M r => M = mm V h ∧ r = some (.inl q) ∧ (q = 0 ∨ q = 1)) := by
  let QQ : Mm → Option AV → Prop := fun M r => M = mm V h ∧ r = some (.inl q) ∧ (q = 0 ∨ q = 1)
  show Ok X (d + 1) 54 0 ([some (.inl v0)], [], mm V h) QQ
  have JN1 : Ok X (d + 1) 54 6 ([some (.inl v0)], [.inl (if v0 < 97 then (if v0 < 65 then 0 else (if 90 < v0 then 0 else 1 : Int) : Int) else (if 122 < v0 then (if v0 < 65 then 0 else (if 90 < v0 then 0 else 1 : Int) : Int) else 1 : Int) : Int)], mm V h) QQ := by
    have hq : ((if v0 < 97 then (if v0 < 65 then 0 else (if 90 < v0 then 0 else 1 : Int) : Int) else (if 122 < v0 then (if v0 < 65 then 0 else (if 90 < v0 then 0 else 1 : Int) : Int) else 1 : Int) : Int)) = q := hf
    subst hq
    have hz : ((if v0 < 97 then (if v0 < 65 then 0 else (if 90 < v0 then 0 else 1 : Int) : Int) else (if 122 < v0 then (if v0 < 65 then 0 else (if 90 < v0 then 0 else 1 : Int) : Int) else 1 : Int) : Int) : Int) = 0 ∨ ((if v0 < 97 then (if v0 < 65 then 0 else (if 90 < v0 then 0 else 1 : Int) : Int) else (if 122 < v0 then (if v0 < 65 then 0 else (if 90 < v0 then 0 else 1 : Int) : Int) else 1 : Int) : Int) : Int) = 1 := by
      first | exact Or.inl rfl | exact Or.inr rfl | assumption | (repeat' split) <;> first | exact Or.inl rfl | exact Or.inr rfl | assumption
    refine ok_zreturn (L := [some (.inl v0)]) (M := mm V h) (x := (if v0 < 97 then (if v0 < 65 then 0 else (if 90 < v0 then 0 else 1 : Int) : Int) else (if 122 < v0 then (if v0 < 65 then 0 else (if 90 < v0 then 0 else 1 : Int) : Int) else 1 : Int) : Int)) rfl rfl hz ?_
    exact ⟨rfl, rfl, hz⟩
  clear hf
  refine ok_ic_lt (x := v0) (u := 97) (L := [some (.inl v0)]) (S := []) (M := mm V h) rfl rfl (fun c2 => ?_) (fun c2 => ?_)
  ·
    simp only [if_pos c2] at JN1
    refine ok_ic_lt (x := v0) (u := 65) (L := [some (.inl v0)]) (S := []) (M := mm V h) rfl rfl (fun c3 => ?_) (fun c3 => ?_)
    ·
      simp only [if_pos c3] at JN1
      refine ok_thru (L := [some (.inl v0)]) (S := [.inl 0]) (M := mm V h) rfl rfl ?_
      first | exact JN1 | (simp only [if_pos c2, if_pos c3]; exact JN1)
    ·
      simp only [if_neg (Int.not_lt.mpr c3)] at JN1
      refine ok_ic_gt (x := v0) (u := 90) (L := [some (.inl v0)]) (S := []) (M := mm V h) rfl rfl (fun c4 => ?_) (fun c4 => ?_)
      ·
        simp only [if_pos c4] at JN1
        refine ok_thru (L := [some (.inl v0)]) (S := [.inl 0]) (M := mm V h) rfl rfl ?_
        first | exact JN1 | (simp only [if_pos c2, if_neg (Int.not_lt.mpr c3), if_pos c4]; exact JN1)
      ·
        simp only [if_neg (Int.not_lt.mpr c4)] at JN1
        refine ok_goto (L := [some (.inl v0)]) (S := [.inl 1]) (M := mm V h) rfl rfl ?_
        first | exact JN1 | (simp only [if_pos c2, if_neg (Int.not_lt.mpr c3), if_neg (Int.not_lt.mpr c4)]; exact JN1)
  ·
    simp only [if_neg (Int.not_lt.mpr c2)] at JN1
    refine ok_ic_le (x := v0) (u := 122) (L := [some (.inl v0)]) (S := []) (M := mm V h) rfl rfl (fun c5 => ?_) (fun c5 => ?_)
    ·
      simp only [if_neg (Int.not_lt.mpr c5)] at JN1
      refine ok_goto (L := [some (.inl v0)]) (S := [.inl 1]) (M := mm V h) rfl rfl ?_
      first | exact JN1 | (simp only [if_neg (Int.not_lt.mpr c2), if_neg (Int.not_lt.mpr c5)]; exact JN1)
    ·
      simp only [if_pos c5] at JN1
      refine ok_ic_lt (x := v0) (u := 65) (L := [some (.inl v0)]) (S := []) (M := mm V h) rfl rfl (fun c6 => ?_) (fun c6 => ?_)
      ·
        simp only [if_pos c6] at JN1
        refine ok_thru (L := [some (.inl v0)]) (S := [.inl 0]) (M := mm V h) rfl rfl ?_
        first | exact JN1 | (simp only [if_neg (Int.not_lt.mpr c2), if_pos c5, if_pos c6]; exact JN1)
      ·
        simp only [if_neg (Int.not_lt.mpr c6)] at JN1
        refine ok_ic_gt (x := v0) (u := 90) (L := [some (.inl v0)]) (S := []) (M := mm V h) rfl rfl (fun c7 => ?_) (fun c7 => ?_)
        ·
          simp only [if_pos c7] at JN1
          refine ok_thru (L := [some (.inl v0)]) (S := [.inl 0]) (M := mm V h) rfl rfl ?_
          first | exact JN1 | (simp only [if_neg (Int.not_lt.mpr c2), if_pos c5, if_neg (Int.not_lt.mpr c6), if_pos c7]; exact JN1)
        ·
          simp only [if_neg (Int.not_lt.mpr c7)] at JN1
          refine ok_goto (L := [some (.inl v0)]) (S := [.inl 1]) (M := mm V h) rfl rfl ?_
          first | exact JN1 | (simp only [if_neg (Int.not_lt.mpr c2), if_pos c5, if_neg (Int.not_lt.mpr c6), if_neg (Int.not_lt.mpr c7)]; exact JN1)
def f_Tape_isDigit (V : VV) (v0 : Int) : Int := (if v0 < 48 then 0 else (if 57 < v0 then 0 else 1 : Int) : Int)
set_option maxRecDepth 20000 in
set_option maxHeartbeats 4000000 in
theorem s_Tape_isDigit {X : Xs} {d : Nat} {V : VV} {h : HP} {v0 : Int} {q : Int} (hf : f_Tape_isDigit V v0 = q) : Ok X (d + 1) 55 0 ([some (.inl v0)], [], mm V h) (fun M r => M = mm V h ∧ r = some (.inl q) ∧ (q = 0 ∨ q = 1)) := by
  let QQ : Mm → Option AV → Prop := fun M r => M = mm V h ∧ r = some (.inl q) ∧ (q = 0 ∨ q = 1)
  show Ok X (d + 1) 55 0 ([some (.inl v0)], [], mm V h) QQ
  have JN1 : Ok X (d + 1) 55 4 ([some (.inl v0)], [.inl (if v0 < 48 then 0 else (if 57 < v0 then 0 else 1 : Int) : Int)], mm V h) QQ := by
    have hq : ((if v0 < 48 then 0 else (if 57 < v0 then 0 else 1 : Int) : Int)) = q := hf
    subst hq
    have hz : ((if v0 < 48 then 0 else (if 57 < v0 then 0 else 1 : Int) : Int) : Int) = 0 ∨ ((if v0 < 48 then 0 else (if 57 < v0 then 0 else 1 : Int) : Int) : Int) = 1 := by
      first | exact Or.inl rfl | exact Or.inr rfl | assumption | (repeat' split) <;> first | exact Or.inl rfl | exact Or.inr rfl | assumption
    refine ok_zreturn (L := [some (.inl v0)]) (M := mm V h) (x := (if v0 < 48 then 0 else (if 57 < v0 then 0 else 1 : Int) : Int)) rfl rfl hz ?_
    exact ⟨rfl, rfl, hz⟩
  clear hf
  refine ok_ic_lt (x := v0) (u := 48) (L := [some (.inl v0)]) (S := []) (M := mm V h) rfl rfl (fun c2 => ?_) (fun c2 => ?_)
  ·
    simp only [if_pos c2] at JN1
    refine ok_thru (L := [some (.inl v0)]) (S := [.inl 0]) (M := mm V h) rfl rfl ?_
    first | exact JN1 | (simp only [if_pos c2]; exact JN1)
  ·
    simp only [if_neg (Int.not_lt.mpr c2)] at JN1
    refine ok_ic_gt (x := v0) (u := 57) (L := [some (.inl v0)]) (S := []) (M := mm V h) rfl rfl (fun c3 => ?_) (fun c3 => ?_)
    ·
      simp only [if_pos c3] at JN1
      refine ok_thru (L := [some (.inl v0)]) (S := [.inl 0]) (M := mm V h) rfl rfl ?_
      first | exact JN1 | (simp only [if_neg (Int.not_lt.mpr c2), if_pos c3]; exact JN1)
    ·
      simp only [if_neg (Int.not_lt.mpr c3)] at JN1
      refine ok_goto (L := [some (.inl v0)]) (S := [.inl 1]) (M := mm V h) rfl rfl ?_
      first | exact JN1 | (simp only [if_neg (Int.not_lt.mpr c2), if_neg (Int.not_lt.mpr c3)]; exact JN1)
def f_Tape_next_12 (o : Nat) (ob : Nat) (on : Nat) : Nat → VV → (Option (VV))
  | 0, _ => none
  | n + 1, V => if (V o 7) < (V o 1) then if (f_Tape_isLetter V (atV V ob on (V o 7))) = 0 then some V else f_Tape_next_12 o ob on n (up V o 7 (w32 ((V o 7) + 1))) else some V
def f_Tape_next_21 (o : Nat) (ob : Nat) (on : Nat) : Nat → VV → (Option (VV))
  | 0, _ => none
  | n + 1, V => if (V o 7) < (V o 1) then if (f_Tape_isDigit V (atV V ob on (V o 7))) = 0 then some V else f_Tape_next_21 o ob on n (up (up V o 3 (min 100000 (w32 ((w32 ((w32 ((V o 3) * 10)) + (atV V ob on (V o 7)))) - 48)))) o 7 (w32 ((V o 7) + 1))) else some V
def f_Tape_next_6 (o : Nat) (ob : Nat) (on : Nat) (V : VV)  : Option (VV) := if (V o 6) < (V o 1) then if (f_Tape_isLetter (up (up V o 7 (V o 6)) o 3 0) (atV (up (up V o 7 (V o 6)) o 3 0) ob on (V o 6))) = 0 then if (f_Tape_isDigit (up (up V o 7 (V o 6)) o 3 0) (atV (up (up V o 7 (V o 6)) o 3 0) ob on (V o 6))) = 0 then some (up (up (up (up (up V o 7 (V o 6)) o 3 0) o 2 3) o 3 (atV (up (up (up V o 7 (V o 6)) o 3 0) o 2 3) ob on (V o 6))) o 7 (w32 ((V o 6) + 1))) else f_Tape_next_21 o ob on FU (up (up (up V o 7 (V o 6)) o 3 0) o 2 2) else f_Tape_next_12 o ob on FU (up (up (up V o 7 (V o 6)) o 3 0) o 2 1) else some (up (up (up V o 7 (V o 6)) o 3 0) o 2 0)
def f_Tape_next_1 (o : Nat) (ob : Nat) (on : Nat) : Nat → VV → (Option (VV))
  | 0, _ => none
  | n + 1, V => if (V o 6) < (V o 1) then if (f_Tape_isBlank V (atV V ob on (V o 6))) = 0 then f_Tape_next_6 o ob on V else f_Tape_next_1 o ob on n (up V o 6 (w32 ((V o 6) + 1))) else f_Tape_next_6 o ob on V
def f_Tape_next (o : Nat) (ob : Nat) (on : Nat) (V : VV)  : Option (VV) := f_Tape_next_1 o ob on FU (up V o 6 (V o 7))
set_option maxRecDepth 20000 in
set_option maxHeartbeats 4000000 in
theorem s_Tape_next_12_o16_n {X : Xs} {d : Nat} {h : HP} {q : VV} : ∀ (n : Nat) (V : VV), f_Tape_next_12 16 17 400 n V = some q → Ok X (d + 2) 52 12 ([some (.inr (.inr (.inl 17)))], [], mm V h) (fun M r => M = mm q h ∧ r = none) := by
  intro n
  induction n with
  | zero => intro V hf; cases hf
  | succ n ih =>
    intro V hf
    let QQ : Mm → Option AV → Prop := fun M r => M = mm q h ∧ r = none
    show Ok X (d + 2) 52 12 ([some (.inr (.inr (.inl 17)))], [], mm V h) QQ
    refine ok_ic_ge (x := V 16 7) (u := V 16 1) (L := [some (.inr (.inr (.inl 17)))]) (S := []) (M := mm V h) rfl rfl (fun c1 => ?_) (fun c1 => ?_)
    ·
      replace hf := (if_neg (Int.not_lt.mpr c1)).symm.trans hf
      obtain rfl := Option.some.inj hf
      refine ok_return (L := [some (.inr (.inr (.inl 17)))]) (M := mm V h) rfl rfl ?_
      exact ⟨rfl, rfl⟩
    ·
      replace hf := (if_pos c1).symm.trans hf
      refine ok_callA (L := [some (.inr (.inr (.inl 17)))]) (M := mm V h) (args := [.inr (.inr (.inl 18)), .inl (V 16 7)]) (rest := []) (y2 := 21) rfl rfl rfl (Or.inr (Or.inl rfl)) rfl rfl (Nat.le_of_ble_eq_true rfl) rfl rfl (Nat.le_of_ble_eq_true rfl) (Nat.le_of_ble_eq_true rfl) (w_at rfl rfl) ?_
      rintro _ _ ⟨rfl, rfl⟩
      refine ok_callA (L := [some (.inr (.inr (.inl 17)))]) (M := mm V h) (args := [.inl (atV V 17 400 (V 16 7))]) (rest := []) (y2 := 54) rfl rfl rfl (Or.inr (Or.inl rfl)) rfl rfl (Nat.le_of_ble_eq_true rfl) rfl rfl (Nat.le_of_ble_eq_true rfl) (Nat.le_of_ble_eq_true rfl) (s_Tape_isLetter rfl) ?_
      rintro _ _ ⟨rfl, rfl, hz3⟩
      refine ok_if_eq (x := f_Tape_isLetter V (atV V 17 400 (V 16 7))) (L := [some (.inr (.inr (.inl 17)))]) (S := []) (M := mm V h) rfl rfl (fun c4 => ?_) (fun c4 => ?_)
      ·
        replace hf := (if_pos c4).symm.trans hf
        obtain rfl := Option.some.inj hf
        refine ok_return (L := [some (.inr (.inr (.inl 17)))]) (M := mm V h) rfl rfl ?_
        exact ⟨rfl, rfl⟩
      ·
        replace hf := (if_neg c4).symm.trans hf
        refine ok_goto (L := [some (.inr (.inr (.inl 17)))]) (S := []) (M := mm (up V 16 7 (w32 ((V 16 7) + 1))) h) rfl rfl ?_
        exact ih (up V 16 7 (w32 ((V 16 7) + 1))) hf
theorem s_Tape_next_12_o16 {X : Xs} {d : Nat} {h : HP} {V : VV} {n : Nat} {q : VV} (hf : f_Tape_next_12 16 17 400 n V = some q) : Ok X (d + 2) 52 12 ([some (.inr (.inr (.inl 17)))], [], mm V h) (fun M r => M = mm q h ∧ r = none) :=
  s_Tape_next_12_o16_n n V hf
set_option maxRecDepth 20000 in
set_option maxHeartbeats 4000000 in
theorem s_Tape_next_21_o16_n {X : Xs} {d : Nat} {h : HP} {q : VV} : ∀ (n : Nat) (V : VV), f_Tape_next_21 16 17 400 n V = some q → Ok X (d + 2) 52 21 ([some (.inr (.inr (.inl 17)))], [], mm V h) (fun M r => M = mm q h ∧ r = none) := by
  intro n
  induction n with
  | zero => intro V hf; cases hf
  | succ n ih =>
    intro V hf
    let QQ : Mm → Option AV → Prop := fun M r => M = mm q h ∧ r = none
    show Ok X (d + 2) 52 21 ([some (.inr (.inr (.inl 17)))], [], mm V h) QQ
    refine ok_ic_ge (x := V 16 7) (u := V 16 1) (L := [some (.inr (.inr (.inl 17)))]) (S := []) (M := mm V h) rfl rfl (fun c1 => ?_) (fun c1 => ?_)
    ·
      replace hf := (if_neg (Int.not_lt.mpr c1)).symm.trans hf
      obtain rfl := Option.some.inj hf
      refine ok_return (L := [some (.inr (.inr (.inl 17)))]) (M := mm V h) rfl rfl ?_
      exact ⟨rfl, rfl⟩
    ·
      replace hf := (if_pos c1).symm.trans hf
      refine ok_callA (L := [some (.inr (.inr (.inl 17)))]) (M := mm V h) (args := [.inr (.inr (.inl 18)), .inl (V 16 7)]) (rest := []) (y2 := 21) rfl rfl rfl (Or.inr (Or.inl rfl)) rfl rfl (Nat.le_of_ble_eq_true rfl) rfl rfl (Nat.le_of_ble_eq_true rfl) (Nat.le_of_ble_eq_true rfl) (w_at rfl rfl) ?_
      rintro _ _ ⟨rfl, rfl⟩
      refine ok_callA (L := [some (.inr (.inr (.inl 17)))]) (M := mm V h) (args := [.inl (atV V 17 400 (V 16 7))]) (rest := []) (y2 := 55) rfl rfl rfl (Or.inr (Or.inl rfl)) rfl rfl (Nat.le_of_ble_eq_true rfl) rfl rfl (Nat.le_of_ble_eq_true rfl) (Nat.le_of_ble_eq_true rfl) (s_Tape_isDigit rfl) ?_
      rintro _ _ ⟨rfl, rfl, hz3⟩
      refine ok_if_eq (x := f_Tape_isDigit V (atV V 17 400 (V 16 7))) (L := [some (.inr (.inr (.inl 17)))]) (S := []) (M := mm V h) rfl rfl (fun c4 => ?_) (fun c4 => ?_)
      ·
        replace hf := (if_pos c4).symm.trans hf
        obtain rfl := Option.some.inj hf
        refine ok_return (L := [some (.inr (.inr (.inl 17)))]) (M := mm V h) rfl rfl ?_
        exact ⟨rfl, rfl⟩
      ·
        replace hf := (if_neg c4).symm.trans hf
        refine ok_callA (L := [some (.inr (.inr (.inl 17)))]) (M := mm V h) (args := [.inr (.inr (.inl 18)), .inl (V 16 7)]) (rest := [.inl (w32 ((V 16 3) * 10)), .inl 100000, .inr (.inr (.inl 17))]) (y2 := 21) rfl rfl rfl (Or.inr (Or.inl rfl)) rfl rfl (Nat.le_of_ble_eq_true rfl) rfl rfl (Nat.le_of_ble_eq_true rfl) (Nat.le_of_ble_eq_true rfl) (w_at rfl rfl) ?_
        rintro _ _ ⟨rfl, rfl⟩
        refine ok_mmin (u := 100000) (v := w32 ((w32 ((w32 ((V 16 3) * 10)) + (atV V 17 400 (V 16 7)))) - 48)) (L := [some (.inr (.inr (.inl 17)))]) (S := [.inr (.inr (.inl 17))]) (M := mm V h) rfl rfl rfl (Nat.le_of_ble_eq_true rfl) ?_
        refine ok_goto (L := [some (.inr (.inr (.inl 17)))]) (S := []) (M := mm (up (up V 16 3 (min 100000 (w32 ((w32 ((w32 ((V 16 3) * 10)) + (atV V 17 400 (V 16 7)))) - 48)))) 16 7 (w32 ((V 16 7) + 1))) h) rfl rfl ?_
        exact ih (up (up V 16 3 (min 100000 (w32 ((w32 ((w32 ((V 16 3) * 10)) + (atV V 17 400 (V 16 7)))) - 48)))) 16 7 (w32 ((V 16 7) + 1))) hf
theorem s_Tape_next_21_o16 {X : Xs} {d : Nat} {h : HP} {V : VV} {n : Nat} {q : VV} (hf : f_Tape_next_21 16 17 400 n V = some q) : Ok X (d + 2) 52 21 ([some (.inr (.inr (.inl 17)))], [], mm V h) (fun M r => M = mm q h ∧ r = none) :=
  s_Tape_next_21_o16_n n V hf
set_option maxRecDepth 20000 in
set_option maxHeartbeats 4000000 in
theorem s_Tape_next_6_o16 {X : Xs} {d : Nat} {V : VV} {h : HP} {q : VV} (hf : f_Tape_next_6 16 17 400 V = some q) : Ok X (d + 2) 52 6 ([some (.inr (.inr (.inl 17)))], [], mm V h) (fun M r => M = mm q h ∧ r = none) := by
  let QQ : Mm → Option AV → Prop := fun M r => M = mm q h ∧ r = none
  show Ok X (d + 2) 52 6 ([some (.inr (.inr (.inl 17)))], [], mm V h) QQ
  refine ok_ic_lt (x := V 16 6) (u := V 16 1) (L := [some (.inr (.inr (.inl 17)))]) (S := []) (M := mm (up (up V 16 7 (V 16 6)) 16 3 0) h) rfl rfl (fun c1 => ?_) (fun c1 => ?_)
  ·
    replace hf := (if_pos c1).symm.trans hf
    refine ok_callA (L := [some (.inr (.inr (.inl 17)))]) (M := mm (up (up V 16 7 (V 16 6)) 16 3 0) h) (args := [.inr (.inr (.inl 18)), .inl (V 16 6)]) (rest := []) (y2 := 21) rfl rfl rfl (Or.inr (Or.inl rfl)) rfl rfl (Nat.le_of_ble_eq_true rfl) rfl rfl (Nat.le_of_ble_eq_true rfl) (Nat.le_of_ble_eq_true rfl) (w_at rfl rfl) ?_
    rintro _ _ ⟨rfl, rfl⟩
    refine ok_callA (L := [some (.inr (.inr (.inl 17)))]) (M := mm (up (up V 16 7 (V 16 6)) 16 3 0) h) (args := [.inl (atV (up (up V 16 7 (V 16 6)) 16 3 0) 17 400 (V 16 6))]) (rest := []) (y2 := 54) rfl rfl rfl (Or.inr (Or.inl rfl)) rfl rfl (Nat.le_of_ble_eq_true rfl) rfl rfl (Nat.le_of_ble_eq_true rfl) (Nat.le_of_ble_eq_true rfl) (s_Tape_isLetter rfl) ?_
    rintro _ _ ⟨rfl, rfl, hz3⟩
    refine ok_if_eq (x := f_Tape_isLetter (up (up V 16 7 (V 16 6)) 16 3 0) (atV (up (up V 16 7 (V 16 6)) 16 3 0) 17 400 (V 16 6))) (L := [some (.inr (.inr (.inl 17)))]) (S := []) (M := mm (up (up V 16 7 (V 16 6)) 16 3 0) h) rfl rfl (fun c4 => ?_) (fun c4 => ?_)
    ·
      replace hf := (if_pos c4).symm.trans hf
      refine ok_callA (L := [some (.inr (.inr (.inl 17)))]) (M := mm (up (up V 16 7 (V 16 6)) 16 3 0) h) (args := [.inr (.inr (.inl 18)), .inl (V 16 6)]) (rest := []) (y2 := 21) rfl rfl rfl (Or.inr (Or.inl rfl)) rfl rfl (Nat.le_of_ble_eq_true rfl) rfl rfl (Nat.le_of_ble_eq_true rfl) (Nat.le_of_ble_eq_true rfl) (w_at rfl rfl) ?_
      rintro _ _ ⟨rfl, rfl⟩
      refine ok_callA (L := [some (.inr (.inr (.inl 17)))]) (M := mm (up (up V 16 7 (V 16 6)) 16 3 0) h) (args := [.inl (atV (up (up V 16 7 (V 16 6)) 16 3 0) 17 400 (V 16 6))]) (rest := []) (y2 := 55) rfl rfl rfl (Or.inr (Or.inl rfl)) rfl rfl (Nat.le_of_ble_eq_true rfl) rfl rfl (Nat.le_of_ble_eq_true rfl) (Nat.le_of_ble_eq_true rfl) (s_Tape_isDigit rfl) ?_
      rintro _ _ ⟨rfl, rfl, hz6⟩
      refine ok_if_eq (x := f_Tape_isDigit (up (up V 16 7 (V 16 6)) 16 3 0) (atV (up (up V 16 7 (V 16 6)) 16 3 0) 17 400 (V 16 6))) (L := [some (.inr (.inr (.inl 17)))]) (S := []) (M := mm (up (up V 16 7 (V 16 6)) 16 3 0) h) rfl rfl (fun c7 => ?_) (fun c7 => ?_)
      ·
        replace hf := (if_pos c7).symm.trans hf
        refine ok_callA (L := [some (.inr (.inr (.inl 17)))]) (M := mm (up (up (up V 16 7 (V 16 6)) 16 3 0) 16 2 3) h) (args := [.inr (.inr (.inl 18)), .inl (V 16 6)]) (rest := [.inr (.inr (.inl 17))]) (y2 := 21) rfl rfl rfl (Or.inr (Or.inl rfl)) rfl rfl (Nat.le_of_ble_eq_true rfl) rfl rfl (Nat.le_of_ble_eq_true rfl) (Nat.le_of_ble_eq_true rfl) (w_at rfl rfl) ?_
        rintro _ _ ⟨rfl, rfl⟩
        refine ok_thru (L := [some (.inr (.inr (.inl 17)))]) (S := []) (M := mm (up (up (up (up (up V 16 7 (V 16 6)) 16 3 0) 16 2 3) 16 3 (atV (up (up (up V 16 7 (V 16 6)) 16 3 0) 16 2 3) 17 400 (V 16 6))) 16 7 (w32 ((V 16 6) + 1))) h) rfl rfl ?_
        obtain rfl := Option.some.inj hf
        refine ok_return (L := [some (.inr (.inr (.inl 17)))]) (M := mm (up (up (up (up (up V 16 7 (V 16 6)) 16 3 0) 16 2 3) 16 3 (atV (up (up (up V 16 7 (V 16 6)) 16 3 0) 16 2 3) 17 400 (V 16 6))) 16 7 (w32 ((V 16 6) + 1))) h) rfl rfl ?_
        exact ⟨rfl, rfl⟩
      ·
        replace hf := (if_neg c7).symm.trans hf
        refine ok_thru (L := [some (.inr (.inr (.inl 17)))]) (S := []) (M := mm (up (up (up V 16 7 (V 16 6)) 16 3 0) 16 2 2) h) rfl rfl ?_
        exact s_Tape_next_21_o16 hf
    ·
      replace hf := (if_neg c4).symm.trans hf
      refine ok_thru (L := [some (.inr (.inr (.inl 17)))]) (S := []) (M := mm (up (up (up V 16 7 (V 16 6)) 16 3 0) 16 2 1) h) rfl rfl ?_
      exact s_Tape_next_12_o16 hf
  ·
    replace hf := (if_neg (Int.not_lt.mpr c1)).symm.trans hf
    refine ok_goto (L := [some (.inr (.inr (.inl 17)))]) (S := []) (M := mm (up (up (up V 16 7 (V 16 6)) 16 3 0) 16 2 0) h) rfl rfl ?_
    obtain rfl := Option.some.inj hf
    refine ok_return (L := [some (.inr (.inr (.inl 17)))]) (M := mm (up (up (up V 16 7 (V 16 6)) 16 3 0) 16 2 0) h) rfl rfl ?_
    exact ⟨rfl, rfl⟩
set_option maxRecDepth 20000 in
set_option maxHeartbeats 4000000 in
theorem s_Tape_next_1_o16_n {X : Xs} {d : Nat} {h : HP} {q : VV} : ∀ (n : Nat) (V : VV), f_Tape_next_1 16 17 400 n V = some q → Ok X (d + 2) 52 1 ([some (.inr (.inr (.inl 17)))], [], mm V h) (fun M r => M = mm q h ∧ r = none) := by
  intro n
  induction n with
  | zero => intro V hf; cases hf
  | succ n ih =>
    intro V hf
    let QQ : Mm → Option AV → Prop := fun M r => M = mm q h ∧ r = none
    show Ok X (d + 2) 52 1 ([some (.inr (.inr (.inl 17)))], [], mm V h) QQ
    refine ok_ic_ge (x := V 16 6) (u := V 16 1) (L := [some (.inr (.inr (.inl 17)))]) (S := []) (M := mm V h) rfl rfl (fun c1 => ?_) (fun c1 => ?_)
    ·
      replace hf := (if_neg (Int.not_lt.mpr c1)).symm.trans hf
      exact s_Tape_next_6_o16 hf
    ·
      replace hf := (if_pos c1).symm.trans hf
      refine ok_callA (L := [some (.inr (.inr (.inl 17)))]) (M := mm V h) (args := [.inr (.inr (.inl 18)), .inl (V 16 6)]) (rest := []) (y2 := 21) rfl rfl rfl (Or.inr (Or.inl rfl)) rfl rfl (Nat.le_of_ble_eq_true rfl) rfl rfl (Nat.le_of_ble_eq_true rfl) (Nat.le_of_ble_eq_true rfl) (w_at rfl rfl) ?_
      rintro _ _ ⟨rfl, rfl⟩
      refine ok_callA (L := [some (.inr (.inr (.inl 17)))]) (M := mm V h) (args := [.inl (atV V 17 400 (V 16 6))]) (rest := []) (y2 := 53) rfl rfl rfl (Or.inr (Or.inl rfl)) rfl rfl (Nat.le_of_ble_eq_true rfl) rfl rfl (Nat.le_of_ble_eq_true rfl) (Nat.le_of_ble_eq_true rfl) (s_Tape_isBlank rfl) ?_
      rintro _ _ ⟨rfl, rfl, hz3⟩
      refine ok_if_eq (x := f_Tape_isBlank V (atV V 17 400 (V 16 6))) (L := [some (.inr (.inr (.inl 17)))]) (S := []) (M := mm V h) rfl rfl (fun c4 => ?_) (fun c4 => ?_)
      ·
        replace hf := (if_pos c4).symm.trans hf
        exact s_Tape_next_6_o16 hf
      ·
        replace hf := (if_neg c4).symm.trans hf
        refine ok_goto (L := [some (.inr (.inr (.inl 17)))]) (S := []) (M := mm (up V 16 6 (w32 ((V 16 6) + 1))) h) rfl rfl ?_
        exact ih (up V 16 6 (w32 ((V 16 6) + 1))) hf
theorem s_Tape_next_1_o16 {X : Xs} {d : Nat} {h : HP} {V : VV} {n : Nat} {q : VV} (hf : f_Tape_next_1 16 17 400 n V = some q) : Ok X (d + 2) 52 1 ([some (.inr (.inr (.inl 17)))], [], mm V h) (fun M r => M = mm q h ∧ r = none) :=
  s_Tape_next_1_o16_n n V hf
set_option maxRecDepth 20000 in
set_option maxHeartbeats 4000000 in
theorem s_Tape_next_o16 {X : Xs} {d : Nat} {V : VV} {h : HP} {q : VV} (hf : f_Tape_next 16 17 400 V = some q) : Ok X (d + 2) 52 0 ([some (.inr (.inr (.inl 17)))], [], mm V h) (fun M r => M = mm q h ∧ r = none) := by
  let QQ : Mm → Option AV → Prop := fun M r => M = mm q h ∧ r = none
  show Ok X (d + 2) 52 0 ([some (.inr (.inr (.inl 17)))], [], mm V h) QQ
  refine ok_thru (L := [some (.inr (.inr (.inl 17)))]) (S := []) (M := mm (up V 16 6 (V 16 7)) h) rfl rfl ?_
  exact s_Tape_next_1_o16 hf
set_option maxRecDepth 20000 in
set_option maxHeartbeats 4000000 in
theorem s_Tape_next_12_o26_n {X : Xs} {d : Nat} {h : HP} {q : VV} : ∀ (n : Nat) (V : VV), f_Tape_next_12 26 27 100 n V = some q → Ok X (d + 2) 52 12 ([some (.inr (.inr (.inl 27)))], [], mm V h) (fun M r => M = mm q h ∧ r = none) := by
  intro n
  induction n with
  | zero => intro V hf; cases hf
  | succ n ih =>
    intro V hf
    let QQ : Mm → Option AV → Prop := fun M r => M = mm q h ∧ r = none
    show Ok X (d + 2) 52 12 ([some (.inr (.inr (.inl 27)))], [], mm V h) QQ
    refine ok_ic_ge (x := V 26 7) (u := V 26 1) (L := [some (.inr (.inr (.inl 27)))]) (S := []) (M := mm V h) rfl rfl (fun c1 => ?_) (fun c1 => ?_)
    ·
      replace hf := (if_neg (Int.not_lt.mpr c1)).symm.trans hf
      obtain rfl := Option.some.inj hf
      refine ok_return (L := [some (.inr (.inr (.inl 27)))]) (M := mm V h) rfl rfl ?_
      exact ⟨rfl, rfl⟩
    ·
      replace hf := (if_pos c1).symm.trans hf
      refine ok_callA (L := [some (.inr (.inr (.inl 27)))]) (M := mm V h) (args := [.inr (.inr (.inl 28)), .inl (V 26 7)]) (rest := []) (y2 := 21) rfl rfl rfl (Or.inr (Or.inl rfl)) rfl rfl (Nat.le_of_ble_eq_true rfl) rfl rfl (Nat.le_of_ble_eq_true rfl) (Nat.le_of_ble_eq_true rfl) (w_at rfl rfl) ?_
      rintro _ _ ⟨rfl, rfl⟩
      refine ok_callA (L := [some (.inr (.inr (.inl 27)))]) (M := mm V h) (args := [.inl (atV V 27 100 (V 26 7))]) (rest := []) (y2 := 54) rfl rfl rfl (Or.inr (Or.inl rfl)) rfl rfl (Nat.le_of_ble_eq_true rfl) rfl rfl (Nat.le_of_ble_eq_true rfl) (Nat.le_of_ble_eq_true rfl) (s_Tape_isLetter rfl) ?_
      rintro _ _ ⟨rfl, rfl, hz3⟩
      refine ok_if_eq (x := f_Tape_isLetter V (atV V 27 100 (V 26 7))) (L := [some (.inr (.inr (.inl 27)))]) (S := []) (M := mm V h) rfl rfl (fun c4 => ?_) (fun c4 => ?_)
      ·
        replace hf := (if_pos c4).symm.trans hf
        obtain rfl := Option.some.inj hf
        refine ok_return (L := [some (.inr (.inr (.inl 27)))]) (M := mm V h) rfl rfl ?_
        exact ⟨rfl, rfl⟩
      ·
        replace hf := (if_neg c4).symm.trans hf
        refine ok_goto (L := [some (.inr (.inr (.inl 27)))]) (S := []) (M := mm (up V 26 7 (w32 ((V 26 7) + 1))) h) rfl rfl ?_
        exact ih (up V 26 7 (w32 ((V 26 7) + 1))) hf
theorem s_Tape_next_12_o26 {X : Xs} {d : Nat} {h : HP} {V : VV} {n : Nat} {q : VV} (hf : f_Tape_next_12 26 27 100 n V = some q) : Ok X (d + 2) 52 12 ([some (.inr (.inr (.inl 27)))], [], mm V h) (fun M r => M = mm q h ∧ r = none) :=
  s_Tape_next_12_o26_n n V hf
set_option maxRecDepth 20000 in
set_option maxHeartbeats 4000000 in
theorem s_Tape_next_21_o26_n {X : Xs} {d : Nat} {h : HP} {q : VV} : ∀ (n : Nat) (V : VV), f_Tape_next_21 26 27 100 n V = some q → Ok X (d + 2) 52 21 ([some (.inr (.inr (.inl 27)))], [], mm V h) (fun M r => M = mm q h ∧ r = none) := by
  intro n
  induction n with
  | zero => intro V hf; cases hf
  | succ n ih =>
    intro V hf
    let QQ : Mm → Option AV → Prop := fun M r => M = mm q h ∧ r = none
    show Ok X (d + 2) 52 21 ([some (.inr (.inr (.inl 27)))], [], mm V h) QQ
    refine ok_ic_ge (x := V 26 7) (u := V 26 1) (L := [some (.inr (.inr (.inl 27)))]) (S := []) (M := mm V h) rfl rfl (fun c1 => ?_) (fun c1 => ?_)
    ·
      replace hf := (if_neg (Int.not_lt.mpr c1)).symm.trans hf
      obtain rfl := Option.some.inj hf
      refine ok_return (L := [some (.inr (.inr (.inl 27)))]) (M := mm V h) rfl rfl ?_
      exact ⟨rfl, rfl⟩
    ·
      replace hf := (if_pos c1).symm.trans hf
      refine ok_callA (L := [some (.inr (.inr (.inl 27)))]) (M := mm V h) (args := [.inr (.inr (.inl 28)), .inl (V 26 7)]) (rest := []) (y2 := 21) rfl rfl rfl (Or.inr (Or.inl rfl)) rfl rfl (Nat.le_of_ble_eq_true rfl) rfl rfl (Nat.le_of_ble_eq_true rfl) (Nat.le_of_ble_eq_true rfl) (w_at rfl rfl) ?_
      rintro _ _ ⟨rfl, rfl⟩
      refine ok_callA (L := [some (.inr (.inr (.inl 27)))]) (M := mm V h) (args := [.inl (atV V 27 100 (V 26 7))]) (rest := []) (y2 := 55) rfl rfl rfl (Or.inr (Or.inl rfl)) rfl rfl (Nat.le_of_ble_eq_true rfl) rfl rfl (Nat.le_of_ble_eq_true rfl) (Nat.le_of_ble_eq_true rfl) (s_Tape_isDigit rfl) ?_
      rintro _ _ ⟨rfl, rfl, hz3⟩
      refine ok_if_eq (x := f_Tape_isDigit V (atV V 27 100 (V 26 7))) (L := [some (.inr (.inr (.inl 27)))]) (S := []) (M := mm V h) rfl rfl (fun c4 => ?_) (fun c4 => ?_)
      ·
        replace hf := (if_pos c4).symm.trans hf
        obtain rfl := Option.some.inj hf
        refine ok_return (L := [some (.inr (.inr (.inl 27)))]) (M := mm V h) rfl rfl ?_
        exact ⟨rfl, rfl⟩
      ·
        replace hf := (if_neg c4).symm.trans hf
        refine ok_callA (L := [some (.inr (.inr (.inl 27)))]) (M := mm V h) (args := [.inr (.inr (.inl 28)), .inl (V 26 7)]) (rest := [.inl (w32 ((V 26 3) * 10)), .inl 100000, .inr (.inr (.inl 27))]) (y2 := 21) rfl rfl rfl (Or.inr (Or.inl rfl)) rfl rfl (Nat.le_of_ble_eq_true rfl) rfl rfl (Nat.le_of_ble_eq_true rfl) (Nat.le_of_ble_eq_true rfl) (w_at rfl rfl) ?_
        rintro _ _ ⟨rfl, rfl⟩
        refine ok_mmin (u := 100000) (v := w32 ((w32 ((w32 ((V 26 3) * 10)) + (atV V 27 100 (V 26 7)))) - 48)) (L := [some (.inr (.inr (.inl 27)))]) (S := [.inr (.inr (.inl 27))]) (M := mm V h) rfl rfl rfl (Nat.le_of_ble_eq_true rfl) ?_
        refine ok_goto (L := [some (.inr (.inr (.inl 27)))]) (S := []) (M := mm (up (up V 26 3 (min 100000 (w32 ((w32 ((w32 ((V 26 3) * 10)) + (atV V 27 100 (V 26 7)))) - 48)))) 26 7 (w32 ((V 26 7) + 1))) h) rfl rfl ?_
        exact ih (up (up V 26 3 (min 100000 (w32 ((w32 ((w32 ((V 26 3) * 10)) + (atV V 27 100 (V 26 7)))) - 48)))) 26 7 (w32 ((V 26 7) + 1))) hf
theorem s_Tape_next_21_o26 {X : Xs} {d : Nat} {h : HP} {V : VV} {n : Nat} {q : VV} (hf : f_Tape_next_21 26 27 100 n V = some q) : Ok X (d + 2) 52 21 ([some (.inr (.inr (.inl 27)))], [], mm V h) (fun M r => M = mm q h ∧ r = none) :=
  s_Tape_next_21_o26_n n V hf
set_option maxRecDepth 20000 in
set_option maxHeartbeats 4000000 in
theorem s_Tape_next_6_o26 {X : Xs} {d : Nat} {V : VV} {h : HP} {q : VV} (hf : f_Tape_next_6 26 27 100 V = some q) : Ok X (d + 2) 52 6 ([some (.inr (.inr (.inl 27)))], [], mm V h) (fun M r => M = mm q h ∧ r = none) := by
  let QQ : Mm → Option AV → Prop := fun M r => M = mm q h ∧ r = none
  show Ok X (d + 2) 52 6 ([some (.inr (.inr (.inl 27)))], [], mm V h) QQ
  refine ok_ic_lt (x := V 26 6) (u := V 26 1) (L := [some (.inr (.inr (.inl 27)))]) (S := []) (M := mm (up (up V 26 7 (V 26 6)) 26 3 0) h) rfl rfl (fun c1 => ?_) (fun c1 => ?_)
  ·
    replace hf := (if_pos c1).symm.trans hf
    refine ok_callA (L := [some (.inr (.inr (.inl 27)))]) (M := mm (up (up V 26 7 (V 26 6)) 26 3 0) h) (args := [.inr (.inr (.inl 28)), .inl (V 26 6)]) (rest := []) (y2 := 21) rfl rfl rfl (Or.inr (Or.inl rfl)) rfl rfl (Nat.le_of_ble_eq_true rfl) rfl rfl (Nat.le_of_ble_eq_true rfl) (Nat.le_of_ble_eq_true rfl) (w_at rfl rfl) ?_
    rintro _ _ ⟨rfl, rfl⟩
    refine ok_callA (L := [some (.inr (.inr (.inl 27)))]) (M := mm (up (up V 26 7 (V 26 6)) 26 3 0) h) (args := [.inl (atV (up (up V 26 7 (V 26 6)) 26 3 0) 27 100 (V 26 6))]) (rest := []) (y2 := 54) rfl rfl rfl (Or.inr (Or.inl rfl)) rfl rfl (Nat.le_of_ble_eq_true rfl) rfl rfl (Nat.le_of_ble_eq_true rfl) (Nat.le_of_ble_eq_true rfl) (s_Tape_isLetter rfl) ?_
    rintro _ _ ⟨rfl, rfl, hz3⟩
    refine ok_if_eq (x := f_Tape_isLetter (up (up V 26 7 (V 26 6)) 26 3 0) (atV (up (up V 26 7 (V 26 6)) 26 3 0) 27 100 (V 26 6))) (L := [some (.inr (.inr (.inl 27)))]) (S := []) (M := mm (up (up V 26 7 (V 26 6)) 26 3 0) h) rfl rfl (fun c4 => ?_) (fun c4 => ?_)
    ·
      replace hf := (if_pos c4).symm.trans hf
      refine ok_callA (L := [some (.inr (.inr (.inl 27)))]) (M := mm (up (up V 26 7 (V 26 6)) 26 3 0) h) (args := [.inr (.inr (.inl 28)), .inl (V 26 6)]) (rest := []) (y2 := 21) rfl rfl rfl (Or.inr (Or.inl rfl)) rfl rfl (Nat.le_of_ble_eq_true rfl) rfl rfl (Nat.le_of_ble_eq_true rfl) (Nat.le_of_ble_eq_true rfl) (w_at rfl rfl) ?_
      rintro _ _ ⟨rfl, rfl⟩
      refine ok_callA (L := [some (.inr (.inr (.inl 27)))]) (M := mm (up (up V 26 7 (V 26 6)) 26 3 0) h) (args := [.inl (atV (up (up V 26 7 (V 26 6)) 26 3 0) 27 100 (V 26 6))]) (rest := []) (y2 := 55) rfl rfl rfl (Or.inr (Or.inl rfl)) rfl rfl (Nat.le_of_ble_eq_true rfl) rfl rfl (Nat.le_of_ble_eq_true rfl) (Nat.le_of_ble_eq_true rfl) (s_Tape_isDigit rfl) ?_
      rintro _ _ ⟨rfl, rfl, hz6⟩
      refine ok_if_eq (x := f_Tape_isDigit (up (up V 26 7 (V 26 6)) 26 3 0) (atV (up (up V 26 7 (V 26 6)) 26 3 0) 27 100 (V 26 6))) (L := [some (.inr (.inr (.inl 27)))]) (S := []) (M := mm (up (up V 26 7 (V 26 6)) 26 3 0) h) rfl rfl (fun c7 => ?_) (fun c7 => ?_)
      ·
        replace hf := (if_pos c7).symm.trans hf
        refine ok_callA (L := [some (.inr (.inr (.inl 27)))]) (M := mm (up (up (up V 26 7 (V 26 6)) 26 3 0) 26 2 3) h) (args := [.inr (.inr (.inl 28)), .inl (V 26 6)]) (rest := [.inr (.inr (.inl 27))]) (y2 := 21) rfl rfl rfl (Or.inr (Or.inl rfl)) rfl rfl (Nat.le_of_ble_eq_true rfl) rfl rfl (Nat.le_of_ble_eq_true rfl) (Nat.le_of_ble_eq_true rfl) (w_at rfl rfl) ?_
        rintro _ _ ⟨rfl, rfl⟩
        refine ok_thru (L := [some (.inr (.inr (.inl 27)))]) (S := []) (M := mm (up (up (up (up (up V 26 7 (V 26 6)) 26 3 0) 26 2 3) 26 3 (atV (up (up (up V 26 7 (V 26 6)) 26 3 0) 26 2 3) 27 100 (V 26 6))) 26 7 (w32 ((V 26 6) + 1))) h) rfl rfl ?_
        obtain rfl := Option.some.inj hf
        refine ok_return (L := [some (.inr (.inr (.inl 27)))]) (M := mm (up (up (up (up (up V 26 7 (V 26 6)) 26 3 0) 26 2 3) 26 3 (atV (up (up (up V 26 7 (V 26 6)) 26 3 0) 26 2 3) 27 100 (V 26 6))) 26 7 (w32 ((V 26 6) + 1))) h) rfl rfl ?_
        exact ⟨rfl, rfl⟩
      ·
        replace hf := (if_neg c7).symm.trans hf
        refine ok_thru (L := [some (.inr (.inr (.inl 27)))]) (S := []) (M := mm (up (up (up V 26 7 (V 26 6)) 26 3 0) 26 2 2) h) rfl rfl ?_
        exact s_Tape_next_21_o26 hf
    ·
      replace hf := (if_neg c4).symm.trans hf
      refine ok_thru (L := [some (.inr (.inr (.inl 27)))]) (S := []) (M := mm (up (up (up V 26 7 (V 26 6)) 26 3 0) 26 2 1) h) rfl rfl ?_
      exact s_Tape_next_12_o26 hf
  ·
    replace hf := (if_neg (Int.not_lt.mpr c1)).symm.trans hf
    refine ok_goto (L := [some (.inr (.inr (.inl 27)))]) (S := []) (M := mm (up (up (up V 26 7 (V 26 6)) 26 3 0) 26 2 0) h) rfl rfl ?_
    obtain rfl := Option.some.inj hf
    refine ok_return (L := [some (.inr (.inr (.inl 27)))]) (M := mm (up (up (up V 26 7 (V 26 6)) 26 3 0) 26 2 0) h) rfl rfl ?_
    exact ⟨rfl, rfl⟩
set_option maxRecDepth 20000 in
set_option maxHeartbeats 4000000 in
theorem s_Tape_next_1_o26_n {X : Xs} {d : Nat} {h : HP} {q : VV} : ∀ (n : Nat) (V : VV), f_Tape_next_1 26 27 100 n V = some q → Ok X (d + 2) 52 1 ([some (.inr (.inr (.inl 27)))], [], mm V h) (fun M r => M = mm q h ∧ r = none) := by
  intro n
  induction n with
  | zero => intro V hf; cases hf
  | succ n ih =>
    intro V hf
    let QQ : Mm → Option AV → Prop := fun M r => M = mm q h ∧ r = none
    show Ok X (d + 2) 52 1 ([some (.inr (.inr (.inl 27)))], [], mm V h) QQ
    refine ok_ic_ge (x := V 26 6) (u := V 26 1) (L := [some (.inr (.inr (.inl 27)))]) (S := []) (M := mm V h) rfl rfl (fun c1 => ?_) (fun c1 => ?_)
    ·
      replace hf := (if_neg (Int.not_lt.mpr c1)).symm.trans hf
      exact s_Tape_next_6_o26 hf
    ·
      replace hf := (if_pos c1).symm.trans hf
      refine ok_callA (L := [some (.inr (.inr (.inl 27)))]) (M := mm V h) (args := [.inr (.inr (.inl 28)), .inl (V 26 6)]) (rest := []) (y2 := 21) rfl rfl rfl (Or.inr (Or.inl rfl)) rfl rfl (Nat.le_of_ble_eq_true rfl) rfl rfl (Nat.le_of_ble_eq_true rfl) (Nat.le_of_ble_eq_true rfl) (w_at rfl rfl) ?_
      rintro _ _ ⟨rfl, rfl⟩
      refine ok_callA (L := [some (.inr (.inr (.inl 27)))]) (M := mm V h) (args := [.inl (atV V 27 100 (V 26 6))]) (rest := []) (y2 := 53) rfl rfl rfl (Or.inr (Or.inl rfl)) rfl rfl (Nat.le_of_ble_eq_true rfl) rfl rfl (Nat.le_of_ble_eq_true rfl) (Nat.le_of_ble_eq_true rfl) (s_Tape_isBlank rfl) ?_
      rintro _ _ ⟨rfl, rfl, hz3⟩
      refine ok_if_eq (x := f_Tape_isBlank V (atV V 27 100 (V 26 6))) (L := [some (.inr (.inr (.inl 27)))]) (S := []) (M := mm V h) rfl rfl (fun c4 => ?_) (fun c4 => ?_)
      ·
        replace hf := (if_pos c4).symm.trans hf
        exact s_Tape_next_6_o26 hf
      ·
        replace hf := (if_neg c4).symm.trans hf
        refine ok_goto (L := [some (.inr (.inr (.inl 27)))]) (S := []) (M := mm (up V 26 6 (w32 ((V 26 6) + 1))) h) rfl rfl ?_
        exact ih (up V 26 6 (w32 ((V 26 6) + 1))) hf
theorem s_Tape_next_1_o26 {X : Xs} {d : Nat} {h : HP} {V : VV} {n : Nat} {q : VV} (hf : f_Tape_next_1 26 27 100 n V = some q) : Ok X (d + 2) 52 1 ([some (.inr (.inr (.inl 27)))], [], mm V h) (fun M r => M = mm q h ∧ r = none) :=
  s_Tape_next_1_o26_n n V hf
set_option maxRecDepth 20000 in
set_option maxHeartbeats 4000000 in
theorem s_Tape_next_o26 {X : Xs} {d : Nat} {V : VV} {h : HP} {q : VV} (hf : f_Tape_next 26 27 100 V = some q) : Ok X (d + 2) 52 0 ([some (.inr (.inr (.inl 27)))], [], mm V h) (fun M r => M = mm q h ∧ r = none) := by
  let QQ : Mm → Option AV → Prop := fun M r => M = mm q h ∧ r = none
  show Ok X (d + 2) 52 0 ([some (.inr (.inr (.inl 27)))], [], mm V h) QQ
  refine ok_thru (L := [some (.inr (.inr (.inl 27)))]) (S := []) (M := mm (up V 26 6 (V 26 7)) h) rfl rfl ?_
  exact s_Tape_next_1_o26 hf
def f_Tape_start (o : Nat) (ob : Nat) (on : Nat) (V : VV)  : Option (VV) := Option.bind (f_Tape_next o ob on (up (up (up V o 7 0) o 4 0) o 5 (-1))) (fun q1 => some q1)
set_option maxRecDepth 20000 in
set_option maxHeartbeats 4000000 in
theorem s_Tape_start_o16 {X : Xs} {d : Nat} {V : VV} {h : HP} {q : VV} (hf : f_Tape_start 16 17 400 V = some q) : Ok X (d + 3) 51 0 ([some (.inr (.inr (.inl 17)))], [], mm V h) (fun M r => M = mm q h ∧ r = none) := by
  let QQ : Mm → Option AV → Prop := fun M r => M = mm q h ∧ r = none
  show Ok X (d + 3) 51 0 ([some (.inr (.inr (.inl 17)))], [], mm V h) QQ
  obtain ⟨q1, e1, hf⟩ := obind hf
  refine ok_callA (L := [some (.inr (.inr (.inl 17)))]) (M := mm (up (up (up V 16 7 0) 16 4 0) 16 5 (-1)) h) (args := [.inr (.inr (.inl 17))]) (rest := []) (y2 := 52) rfl rfl rfl (Or.inl rfl) rfl rfl (Nat.le_of_ble_eq_true rfl) rfl rfl (Nat.le_of_ble_eq_true rfl) (Nat.le_of_ble_eq_true rfl) (s_Tape_next_o16 e1) ?_
  rintro _ _ ⟨rfl, rfl⟩
  obtain rfl := Option.some.inj hf
  refine ok_return (L := [some (.inr (.inr (.inl 17)))]) (M := mm q1 h) rfl rfl ?_
  exact ⟨rfl, rfl⟩
set_option maxRecDepth 20000 in
set_option maxHeartbeats 4000000 in
theorem s_Tape_start_o26 {X : Xs} {d : Nat} {V : VV} {h : HP} {q : VV} (hf : f_Tape_start 26 27 100 V = some q) : Ok X (d + 3) 51 0 ([some (.inr (.inr (.inl 27)))], [], mm V h) (fun M r => M = mm q h ∧ r = none) := by
  let QQ : Mm → Option AV → Prop := fun M r => M = mm q h ∧ r = none
  show Ok X (d + 3) 51 0 ([some (.inr (.inr (.inl 27)))], [], mm V h) QQ
  obtain ⟨q1, e1, hf⟩ := obind hf
  refine ok_callA (L := [some (.inr (.inr (.inl 27)))]) (M := mm (up (up (up V 26 7 0) 26 4 0) 26 5 (-1)) h) (args := [.inr (.inr (.inl 27))]) (rest := []) (y2 := 52) rfl rfl rfl (Or.inl rfl) rfl rfl (Nat.le_of_ble_eq_true rfl) rfl rfl (Nat.le_of_ble_eq_true rfl) (Nat.le_of_ble_eq_true rfl) (s_Tape_next_o26 e1) ?_
  rintro _ _ ⟨rfl, rfl⟩
  obtain rfl := Option.some.inj hf
  refine ok_return (L := [some (.inr (.inr (.inl 27)))]) (M := mm q1 h) rfl rfl ?_
  exact ⟨rfl, rfl⟩
def f_Tape_isSound (o : Nat) (ob : Nat) (on : Nat) (V : VV)  : Int := (if (V o 4) = 0 then 1 else 0 : Int)
set_option maxRecDepth 20000 in
set_option maxHeartbeats 4000000 in
theorem s_Tape_isSound_o16 {X : Xs} {d : Nat} {V : VV} {h : HP} {q : Int} (hf : f_Tape_isSound 16 17 400 V = q) : Ok X (d + 1) 56 0 ([some (.inr (.inr (.inl 17)))], [], mm V h) (fun M r => M = mm V h ∧ r = some (.inl q) ∧ (q = 0 ∨ q = 1)) := by
  let QQ : Mm → Option AV → Prop := fun M r => M = mm V h ∧ r = some (.inl q) ∧ (q = 0 ∨ q = 1)
  show Ok X (d + 1) 56 0 ([some (.inr (.inr (.inl 17)))], [], mm V h) QQ
  have JN1 : Ok X (d + 1) 56 3 ([some (.inr (.inr (.inl 17)))], [.inl (if (V 16 4) = 0 then 1 else 0 : Int)], mm V h) QQ := by
    have hq : ((if (V 16 4) = 0 then 1 else 0 : Int)) = q := hf
    subst hq
    have hz : ((if (V 16 4) = 0 then 1 else 0 : Int) : Int) = 0 ∨ ((if (V 16 4) = 0 then 1 else 0 : Int) : Int) = 1 := by
      first | exact Or.inl rfl | exact Or.inr rfl | assumption | (repeat' split) <;> first | exact Or.inl rfl | exact Or.inr rfl | assumption
    refine ok_zreturn (L := [some (.inr (.inr (.inl 17)))]) (M := mm V h) (x := (if (V 16 4) = 0 then 1 else 0 : Int)) rfl rfl hz ?_
    exact ⟨rfl, rfl, hz⟩
  clear hf
  refine ok_if_ne (x := V 16 4) (L := [some (.inr (.inr (.inl 17)))]) (S := []) (M := mm V h) rfl rfl (fun c2 => ?_) (fun c2 => ?_)
  ·
    simp only [if_neg c2] at JN1
    refine ok_thru (L := [some (.inr (.inr (.inl 17)))]) (S := [.inl 0]) (M := mm V h) rfl rfl ?_
    first | exact JN1 | (simp only [if_neg c2]; exact JN1)
  ·
    simp only [if_pos c2] at JN1
    refine ok_goto (L := [some (.inr (.inr (.inl 17)))]) (S := [.inl 1]) (M := mm V h) rfl rfl ?_
    first | exact JN1 | (simp only [if_pos c2]; exact JN1)
set_option maxRecDepth 20000 in
set_option maxHeartbeats 4000000 in
theorem s_Tape_isSound_o26 {X : Xs} {d : Nat} {V : VV} {h : HP} {q : Int} (hf : f_Tape_isSound 26 27 100 V = q) : Ok X (d + 1) 56 0 ([some (.inr (.inr (.inl 27)))], [], mm V h) (fun M r => M = mm V h ∧ r = some (.inl q) ∧ (q = 0 ∨ q = 1)) := by
  let QQ : Mm → Option AV → Prop := fun M r => M = mm V h ∧ r = some (.inl q) ∧ (q = 0 ∨ q = 1)
  show Ok X (d + 1) 56 0 ([some (.inr (.inr (.inl 27)))], [], mm V h) QQ
  have JN1 : Ok X (d + 1) 56 3 ([some (.inr (.inr (.inl 27)))], [.inl (if (V 26 4) = 0 then 1 else 0 : Int)], mm V h) QQ := by
    have hq : ((if (V 26 4) = 0 then 1 else 0 : Int)) = q := hf
    subst hq
    have hz : ((if (V 26 4) = 0 then 1 else 0 : Int) : Int) = 0 ∨ ((if (V 26 4) = 0 then 1 else 0 : Int) : Int) = 1 := by
      first | exact Or.inl rfl | exact Or.inr rfl | assumption | (repeat' split) <;> first | exact Or.inl rfl | exact Or.inr rfl | assumption
    refine ok_zreturn (L := [some (.inr (.inr (.inl 27)))]) (M := mm V h) (x := (if (V 26 4) = 0 then 1 else 0 : Int)) rfl rfl hz ?_
    exact ⟨rfl, rfl, hz⟩
  clear hf
  refine ok_if_ne (x := V 26 4) (L := [some (.inr (.inr (.inl 27)))]) (S := []) (M := mm V h) rfl rfl (fun c2 => ?_) (fun c2 => ?_)
  ·
    simp only [if_neg c2] at JN1
    refine ok_thru (L := [some (.inr (.inr (.inl 27)))]) (S := [.inl 0]) (M := mm V h) rfl rfl ?_
    first | exact JN1 | (simp only [if_neg c2]; exact JN1)
  ·
    simp only [if_pos c2] at JN1
    refine ok_goto (L := [some (.inr (.inr (.inl 27)))]) (S := [.inl 1]) (M := mm V h) rfl rfl ?_
    first | exact JN1 | (simp only [if_pos c2]; exact JN1)
