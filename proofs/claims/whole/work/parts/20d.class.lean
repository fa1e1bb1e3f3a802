/-! shallow functions of the program (printed by wip/tools/gen20.py) -/
def f_Hours_kindOf (V : VV)  : Option (Int) := Option.bind (f_Tape_isWord 16 17 400 0 V) (fun q1 => if q1 = 0 then Option.bind (f_Tape_isWord 16 17 400 1 V) (fun q3 => if q3 = 0 then Option.bind (f_Tape_isWord 16 17 400 2 V) (fun q5 => if q5 = 0 then Option.bind (f_Tape_isWord 16 17 400 3 V) (fun q7 => if q7 = 0 then Option.bind (f_Tape_isWord 16 17 400 4 V) (fun q9 => some (if q9 = 0 then (-1) else 4 : Int)) else some 3) else some 2) else some 1) else some 0)
set_option maxRecDepth 20000 in
set_option maxHeartbeats 4000000 in
theorem s_Hours_kindOf {X : Xs} {d : Nat} {V : VV} {h : HP} {q : Int} (hf : f_Hours_kindOf V = some q) : Ok X (d + 7) 58 0 ([some (.inr (.inr (.inl 17)))], [], mm V h) (fun M r => M = mm V h ∧ r = some (.inl q)) := by
  let QQ : Mm → Option AV → Prop := fun M r => M = mm V h ∧ r = some (.inl q)
  show Ok X (d + 7) 58 0 ([some (.inr (.inr (.inl 17)))], [], mm V h) QQ
  obtain ⟨q1, e1, hf⟩ := obind hf
  refine ok_callA (L := [some (.inr (.inr (.inl 17)))]) (M := mm V h) (args := [.inr (.inr (.inl 17)), .inr (.inr (.inr 10))]) (rest := []) (y2 := 59) rfl rfl rfl (Or.inl rfl) rfl rfl (Nat.le_of_ble_eq_true rfl) rfl rfl (Nat.le_of_ble_eq_true rfl) (Nat.le_of_ble_eq_true rfl) (s_Tape_isWord_o16w0 e1) ?_
  rintro _ _ ⟨rfl, rfl, hz1⟩
  refine ok_if_eq (x := q1) (L := [some (.inr (.inr (.inl 17)))]) (S := []) (M := mm V h) rfl rfl (fun c2 => ?_) (fun c2 => ?_)
  ·
    replace hf := (if_pos c2).symm.trans hf
    obtain ⟨q3, e3, hf⟩ := obind hf
    refine ok_callA (L := [some (.inr (.inr (.inl 17)))]) (M := mm V h) (args := [.inr (.inr (.inl 17)), .inr (.inr (.inr 11))]) (rest := []) (y2 := 59) rfl rfl rfl (Or.inl rfl) rfl rfl (Nat.le_of_ble_eq_true rfl) rfl rfl (Nat.le_of_ble_eq_true rfl) (Nat.le_of_ble_eq_true rfl) (s_Tape_isWord_o16w1 e3) ?_
    rintro _ _ ⟨rfl, rfl, hz3⟩
    refine ok_if_eq (x := q3) (L := [some (.inr (.inr (.inl 17)))]) (S := []) (M := mm V h) rfl rfl (fun c4 => ?_) (fun c4 => ?_)
    ·
      replace hf := (if_pos c4).symm.trans hf
      obtain ⟨q5, e5, hf⟩ := obind hf
      refine ok_callA (L := [some (.inr (.inr (.inl 17)))]) (M := mm V h) (args := [.inr (.inr (.inl 17)), .inr (.inr (.inr 12))]) (rest := []) (y2 := 59) rfl rfl rfl (Or.inl rfl) rfl rfl (Nat.le_of_ble_eq_true rfl) rfl rfl (Nat.le_of_ble_eq_true rfl) (Nat.le_of_ble_eq_true rfl) (s_Tape_isWord_o16w2 e5) ?_
      rintro _ _ ⟨rfl, rfl, hz5⟩
      refine ok_if_eq (x := q5) (L := [some (.inr (.inr (.inl 17)))]) (S := []) (M := mm V h) rfl rfl (fun c6 => ?_) (fun c6 => ?_)
      ·
        replace hf := (if_pos c6).symm.trans hf
        obtain ⟨q7, e7, hf⟩ := obind hf
        refine ok_callA (L := [some (.inr (.inr (.inl 17)))]) (M := mm V h) (args := [.inr (.inr (.inl 17)), .inr (.inr (.inr 13))]) (rest := []) (y2 := 59) rfl rfl rfl (Or.inl rfl) rfl rfl (Nat.le_of_ble_eq_true rfl) rfl rfl (Nat.le_of_ble_eq_true rfl) (Nat.le_of_ble_eq_true rfl) (s_Tape_isWord_o16w3 e7) ?_
        rintro _ _ ⟨rfl, rfl, hz7⟩
        refine ok_if_eq (x := q7) (L := [some (.inr (.inr (.inl 17)))]) (S := []) (M := mm V h) rfl rfl (fun c8 => ?_) (fun c8 => ?_)
        ·
          replace hf := (if_pos c8).symm.trans hf
          obtain ⟨q9, e9, hf⟩ := obind hf
          refine ok_callA (L := [some (.inr (.inr (.inl 17)))]) (M := mm V h) (args := [.inr (.inr (.inl 17)), .inr (.inr (.inr 14))]) (rest := []) (y2 := 59) rfl rfl rfl (Or.inl rfl) rfl rfl (Nat.le_of_ble_eq_true rfl) rfl rfl (Nat.le_of_ble_eq_true rfl) (Nat.le_of_ble_eq_true rfl) (s_Tape_isWord_o16w4 e9) ?_
          rintro _ _ ⟨rfl, rfl, hz9⟩
          have JN10 : Ok X (d + 7) 58 16 ([some (.inr (.inr (.inl 17)))], [.inl (if q9 = 0 then (-1) else 4 : Int)], mm V h) QQ := by
            obtain rfl := Option.some.inj hf
            refine ok_ireturn (L := [some (.inr (.inr (.inl 17)))]) (M := mm V h) (x := (if q9 = 0 then (-1) else 4 : Int)) rfl rfl ?_
            exact ⟨rfl, rfl⟩
          clear hf
          refine ok_if_eq (x := q9) (L := [some (.inr (.inr (.inl 17)))]) (S := []) (M := mm V h) rfl rfl (fun c11 => ?_) (fun c11 => ?_)
          ·
            simp only [if_pos c11] at JN10
            refine ok_thru (L := [some (.inr (.inr (.inl 17)))]) (S := [.inl (-1)]) (M := mm V h) rfl rfl ?_
            first | exact JN10 | (simp only [if_pos c11]; exact JN10)
          ·
            simp only [if_neg c11] at JN10
            refine ok_goto (L := [some (.inr (.inr (.inl 17)))]) (S := [.inl 4]) (M := mm V h) rfl rfl ?_
            first | exact JN10 | (simp only [if_neg c11]; exact JN10)
        ·
          replace hf := (if_neg c8).symm.trans hf
          obtain rfl := Option.some.inj hf
          refine ok_ireturn (L := [some (.inr (.inr (.inl 17)))]) (M := mm V h) (x := 3) rfl rfl ?_
          exact ⟨rfl, rfl⟩
      ·
        replace hf := (if_neg c6).symm.trans hf
        obtain rfl := Option.some.inj hf
        refine ok_ireturn (L := [some (.inr (.inr (.inl 17)))]) (M := mm V h) (x := 2) rfl rfl ?_
        exact ⟨rfl, rfl⟩
    ·
      replace hf := (if_neg c4).symm.trans hf
      obtain rfl := Option.some.inj hf
      refine ok_ireturn (L := [some (.inr (.inr (.inl 17)))]) (M := mm V h) (x := 1) rfl rfl ?_
      exact ⟨rfl, rfl⟩
  ·
    replace hf := (if_neg c2).symm.trans hf
    obtain rfl := Option.some.inj hf
    refine ok_ireturn (L := [some (.inr (.inr (.inl 17)))]) (M := mm V h) (x := 0) rfl rfl ?_
    exact ⟨rfl, rfl⟩
def f_Tape_fail (o : Nat) (ob : Nat) (on : Nat) (V : VV) (v1 : Int) : VV := if (V o 4) = 0 then up (up V o 4 v1) o 5 (V o 6) else V
set_option maxRecDepth 20000 in
set_option maxHeartbeats 4000000 in
theorem s_Tape_fail_o16 {X : Xs} {d : Nat} {V : VV} {h : HP} {v1 : Int} {q : VV} (hf : f_Tape_fail 16 17 400 V v1 = q) : Ok X (d + 1) 67 0 ([some (.inr (.inr (.inl 17))), some (.inl v1)], [], mm V h) (fun M r => M = mm q h ∧ r = none) := by
  let QQ : Mm → Option AV → Prop := fun M r => M = mm q h ∧ r = none
  show Ok X (d + 1) 67 0 ([some (.inr (.inr (.inl 17))), some (.inl v1)], [], mm V h) QQ
  refine ok_if_ne (x := V 16 4) (L := [some (.inr (.inr (.inl 17))), some (.inl v1)]) (S := []) (M := mm V h) rfl rfl (fun c1 => ?_) (fun c1 => ?_)
  ·
    replace hf := (if_neg c1).symm.trans hf
    have hq : (V) = q := hf
    subst hq
    refine ok_return (L := [some (.inr (.inr (.inl 17))), some (.inl v1)]) (M := mm V h) rfl rfl ?_
    exact ⟨rfl, rfl⟩
  ·
    replace hf := (if_pos c1).symm.trans hf
    refine ok_thru (L := [some (.inr (.inr (.inl 17))), some (.inl v1)]) (S := []) (M := mm (up (up V 16 4 v1) 16 5 (V 16 6)) h) rfl rfl ?_
    have hq : (up (up V 16 4 v1) 16 5 (V 16 6)) = q := hf
    subst hq
    refine ok_return (L := [some (.inr (.inr (.inl 17))), some (.inl v1)]) (M := mm (up (up V 16 4 v1) 16 5 (V 16 6)) h) rfl rfl ?_
    exact ⟨rfl, rfl⟩
set_option maxRecDepth 20000 in
set_option maxHeartbeats 4000000 in
theorem s_Tape_fail_o26 {X : Xs} {d : Nat} {V : VV} {h : HP} {v1 : Int} {q : VV} (hf : f_Tape_fail 26 27 100 V v1 = q) : Ok X (d + 1) 67 0 ([some (.inr (.inr (.inl 27))), some (.inl v1)], [], mm V h) (fun M r => M = mm q h ∧ r = none) := by
  let QQ : Mm → Option AV → Prop := fun M r => M = mm q h ∧ r = none
  show Ok X (d + 1) 67 0 ([some (.inr (.inr (.inl 27))), some (.inl v1)], [], mm V h) QQ
  refine ok_if_ne (x := V 26 4) (L := [some (.inr (.inr (.inl 27))), some (.inl v1)]) (S := []) (M := mm V h) rfl rfl (fun c1 => ?_) (fun c1 => ?_)
  ·
    replace hf := (if_neg c1).symm.trans hf
    have hq : (V) = q := hf
    subst hq
    refine ok_return (L := [some (.inr (.inr (.inl 27))), some (.inl v1)]) (M := mm V h) rfl rfl ?_
    exact ⟨rfl, rfl⟩
  ·
    replace hf := (if_pos c1).symm.trans hf
    refine ok_thru (L := [some (.inr (.inr (.inl 27))), some (.inl v1)]) (S := []) (M := mm (up (up V 26 4 v1) 26 5 (V 26 6)) h) rfl rfl ?_
    have hq : (up (up V 26 4 v1) 26 5 (V 26 6)) = q := hf
    subst hq
    refine ok_return (L := [some (.inr (.inr (.inl 27))), some (.inl v1)]) (M := mm (up (up V 26 4 v1) 26 5 (V 26 6)) h) rfl rfl ?_
    exact ⟨rfl, rfl⟩
def f_Tape_passNumber_6 (o : Nat) (ob : Nat) (on : Nat) (V : VV) (v1 : Int) : Option (VV × Int) := if (f_Tape_isSound o ob on V) = 0 then some (V, v1) else Option.bind (f_Tape_next o ob on V) (fun q3 => some (q3, V o 3))
def f_Tape_passNumber (o : Nat) (ob : Nat) (on : Nat) (V : VV) (v1 : Int) (v2 : Int) : Option (VV × Int) := if (V o 2) = 2 then if (isFromV (V o 3) v1 v2) = 0 then lt_ (f_Tape_fail o ob on V 2) (fun q4 => f_Tape_passNumber_6 o ob on q4 v1) else f_Tape_passNumber_6 o ob on V v1 else lt_ (f_Tape_fail o ob on V 1) (fun q5 => f_Tape_passNumber_6 o ob on q5 v1)
set_option maxRecDepth 20000 in
set_option maxHeartbeats 4000000 in
theorem s_Tape_passNumber_6_o16 {X : Xs} {d : Nat} {V : VV} {h : HP} {v1 : Int} {w2 : Int} {z3 : Option AV} {q : VV × Int} (hf : f_Tape_passNumber_6 16 17 400 V v1 = some q) : Ok X (d + 3) 68 6 ([some (.inr (.inr (.inl 17))), some (.inl v1), some (.inl w2), z3], [], mm V h) (fun M r => M = mm q.1 h ∧ r = some (.inl q.2)) := by
  let QQ : Mm → Option AV → Prop := fun M r => M = mm q.1 h ∧ r = some (.inl q.2)
  show Ok X (d + 3) 68 6 ([some (.inr (.inr (.inl 17))), some (.inl v1), some (.inl w2), z3], [], mm V h) QQ
  refine ok_callA (L := [some (.inr (.inr (.inl 17))), some (.inl v1), some (.inl w2), z3]) (M := mm V h) (args := [.inr (.inr (.inl 17))]) (rest := []) (y2 := 56) rfl rfl rfl (Or.inl rfl) rfl rfl (Nat.le_of_ble_eq_true rfl) rfl rfl (Nat.le_of_ble_eq_true rfl) (Nat.le_of_ble_eq_true rfl) (s_Tape_isSound_o16 rfl) ?_
  rintro _ _ ⟨rfl, rfl, hz1⟩
  refine ok_if_ne (x := f_Tape_isSound 16 17 400 V) (L := [some (.inr (.inr (.inl 17))), some (.inl v1), some (.inl w2), z3]) (S := []) (M := mm V h) rfl rfl (fun c2 => ?_) (fun c2 => ?_)
  ·
    replace hf := (if_neg c2).symm.trans hf
    obtain ⟨q3, e3, hf⟩ := obind hf
    refine ok_callA (L := [some (.inr (.inr (.inl 17))), some (.inl v1), some (.inl w2), some (.inl (V 16 3))]) (M := mm V h) (args := [.inr (.inr (.inl 17))]) (rest := []) (y2 := 52) rfl rfl rfl (Or.inl rfl) rfl rfl (Nat.le_of_ble_eq_true rfl) rfl rfl (Nat.le_of_ble_eq_true rfl) (Nat.le_of_ble_eq_true rfl) (s_Tape_next_o16 e3) ?_
    rintro _ _ ⟨rfl, rfl⟩
    obtain rfl := Option.some.inj hf
    refine ok_ireturn (L := [some (.inr (.inr (.inl 17))), some (.inl v1), some (.inl w2), some (.inl (V 16 3))]) (M := mm q3 h) (x := V 16 3) rfl rfl ?_
    exact ⟨rfl, rfl⟩
  ·
    replace hf := (if_pos c2).symm.trans hf
    obtain rfl := Option.some.inj hf
    refine ok_ireturn (L := [some (.inr (.inr (.inl 17))), some (.inl v1), some (.inl w2), z3]) (M := mm V h) (x := v1) rfl rfl ?_
    exact ⟨rfl, rfl⟩
set_option maxRecDepth 20000 in
set_option maxHeartbeats 4000000 in
theorem s_Tape_passNumber_o16 {X : Xs} {d : Nat} {V : VV} {h : HP} {v1 : Int} {v2 : Int} {q : VV × Int} (hf : f_Tape_passNumber 16 17 400 V v1 v2 = some q) : Ok X (d + 3) 68 0 ([some (.inr (.inr (.inl 17))), some (.inl v1), some (.inl v2), none], [], mm V h) (fun M r => M = mm q.1 h ∧ r = some (.inl q.2)) := by
  let QQ : Mm → Option AV → Prop := fun M r => M = mm q.1 h ∧ r = some (.inl q.2)
  show Ok X (d + 3) 68 0 ([some (.inr (.inr (.inl 17))), some (.inl v1), some (.inl v2), none], [], mm V h) QQ
  refine ok_ic_eq (x := V 16 2) (u := 2) (L := [some (.inr (.inr (.inl 17))), some (.inl v1), some (.inl v2), none]) (S := []) (M := mm V h) rfl rfl (fun c1 => ?_) (fun c1 => ?_)
  ·
    replace hf := (if_pos c1).symm.trans hf
    refine ok_callA (L := [some (.inr (.inr (.inl 17))), some (.inl v1), some (.inl v2), none]) (M := mm V h) (args := [.inl (V 16 3), .inl v1, .inl v2]) (rest := []) (y2 := 16) rfl rfl rfl (Or.inr (Or.inl rfl)) rfl rfl (Nat.le_of_ble_eq_true rfl) rfl rfl (Nat.le_of_ble_eq_true rfl) (Nat.le_of_ble_eq_true rfl) (w_isFrom rfl) ?_
    rintro _ _ ⟨rfl, rfl, hz2⟩
    refine ok_if_ne (x := isFromV (V 16 3) v1 v2) (L := [some (.inr (.inr (.inl 17))), some (.inl v1), some (.inl v2), none]) (S := []) (M := mm V h) rfl rfl (fun c3 => ?_) (fun c3 => ?_)
    ·
      replace hf := (if_neg c3).symm.trans hf
      exact s_Tape_passNumber_6_o16 hf
    ·
      replace hf := (if_pos c3).symm.trans hf
      obtain ⟨q4, e4, hf⟩ := lt_x hf
      refine ok_callA (L := [some (.inr (.inr (.inl 17))), some (.inl v1), some (.inl v2), none]) (M := mm V h) (args := [.inr (.inr (.inl 17)), .inl 2]) (rest := []) (y2 := 67) rfl rfl rfl (Or.inl rfl) rfl rfl (Nat.le_of_ble_eq_true rfl) rfl rfl (Nat.le_of_ble_eq_true rfl) (Nat.le_of_ble_eq_true rfl) (s_Tape_fail_o16 e4) ?_
      rintro _ _ ⟨rfl, rfl⟩
      exact s_Tape_passNumber_6_o16 hf
  ·
    replace hf := (if_neg c1).symm.trans hf
    obtain ⟨q5, e5, hf⟩ := lt_x hf
    refine ok_callA (L := [some (.inr (.inr (.inl 17))), some (.inl v1), some (.inl v2), none]) (M := mm V h) (args := [.inr (.inr (.inl 17)), .inl 1]) (rest := []) (y2 := 67) rfl rfl rfl (Or.inl rfl) rfl rfl (Nat.le_of_ble_eq_true rfl) rfl rfl (Nat.le_of_ble_eq_true rfl) (Nat.le_of_ble_eq_true rfl) (s_Tape_fail_o16 e5) ?_
    rintro _ _ ⟨rfl, rfl⟩
    refine ok_goto (L := [some (.inr (.inr (.inl 17))), some (.inl v1), some (.inl v2), none]) (S := []) (M := mm q5 h) rfl rfl ?_
    exact s_Tape_passNumber_6_o16 hf
set_option maxRecDepth 20000 in
set_option maxHeartbeats 4000000 in
theorem s_Tape_passNumber_6_o26 {X : Xs} {d : Nat} {V : VV} {h : HP} {v1 : Int} {w2 : Int} {z3 : Option AV} {q : VV × Int} (hf : f_Tape_passNumber_6 26 27 100 V v1 = some q) : Ok X (d + 3) 68 6 ([some (.inr (.inr (.inl 27))), some (.inl v1), some (.inl w2), z3], [], mm V h) (fun M r => M = mm q.1 h ∧ r = some (.inl q.2)) := by
  let QQ : Mm → Option AV → Prop := fun M r => M = mm q.1 h ∧ r = some (.inl q.2)
  show Ok X (d + 3) 68 6 ([some (.inr (.inr (.inl 27))), some (.inl v1), some (.inl w2), z3], [], mm V h) QQ
  refine ok_callA (L := [some (.inr (.inr (.inl 27))), some (.inl v1), some (.inl w2), z3]) (M := mm V h) (args := [.inr (.inr (.inl 27))]) (rest := []) (y2 := 56) rfl rfl rfl (Or.inl rfl) rfl rfl (Nat.le_of_ble_eq_true rfl) rfl rfl (Nat.le_of_ble_eq_true rfl) (Nat.le_of_ble_eq_true rfl) (s_Tape_isSound_o26 rfl) ?_
  rintro _ _ ⟨rfl, rfl, hz1⟩
  refine ok_if_ne (x := f_Tape_isSound 26 27 100 V) (L := [some (.inr (.inr (.inl 27))), some (.inl v1), some (.inl w2), z3]) (S := []) (M := mm V h) rfl rfl (fun c2 => ?_) (fun c2 => ?_)
  ·
    replace hf := (if_neg c2).symm.trans hf
    obtain ⟨q3, e3, hf⟩ := obind hf
    refine ok_callA (L := [some (.inr (.inr (.inl 27))), some (.inl v1), some (.inl w2), some (.inl (V 26 3))]) (M := mm V h) (args := [.inr (.inr (.inl 27))]) (rest := []) (y2 := 52) rfl rfl rfl (Or.inl rfl) rfl rfl (Nat.le_of_ble_eq_true rfl) rfl rfl (Nat.le_of_ble_eq_true rfl) (Nat.le_of_ble_eq_true rfl) (s_Tape_next_o26 e3) ?_
    rintro _ _ ⟨rfl, rfl⟩
    obtain rfl := Option.some.inj hf
    refine ok_ireturn (L := [some (.inr (.inr (.inl 27))), some (.inl v1), some (.inl w2), some (.inl (V 26 3))]) (M := mm q3 h) (x := V 26 3) rfl rfl ?_
    exact ⟨rfl, rfl⟩
  ·
    replace hf := (if_pos c2).symm.trans hf
    obtain rfl := Option.some.inj hf
    refine ok_ireturn (L := [some (.inr (.inr (.inl 27))), some (.inl v1), some (.inl w2), z3]) (M := mm V h) (x := v1) rfl rfl ?_
    exact ⟨rfl, rfl⟩
set_option maxRecDepth 20000 in
set_option maxHeartbeats 4000000 in
theorem s_Tape_passNumber_o26 {X : Xs} {d : Nat} {V : VV} {h : HP} {v1 : Int} {v2 : Int} {q : VV × Int} (hf : f_Tape_passNumber 26 27 100 V v1 v2 = some q) : Ok X (d + 3) 68 0 ([some (.inr (.inr (.inl 27))), some (.inl v1), some (.inl v2), none], [], mm V h) (fun M r => M = mm q.1 h ∧ r = some (.inl q.2)) := by
  let QQ : Mm → Option AV → Prop := fun M r => M = mm q.1 h ∧ r = some (.inl q.2)
  show Ok X (d + 3) 68 0 ([some (.inr (.inr (.inl 27))), some (.inl v1), some (.inl v2), none], [], mm V h) QQ
  refine ok_ic_eq (x := V 26 2) (u := 2) (L := [some (.inr (.inr (.inl 27))), some (.inl v1), some (.inl v2), none]) (S := []) (M := mm V h) rfl rfl (fun c1 => ?_) (fun c1 => ?_)
  ·
    replace hf := (if_pos c1).symm.trans hf
    refine ok_callA (L := [some (.inr (.inr (.inl 27))), some (.inl v1), some (.inl v2), none]) (M := mm V h) (args := [.inl (V 26 3), .inl v1, .inl v2]) (rest := []) (y2 := 16) rfl rfl rfl (Or.inr (Or.inl rfl)) rfl rfl (Nat.le_of_ble_eq_true rfl) rfl rfl (Nat.le_of_ble_eq_true rfl) (Nat.le_of_ble_eq_true rfl) (w_isFrom rfl) ?_
    rintro _ _ ⟨rfl, rfl, hz2⟩
    refine ok_if_ne (x := isFromV (V 26 3) v1 v2) (L := [some (.inr (.inr (.inl 27))), some (.inl v1), some (.inl v2), none]) (S := []) (M := mm V h) rfl rfl (fun c3 => ?_) (fun c3 => ?_)
    ·
      replace hf := (if_neg c3).symm.trans hf
      exact s_Tape_passNumber_6_o26 hf
    ·
      replace hf := (if_pos c3).symm.trans hf
      obtain ⟨q4, e4, hf⟩ := lt_x hf
      refine ok_callA (L := [some (.inr (.inr (.inl 27))), some (.inl v1), some (.inl v2), none]) (M := mm V h) (args := [.inr (.inr (.inl 27)), .inl 2]) (rest := []) (y2 := 67) rfl rfl rfl (Or.inl rfl) rfl rfl (Nat.le_of_ble_eq_true rfl) rfl rfl (Nat.le_of_ble_eq_true rfl) (Nat.le_of_ble_eq_true rfl) (s_Tape_fail_o26 e4) ?_
      rintro _ _ ⟨rfl, rfl⟩
      exact s_Tape_passNumber_6_o26 hf
  ·
    replace hf := (if_neg c1).symm.trans hf
    obtain ⟨q5, e5, hf⟩ := lt_x hf
    refine ok_callA (L := [some (.inr (.inr (.inl 27))), some (.inl v1), some (.inl v2), none]) (M := mm V h) (args := [.inr (.inr (.inl 27)), .inl 1]) (rest := []) (y2 := 67) rfl rfl rfl (Or.inl rfl) rfl rfl (Nat.le_of_ble_eq_true rfl) rfl rfl (Nat.le_of_ble_eq_true rfl) (Nat.le_of_ble_eq_true rfl) (s_Tape_fail_o26 e5) ?_
    rintro _ _ ⟨rfl, rfl⟩
    refine ok_goto (L := [some (.inr (.inr (.inl 27))), some (.inl v1), some (.inl v2), none]) (S := []) (M := mm q5 h) rfl rfl ?_
    exact s_Tape_passNumber_6_o26 hf
def f_Tape_passWord_6 (o : Nat) (ob : Nat) (on : Nat) (j : Nat) (V : VV)  : Option (VV) := lt_ (f_Tape_fail o ob on V 1) (fun q1 => some q1)
def f_Tape_passWord (o : Nat) (ob : Nat) (on : Nat) (j : Nat) (V : VV)  : Option (VV) := if (f_Tape_isSound o ob on V) = 0 then f_Tape_passWord_6 o ob on j V else Option.bind (f_Tape_isWord o ob on j V) (fun q3 => if q3 = 0 then f_Tape_passWord_6 o ob on j V else Option.bind (f_Tape_next o ob on V) (fun q5 => some q5))
set_option maxRecDepth 20000 in
set_option maxHeartbeats 4000000 in
theorem s_Tape_passWord_6_o16w5 {X : Xs} {d : Nat} {V : VV} {h : HP} {q : VV} (hf : f_Tape_passWord_6 16 17 400 5 V = some q) : Ok X (d + 7) 69 6 ([some (.inr (.inr (.inl 17))), some (.inr (.inr (.inr 15)))], [], mm V h) (fun M r => M = mm q h ∧ r = none) := by
  let QQ : Mm → Option AV → Prop := fun M r => M = mm q h ∧ r = none
  show Ok X (d + 7) 69 6 ([some (.inr (.inr (.inl 17))), some (.inr (.inr (.inr 15)))], [], mm V h) QQ
  obtain ⟨q1, e1, hf⟩ := lt_x hf
  refine ok_callA (L := [some (.inr (.inr (.inl 17))), some (.inr (.inr (.inr 15)))]) (M := mm V h) (args := [.inr (.inr (.inl 17)), .inl 1]) (rest := []) (y2 := 67) rfl rfl rfl (Or.inl rfl) rfl rfl (Nat.le_of_ble_eq_true rfl) rfl rfl (Nat.le_of_ble_eq_true rfl) (Nat.le_of_ble_eq_true rfl) (s_Tape_fail_o16 e1) ?_
  rintro _ _ ⟨rfl, rfl⟩
  obtain rfl := Option.some.inj hf
  refine ok_return (L := [some (.inr (.inr (.inl 17))), some (.inr (.inr (.inr 15)))]) (M := mm q1 h) rfl rfl ?_
  exact ⟨rfl, rfl⟩
set_option maxRecDepth 20000 in
set_option maxHeartbeats 4000000 in
theorem s_Tape_passWord_o16w5 {X : Xs} {d : Nat} {V : VV} {h : HP} {q : VV} (hf : f_Tape_passWord 16 17 400 5 V = some q) : Ok X (d + 7) 69 0 ([some (.inr (.inr (.inl 17))), some (.inr (.inr (.inr 15)))], [], mm V h) (fun M r => M = mm q h ∧ r = none) := by
  let QQ : Mm → Option AV → Prop := fun M r => M = mm q h ∧ r = none
  show Ok X (d + 7) 69 0 ([some (.inr (.inr (.inl 17))), some (.inr (.inr (.inr 15)))], [], mm V h) QQ
  refine ok_callA (L := [some (.inr (.inr (.inl 17))), some (.inr (.inr (.inr 15)))]) (M := mm V h) (args := [.inr (.inr (.inl 17))]) (rest := []) (y2 := 56) rfl rfl rfl (Or.inl rfl) rfl rfl (Nat.le_of_ble_eq_true rfl) rfl rfl (Nat.le_of_ble_eq_true rfl) (Nat.le_of_ble_eq_true rfl) (s_Tape_isSound_o16 rfl) ?_
  rintro _ _ ⟨rfl, rfl, hz1⟩
  refine ok_if_eq (x := f_Tape_isSound 16 17 400 V) (L := [some (.inr (.inr (.inl 17))), some (.inr (.inr (.inr 15)))]) (S := []) (M := mm V h) rfl rfl (fun c2 => ?_) (fun c2 => ?_)
  ·
    replace hf := (if_pos c2).symm.trans hf
    exact s_Tape_passWord_6_o16w5 hf
  ·
    replace hf := (if_neg c2).symm.trans hf
    obtain ⟨q3, e3, hf⟩ := obind hf
    refine ok_callA (L := [some (.inr (.inr (.inl 17))), some (.inr (.inr (.inr 15)))]) (M := mm V h) (args := [.inr (.inr (.inl 17)), .inr (.inr (.inr 15))]) (rest := []) (y2 := 59) rfl rfl rfl (Or.inl rfl) rfl rfl (Nat.le_of_ble_eq_true rfl) rfl rfl (Nat.le_of_ble_eq_true rfl) (Nat.le_of_ble_eq_true rfl) (s_Tape_isWord_o16w5 e3) ?_
    rintro _ _ ⟨rfl, rfl, hz3⟩
    refine ok_if_eq (x := q3) (L := [some (.inr (.inr (.inl 17))), some (.inr (.inr (.inr 15)))]) (S := []) (M := mm V h) rfl rfl (fun c4 => ?_) (fun c4 => ?_)
    ·
      replace hf := (if_pos c4).symm.trans hf
      exact s_Tape_passWord_6_o16w5 hf
    ·
      replace hf := (if_neg c4).symm.trans hf
      obtain ⟨q5, e5, hf⟩ := obind hf
      refine ok_callA (L := [some (.inr (.inr (.inl 17))), some (.inr (.inr (.inr 15)))]) (M := mm V h) (args := [.inr (.inr (.inl 17))]) (rest := []) (y2 := 52) rfl rfl rfl (Or.inl rfl) rfl rfl (Nat.le_of_ble_eq_true rfl) rfl rfl (Nat.le_of_ble_eq_true rfl) (Nat.le_of_ble_eq_true rfl) (s_Tape_next_o16 e5) ?_
      rintro _ _ ⟨rfl, rfl⟩
      refine ok_goto (L := [some (.inr (.inr (.inl 17))), some (.inr (.inr (.inr 15)))]) (S := []) (M := mm q5 h) rfl rfl ?_
      obtain rfl := Option.some.inj hf
      refine ok_return (L := [some (.inr (.inr (.inl 17))), some (.inr (.inr (.inr 15)))]) (M := mm q5 h) rfl rfl ?_
      exact ⟨rfl, rfl⟩
set_option maxRecDepth 20000 in
set_option maxHeartbeats 4000000 in
theorem s_Tape_passWord_6_o16w6 {X : Xs} {d : Nat} {V : VV} {h : HP} {q : VV} (hf : f_Tape_passWord_6 16 17 400 6 V = some q) : Ok X (d + 7) 69 6 ([some (.inr (.inr (.inl 17))), some (.inr (.inr (.inr 16)))], [], mm V h) (fun M r => M = mm q h ∧ r = none) := by
  let QQ : Mm → Option AV → Prop := fun M r => M = mm q h ∧ r = none
  show Ok X (d + 7) 69 6 ([some (.inr (.inr (.inl 17))), some (.inr (.inr (.inr 16)))], [], mm V h) QQ
  obtain ⟨q1, e1, hf⟩ := lt_x hf
  refine ok_callA (L := [some (.inr (.inr (.inl 17))), some (.inr (.inr (.inr 16)))]) (M := mm V h) (args := [.inr (.inr (.inl 17)), .inl 1]) (rest := []) (y2 := 67) rfl rfl rfl (Or.inl rfl) rfl rfl (Nat.le_of_ble_eq_true rfl) rfl rfl (Nat.le_of_ble_eq_true rfl) (Nat.le_of_ble_eq_true rfl) (s_Tape_fail_o16 e1) ?_
  rintro _ _ ⟨rfl, rfl⟩
  obtain rfl := Option.some.inj hf
  refine ok_return (L := [some (.inr (.inr (.inl 17))), some (.inr (.inr (.inr 16)))]) (M := mm q1 h) rfl rfl ?_
  exact ⟨rfl, rfl⟩
set_option maxRecDepth 20000 in
set_option maxHeartbeats 4000000 in
theorem s_Tape_passWord_o16w6 {X : Xs} {d : Nat} {V : VV} {h : HP} {q : VV} (hf : f_Tape_passWord 16 17 400 6 V = some q) : Ok X (d + 7) 69 0 ([some (.inr (.inr (.inl 17))), some (.inr (.inr (.inr 16)))], [], mm V h) (fun M r => M = mm q h ∧ r = none) := by
  let QQ : Mm → Option AV → Prop := fun M r => M = mm q h ∧ r = none
  show Ok X (d + 7) 69 0 ([some (.inr (.inr (.inl 17))), some (.inr (.inr (.inr 16)))], [], mm V h) QQ
  refine ok_callA (L := [some (.inr (.inr (.inl 17))), some (.inr (.inr (.inr 16)))]) (M := mm V h) (args := [.inr (.inr (.inl 17))]) (rest := []) (y2 := 56) rfl rfl rfl (Or.inl rfl) rfl rfl (Nat.le_of_ble_eq_true rfl) rfl rfl (Nat.le_of_ble_eq_true rfl) (Nat.le_of_ble_eq_true rfl) (s_Tape_isSound_o16 rfl) ?_
  rintro _ _ ⟨rfl, rfl, hz1⟩
  refine ok_if_eq (x := f_Tape_isSound 16 17 400 V) (L := [some (.inr (.inr (.inl 17))), some (.inr (.inr (.inr 16)))]) (S := []) (M := mm V h) rfl rfl (fun c2 => ?_) (fun c2 => ?_)
  ·
    replace hf := (if_pos c2).symm.trans hf
    exact s_Tape_passWord_6_o16w6 hf
  ·
    replace hf := (if_neg c2).symm.trans hf
    obtain ⟨q3, e3, hf⟩ := obind hf
    refine ok_callA (L := [some (.inr (.inr (.inl 17))), some (.inr (.inr (.inr 16)))]) (M := mm V h) (args := [.inr (.inr (.inl 17)), .inr (.inr (.inr 16))]) (rest := []) (y2 := 59) rfl rfl rfl (Or.inl rfl) rfl rfl (Nat.le_of_ble_eq_true rfl) rfl rfl (Nat.le_of_ble_eq_true rfl) (Nat.le_of_ble_eq_true rfl) (s_Tape_isWord_o16w6 e3) ?_
    rintro _ _ ⟨rfl, rfl, hz3⟩
    refine ok_if_eq (x := q3) (L := [some (.inr (.inr (.inl 17))), some (.inr (.inr (.inr 16)))]) (S := []) (M := mm V h) rfl rfl (fun c4 => ?_) (fun c4 => ?_)
    ·
      replace hf := (if_pos c4).symm.trans hf
      exact s_Tape_passWord_6_o16w6 hf
    ·
      replace hf := (if_neg c4).symm.trans hf
      obtain ⟨q5, e5, hf⟩ := obind hf
      refine ok_callA (L := [some (.inr (.inr (.inl 17))), some (.inr (.inr (.inr 16)))]) (M := mm V h) (args := [.inr (.inr (.inl 17))]) (rest := []) (y2 := 52) rfl rfl rfl (Or.inl rfl) rfl rfl (Nat.le_of_ble_eq_true rfl) rfl rfl (Nat.le_of_ble_eq_true rfl) (Nat.le_of_ble_eq_true rfl) (s_Tape_next_o16 e5) ?_
      rintro _ _ ⟨rfl, rfl⟩
      refine ok_goto (L := [some (.inr (.inr (.inl 17))), some (.inr (.inr (.inr 16)))]) (S := []) (M := mm q5 h) rfl rfl ?_
      obtain rfl := Option.some.inj hf
      refine ok_return (L := [some (.inr (.inr (.inl 17))), some (.inr (.inr (.inr 16)))]) (M := mm q5 h) rfl rfl ?_
      exact ⟨rfl, rfl⟩
def f_Tape_isSign (o : Nat) (ob : Nat) (on : Nat) (V : VV) (v1 : Int) : Int := (if (V o 2) = 3 then (if (V o 3) = v1 then 1 else 0 : Int) else 0 : Int)
set_option maxRecDepth 20000 in
set_option maxHeartbeats 4000000 in
theorem s_Tape_isSign_o16 {X : Xs} {d : Nat} {V : VV} {h : HP} {v1 : Int} {q : Int} (hf : f_Tape_isSign 16 17 400 V v1 = q) : Ok X (d + 1) 71 0 ([some (.inr (.inr (.inl 17))), some (.inl v1)], [], mm V h) (fun M r => M = mm V h ∧ r = some (.inl q) ∧ (q = 0 ∨ q = 1)) := by
  let QQ : Mm → Option AV → Prop := fun M r => M = mm V h ∧ r = some (.inl q) ∧ (q = 0 ∨ q = 1)
  show Ok X (d + 1) 71 0 ([some (.inr (.inr (.inl 17))), some (.inl v1)], [], mm V h) QQ
  have JN1 : Ok X (d + 1) 71 4 ([some (.inr (.inr (.inl 17))), some (.inl v1)], [.inl (if (V 16 2) = 3 then (if (V 16 3) = v1 then 1 else 0 : Int) else 0 : Int)], mm V h) QQ := by
    have hq : ((if (V 16 2) = 3 then (if (V 16 3) = v1 then 1 else 0 : Int) else 0 : Int)) = q := hf
    subst hq
    have hz : ((if (V 16 2) = 3 then (if (V 16 3) = v1 then 1 else 0 : Int) else 0 : Int) : Int) = 0 ∨ ((if (V 16 2) = 3 then (if (V 16 3) = v1 then 1 else 0 : Int) else 0 : Int) : Int) = 1 := by
      first | exact Or.inl rfl | exact Or.inr rfl | assumption | (repeat' split) <;> first | exact Or.inl rfl | exact Or.inr rfl | assumption
    refine ok_zreturn (L := [some (.inr (.inr (.inl 17))), some (.inl v1)]) (M := mm V h) (x := (if (V 16 2) = 3 then (if (V 16 3) = v1 then 1 else 0 : Int) else 0 : Int)) rfl rfl hz ?_
    exact ⟨rfl, rfl, hz⟩
  clear hf
  refine ok_ic_ne (x := V 16 2) (u := 3) (L := [some (.inr (.inr (.inl 17))), some (.inl v1)]) (S := []) (M := mm V h) rfl rfl (fun c2 => ?_) (fun c2 => ?_)
  ·
    simp only [if_neg c2] at JN1
    refine ok_thru (L := [some (.inr (.inr (.inl 17))), some (.inl v1)]) (S := [.inl 0]) (M := mm V h) rfl rfl ?_
    first | exact JN1 | (simp only [if_neg c2]; exact JN1)
  ·
    simp only [if_pos c2] at JN1
    refine ok_ic_ne (x := V 16 3) (u := v1) (L := [some (.inr (.inr (.inl 17))), some (.inl v1)]) (S := []) (M := mm V h) rfl rfl (fun c3 => ?_) (fun c3 => ?_)
    ·
      simp only [if_neg c3] at JN1
      refine ok_thru (L := [some (.inr (.inr (.inl 17))), some (.inl v1)]) (S := [.inl 0]) (M := mm V h) rfl rfl ?_
      first | exact JN1 | (simp only [if_pos c2, if_neg c3]; exact JN1)
    ·
      simp only [if_pos c3] at JN1
      refine ok_goto (L := [some (.inr (.inr (.inl 17))), some (.inl v1)]) (S := [.inl 1]) (M := mm V h) rfl rfl ?_
      first | exact JN1 | (simp only [if_pos c2, if_pos c3]; exact JN1)
set_option maxRecDepth 20000 in
set_option maxHeartbeats 4000000 in
theorem s_Tape_isSign_o26 {X : Xs} {d : Nat} {V : VV} {h : HP} {v1 : Int} {q : Int} (hf : f_Tape_isSign 26 27 100 V v1 = q) : Ok X (d + 1) 71 0 ([some (.inr (.inr (.inl 27))), some (.inl v1)], [], mm V h) (fun M r => M = mm V h ∧ r = some (.inl q) ∧ (q = 0 ∨ q = 1)) := by
  let QQ : Mm → Option AV → Prop := fun M r => M = mm V h ∧ r = some (.inl q) ∧ (q = 0 ∨ q = 1)
  show Ok X (d + 1) 71 0 ([some (.inr (.inr (.inl 27))), some (.inl v1)], [], mm V h) QQ
  have JN1 : Ok X (d + 1) 71 4 ([some (.inr (.inr (.inl 27))), some (.inl v1)], [.inl (if (V 26 2) = 3 then (if (V 26 3) = v1 then 1 else 0 : Int) else 0 : Int)], mm V h) QQ := by
    have hq : ((if (V 26 2) = 3 then (if (V 26 3) = v1 then 1 else 0 : Int) else 0 : Int)) = q := hf
    subst hq
    have hz : ((if (V 26 2) = 3 then (if (V 26 3) = v1 then 1 else 0 : Int) else 0 : Int) : Int) = 0 ∨ ((if (V 26 2) = 3 then (if (V 26 3) = v1 then 1 else 0 : Int) else 0 : Int) : Int) = 1 := by
      first | exact Or.inl rfl | exact Or.inr rfl | assumption | (repeat' split) <;> first | exact Or.inl rfl | exact Or.inr rfl | assumption
    refine ok_zreturn (L := [some (.inr (.inr (.inl 27))), some (.inl v1)]) (M := mm V h) (x := (if (V 26 2) = 3 then (if (V 26 3) = v1 then 1 else 0 : Int) else 0 : Int)) rfl rfl hz ?_
    exact ⟨rfl, rfl, hz⟩
  clear hf
  refine ok_ic_ne (x := V 26 2) (u := 3) (L := [some (.inr (.inr (.inl 27))), some (.inl v1)]) (S := []) (M := mm V h) rfl rfl (fun c2 => ?_) (fun c2 => ?_)
  ·
    simp only [if_neg c2] at JN1
    refine ok_thru (L := [some (.inr (.inr (.inl 27))), some (.inl v1)]) (S := [.inl 0]) (M := mm V h) rfl rfl ?_
    first | exact JN1 | (simp only [if_neg c2]; exact JN1)
  ·
    simp only [if_pos c2] at JN1
    refine ok_ic_ne (x := V 26 3) (u := v1) (L := [some (.inr (.inr (.inl 27))), some (.inl v1)]) (S := []) (M := mm V h) rfl rfl (fun c3 => ?_) (fun c3 => ?_)
    ·
      simp only [if_neg c3] at JN1
      refine ok_thru (L := [some (.inr (.inr (.inl 27))), some (.inl v1)]) (S := [.inl 0]) (M := mm V h) rfl rfl ?_
      first | exact JN1 | (simp only [if_pos c2, if_neg c3]; exact JN1)
    ·
      simp only [if_pos c3] at JN1
      refine ok_goto (L := [some (.inr (.inr (.inl 27))), some (.inl v1)]) (S := [.inl 1]) (M := mm V h) rfl rfl ?_
      first | exact JN1 | (simp only [if_pos c2, if_pos c3]; exact JN1)
def f_Tape_passSign_6 (o : Nat) (ob : Nat) (on : Nat) (V : VV)  : Option (VV) := lt_ (f_Tape_fail o ob on V 1) (fun q1 => some q1)
def f_Tape_passSign (o : Nat) (ob : Nat) (on : Nat) (V : VV) (v1 : Int) : Option (VV) := if (f_Tape_isSound o ob on V) = 0 then f_Tape_passSign_6 o ob on V else if (f_Tape_isSign o ob on V v1) = 0 then f_Tape_passSign_6 o ob on V else Option.bind (f_Tape_next o ob on V) (fun q5 => some q5)
set_option maxRecDepth 20000 in
set_option maxHeartbeats 4000000 in
theorem s_Tape_passSign_6_o16 {X : Xs} {d : Nat} {V : VV} {h : HP} {w1 : Int} {q : VV} (hf : f_Tape_passSign_6 16 17 400 V = some q) : Ok X (d + 3) 70 6 ([some (.inr (.inr (.inl 17))), some (.inl w1)], [], mm V h) (fun M r => M = mm q h ∧ r = none) := by
  let QQ : Mm → Option AV → Prop := fun M r => M = mm q h ∧ r = none
  show Ok X (d + 3) 70 6 ([some (.inr (.inr (.inl 17))), some (.inl w1)], [], mm V h) QQ
  obtain ⟨q1, e1, hf⟩ := lt_x hf
  refine ok_callA (L := [some (.inr (.inr (.inl 17))), some (.inl w1)]) (M := mm V h) (args := [.inr (.inr (.inl 17)), .inl 1]) (rest := []) (y2 := 67) rfl rfl rfl (Or.inl rfl) rfl rfl (Nat.le_of_ble_eq_true rfl) rfl rfl (Nat.le_of_ble_eq_true rfl) (Nat.le_of_ble_eq_true rfl) (s_Tape_fail_o16 e1) ?_
  rintro _ _ ⟨rfl, rfl⟩
  obtain rfl := Option.some.inj hf
  refine ok_return (L := [some (.inr (.inr (.inl 17))), some (.inl w1)]) (M := mm q1 h) rfl rfl ?_
  exact ⟨rfl, rfl⟩
set_option maxRecDepth 20000 in
set_option maxHeartbeats 4000000 in
theorem s_Tape_passSign_o16 {X : Xs} {d : Nat} {V : VV} {h : HP} {v1 : Int} {q : VV} (hf : f_Tape_passSign 16 17 400 V v1 = some q) : Ok X (d + 3) 70 0 ([some (.inr (.inr (.inl 17))), some (.inl v1)], [], mm V h) (fun M r => M = mm q h ∧ r = none) := by
  let QQ : Mm → Option AV → Prop := fun M r => M = mm q h ∧ r = none
  show Ok X (d + 3) 70 0 ([some (.inr (.inr (.inl 17))), some (.inl v1)], [], mm V h) QQ
  refine ok_callA (L := [some (.inr (.inr (.inl 17))), some (.inl v1)]) (M := mm V h) (args := [.inr (.inr (.inl 17))]) (rest := []) (y2 := 56) rfl rfl rfl (Or.inl rfl) rfl rfl (Nat.le_of_ble_eq_true rfl) rfl rfl (Nat.le_of_ble_eq_true rfl) (Nat.le_of_ble_eq_true rfl) (s_Tape_isSound_o16 rfl) ?_
  rintro _ _ ⟨rfl, rfl, hz1⟩
  refine ok_if_eq (x := f_Tape_isSound 16 17 400 V) (L := [some (.inr (.inr (.inl 17))), some (.inl v1)]) (S := []) (M := mm V h) rfl rfl (fun c2 => ?_) (fun c2 => ?_)
  ·
    replace hf := (if_pos c2).symm.trans hf
    exact s_Tape_passSign_6_o16 hf
  ·
    replace hf := (if_neg c2).symm.trans hf
    refine ok_callA (L := [some (.inr (.inr (.inl 17))), some (.inl v1)]) (M := mm V h) (args := [.inr (.inr (.inl 17)), .inl v1]) (rest := []) (y2 := 71) rfl rfl rfl (Or.inl rfl) rfl rfl (Nat.le_of_ble_eq_true rfl) rfl rfl (Nat.le_of_ble_eq_true rfl) (Nat.le_of_ble_eq_true rfl) (s_Tape_isSign_o16 rfl) ?_
    rintro _ _ ⟨rfl, rfl, hz3⟩
    refine ok_if_eq (x := f_Tape_isSign 16 17 400 V v1) (L := [some (.inr (.inr (.inl 17))), some (.inl v1)]) (S := []) (M := mm V h) rfl rfl (fun c4 => ?_) (fun c4 => ?_)
    ·
      replace hf := (if_pos c4).symm.trans hf
      exact s_Tape_passSign_6_o16 hf
    ·
      replace hf := (if_neg c4).symm.trans hf
      obtain ⟨q5, e5, hf⟩ := obind hf
      refine ok_callA (L := [some (.inr (.inr (.inl 17))), some (.inl v1)]) (M := mm V h) (args := [.inr (.inr (.inl 17))]) (rest := []) (y2 := 52) rfl rfl rfl (Or.inl rfl) rfl rfl (Nat.le_of_ble_eq_true rfl) rfl rfl (Nat.le_of_ble_eq_true rfl) (Nat.le_of_ble_eq_true rfl) (s_Tape_next_o16 e5) ?_
      rintro _ _ ⟨rfl, rfl⟩
      refine ok_goto (L := [some (.inr (.inr (.inl 17))), some (.inl v1)]) (S := []) (M := mm q5 h) rfl rfl ?_
      obtain rfl := Option.some.inj hf
      refine ok_return (L := [some (.inr (.inr (.inl 17))), some (.inl v1)]) (M := mm q5 h) rfl rfl ?_
      exact ⟨rfl, rfl⟩
set_option maxRecDepth 20000 in
set_option maxHeartbeats 4000000 in
theorem s_Tape_passSign_6_o26 {X : Xs} {d : Nat} {V : VV} {h : HP} {w1 : Int} {q : VV} (hf : f_Tape_passSign_6 26 27 100 V = some q) : Ok X (d + 3) 70 6 ([some (.inr (.inr (.inl 27))), some (.inl w1)], [], mm V h) (fun M r => M = mm q h ∧ r = none) := by
  let QQ : Mm → Option AV → Prop := fun M r => M = mm q h ∧ r = none
  show Ok X (d + 3) 70 6 ([some (.inr (.inr (.inl 27))), some (.inl w1)], [], mm V h) QQ
  obtain ⟨q1, e1, hf⟩ := lt_x hf
  refine ok_callA (L := [some (.inr (.inr (.inl 27))), some (.inl w1)]) (M := mm V h) (args := [.inr (.inr (.inl 27)), .inl 1]) (rest := []) (y2 := 67) rfl rfl rfl (Or.inl rfl) rfl rfl (Nat.le_of_ble_eq_true rfl) rfl rfl (Nat.le_of_ble_eq_true rfl) (Nat.le_of_ble_eq_true rfl) (s_Tape_fail_o26 e1) ?_
  rintro _ _ ⟨rfl, rfl⟩
  obtain rfl := Option.some.inj hf
  refine ok_return (L := [some (.inr (.inr (.inl 27))), some (.inl w1)]) (M := mm q1 h) rfl rfl ?_
  exact ⟨rfl, rfl⟩
set_option maxRecDepth 20000 in
set_option maxHeartbeats 4000000 in
theorem s_Tape_passSign_o26 {X : Xs} {d : Nat} {V : VV} {h : HP} {v1 : Int} {q : VV} (hf : f_Tape_passSign 26 27 100 V v1 = some q) : Ok X (d + 3) 70 0 ([some (.inr (.inr (.inl 27))), some (.inl v1)], [], mm V h) (fun M r => M = mm q h ∧ r = none) := by
  let QQ : Mm → Option AV → Prop := fun M r => M = mm q h ∧ r = none
  show Ok X (d + 3) 70 0 ([some (.inr (.inr (.inl 27))), some (.inl v1)], [], mm V h) QQ
  refine ok_callA (L := [some (.inr (.inr (.inl 27))), some (.inl v1)]) (M := mm V h) (args := [.inr (.inr (.inl 27))]) (rest := []) (y2 := 56) rfl rfl rfl (Or.inl rfl) rfl rfl (Nat.le_of_ble_eq_true rfl) rfl rfl (Nat.le_of_ble_eq_true rfl) (Nat.le_of_ble_eq_true rfl) (s_Tape_isSound_o26 rfl) ?_
  rintro _ _ ⟨rfl, rfl, hz1⟩
  refine ok_if_eq (x := f_Tape_isSound 26 27 100 V) (L := [some (.inr (.inr (.inl 27))), some (.inl v1)]) (S := []) (M := mm V h) rfl rfl (fun c2 => ?_) (fun c2 => ?_)
  ·
    replace hf := (if_pos c2).symm.trans hf
    exact s_Tape_passSign_6_o26 hf
  ·
    replace hf := (if_neg c2).symm.trans hf
    refine ok_callA (L := [some (.inr (.inr (.inl 27))), some (.inl v1)]) (M := mm V h) (args := [.inr (.inr (.inl 27)), .inl v1]) (rest := []) (y2 := 71) rfl rfl rfl (Or.inl rfl) rfl rfl (Nat.le_of_ble_eq_true rfl) rfl rfl (Nat.le_of_ble_eq_true rfl) (Nat.le_of_ble_eq_true rfl) (s_Tape_isSign_o26 rfl) ?_
    rintro _ _ ⟨rfl, rfl, hz3⟩
    refine ok_if_eq (x := f_Tape_isSign 26 27 100 V v1) (L := [some (.inr (.inr (.inl 27))), some (.inl v1)]) (S := []) (M := mm V h) rfl rfl (fun c4 => ?_) (fun c4 => ?_)
    ·
      replace hf := (if_pos c4).symm.trans hf
      exact s_Tape_passSign_6_o26 hf
    ·
      replace hf := (if_neg c4).symm.trans hf
      obtain ⟨q5, e5, hf⟩ := obind hf
      refine ok_callA (L := [some (.inr (.inr (.inl 27))), some (.inl v1)]) (M := mm V h) (args := [.inr (.inr (.inl 27))]) (rest := []) (y2 := 52) rfl rfl rfl (Or.inl rfl) rfl rfl (Nat.le_of_ble_eq_true rfl) rfl rfl (Nat.le_of_ble_eq_true rfl) (Nat.le_of_ble_eq_true rfl) (s_Tape_next_o26 e5) ?_
      rintro _ _ ⟨rfl, rfl⟩
      refine ok_goto (L := [some (.inr (.inr (.inl 27))), some (.inl v1)]) (S := []) (M := mm q5 h) rfl rfl ?_
      obtain rfl := Option.some.inj hf
      refine ok_return (L := [some (.inr (.inr (.inl 27))), some (.inl v1)]) (M := mm q5 h) rfl rfl ?_
      exact ⟨rfl, rfl⟩
def f_Hours_passClause_33 (V : VV) (v3 : Int) : Option (VV) := some (up (up V 18 8 (w32 ((V 18 8) + 1))) 18 9 (w32 ((V 18 9) + (if v3 = 0 then 1 else 0 : Int))))
set_option maxRecDepth 20000 in
set_option maxHeartbeats 4000000 in
theorem s_Hours_passClause_33 {X : Xs} {d : Nat} {V : VV} {h : HP} {v3 : Int} {w2 : Int} {w4 : Int} {w5 : Int} {w6 : Int} {q : VV} (hf : f_Hours_passClause_33 V v3 = some q) : Ok X (d + 8) 57 33 ([some (.inr (.inr (.inl 19))), some (.inr (.inr (.inl 17))), some (.inl w2), some (.inl v3), some (.inl w4), some (.inl w5), some (.inl w6)], [], mm V h) (fun M r => M = mm q h ∧ r = none) := by
  let QQ : Mm → Option AV → Prop := fun M r => M = mm q h ∧ r = none
  show Ok X (d + 8) 57 33 ([some (.inr (.inr (.inl 19))), some (.inr (.inr (.inl 17))), some (.inl w2), some (.inl v3), some (.inl w4), some (.inl w5), some (.inl w6)], [], mm V h) QQ
  have JN1 : Ok X (d + 8) 57 36 ([some (.inr (.inr (.inl 19))), some (.inr (.inr (.inl 17))), some (.inl w2), some (.inl v3), some (.inl w4), some (.inl w5), some (.inl w6)], [.inl (if v3 = 0 then 1 else 0 : Int), .inl (V 18 9), .inr (.inr (.inl 19))], mm (up V 18 8 (w32 ((V 18 8) + 1))) h) QQ := by
    obtain rfl := Option.some.inj hf
    refine ok_return (L := [some (.inr (.inr (.inl 19))), some (.inr (.inr (.inl 17))), some (.inl w2), some (.inl v3), some (.inl w4), some (.inl w5), some (.inl w6)]) (M := mm (up (up V 18 8 (w32 ((V 18 8) + 1))) 18 9 (w32 ((V 18 9) + (if v3 = 0 then 1 else 0 : Int)))) h) rfl rfl ?_
    exact ⟨rfl, rfl⟩
  clear hf
  refine ok_if_ne (x := v3) (L := [some (.inr (.inr (.inl 19))), some (.inr (.inr (.inl 17))), some (.inl w2), some (.inl v3), some (.inl w4), some (.inl w5), some (.inl w6)]) (S := [.inl (V 18 9), .inr (.inr (.inl 19))]) (M := mm (up V 18 8 (w32 ((V 18 8) + 1))) h) rfl rfl (fun c2 => ?_) (fun c2 => ?_)
  ·
    simp only [if_neg c2] at JN1
    refine ok_thru (L := [some (.inr (.inr (.inl 19))), some (.inr (.inr (.inl 17))), some (.inl w2), some (.inl v3), some (.inl w4), some (.inl w5), some (.inl w6)]) (S := [.inl 0, .inl (V 18 9), .inr (.inr (.inl 19))]) (M := mm (up V 18 8 (w32 ((V 18 8) + 1))) h) rfl rfl ?_
    first | exact JN1 | (simp only [if_neg c2]; exact JN1)
  ·
    simp only [if_pos c2] at JN1
    refine ok_goto (L := [some (.inr (.inr (.inl 19))), some (.inr (.inr (.inl 17))), some (.inl w2), some (.inl v3), some (.inl w4), some (.inl w5), some (.inl w6)]) (S := [.inl 1, .inl (V 18 9), .inr (.inr (.inl 19))]) (M := mm (up V 18 8 (w32 ((V 18 8) + 1))) h) rfl rfl ?_
    first | exact JN1 | (simp only [if_pos c2]; exact JN1)
def f_Hours_passClause_26 (V : VV) (v2 : Int) (v3 : Int) (v4 : Int) (v5 : Int) (v6 : Int) : Option (VV) := Option.bind (f_Tape_passSign 16 17 400 V 59) (fun q1 => if v2 = 0 then f_Hours_passClause_33 q1 v3 else lt_ (setV q1 19 40 (q1 18 8) v3) (fun q3 => lt_ (setV q3 20 40 (q3 18 8) (w32 ((q3 18 9) - 1))) (fun q4 => lt_ (setV q4 21 40 (q4 18 8) v4) (fun q5 => lt_ (setV q5 22 40 (q5 18 8) v5) (fun q6 => lt_ (setV q6 23 40 (q6 18 8) v6) (fun q7 => f_Hours_passClause_33 q7 v3))))))
set_option maxRecDepth 20000 in
set_option maxHeartbeats 4000000 in
theorem s_Hours_passClause_26 {X : Xs} {d : Nat} {V : VV} {h : HP} {v2 : Int} {v3 : Int} {v4 : Int} {v5 : Int} {v6 : Int} {q : VV} (hf : f_Hours_passClause_26 V v2 v3 v4 v5 v6 = some q) : Ok X (d + 8) 57 26 ([some (.inr (.inr (.inl 19))), some (.inr (.inr (.inl 17))), some (.inl v2), some (.inl v3), some (.inl v4), some (.inl v5), some (.inl v6)], [], mm V h) (fun M r => M = mm q h ∧ r = none) := by
  let QQ : Mm → Option AV → Prop := fun M r => M = mm q h ∧ r = none
  show Ok X (d + 8) 57 26 ([some (.inr (.inr (.inl 19))), some (.inr (.inr (.inl 17))), some (.inl v2), some (.inl v3), some (.inl v4), some (.inl v5), some (.inl v6)], [], mm V h) QQ
  obtain ⟨q1, e1, hf⟩ := obind hf
  refine ok_callA (L := [some (.inr (.inr (.inl 19))), some (.inr (.inr (.inl 17))), some (.inl v2), some (.inl v3), some (.inl v4), some (.inl v5), some (.inl v6)]) (M := mm V h) (args := [.inr (.inr (.inl 17)), .inl 59]) (rest := []) (y2 := 70) rfl rfl rfl (Or.inl rfl) rfl rfl (Nat.le_of_ble_eq_true rfl) rfl rfl (Nat.le_of_ble_eq_true rfl) (Nat.le_of_ble_eq_true rfl) (s_Tape_passSign_o16 e1) ?_
  rintro _ _ ⟨rfl, rfl⟩
  refine ok_if_eq (x := v2) (L := [some (.inr (.inr (.inl 19))), some (.inr (.inr (.inl 17))), some (.inl v2), some (.inl v3), some (.inl v4), some (.inl v5), some (.inl v6)]) (S := []) (M := mm q1 h) rfl rfl (fun c2 => ?_) (fun c2 => ?_)
  ·
    replace hf := (if_pos c2).symm.trans hf
    exact s_Hours_passClause_33 hf
  ·
    replace hf := (if_neg c2).symm.trans hf
    obtain ⟨q3, e3, hf⟩ := lt_x hf
    refine ok_callA (L := [some (.inr (.inr (.inl 19))), some (.inr (.inr (.inl 17))), some (.inl v2), some (.inl v3), some (.inl v4), some (.inl v5), some (.inl v6)]) (M := mm q1 h) (args := [.inr (.inr (.inl 20)), .inl (q1 18 8), .inl v3]) (rest := []) (y2 := 9) rfl rfl rfl (Or.inr (Or.inl rfl)) rfl rfl (Nat.le_of_ble_eq_true rfl) rfl rfl (Nat.le_of_ble_eq_true rfl) (Nat.le_of_ble_eq_true rfl) (w_set rfl e3) ?_
    rintro _ _ ⟨rfl, rfl⟩
    obtain ⟨q4, e4, hf⟩ := lt_x hf
    refine ok_callA (L := [some (.inr (.inr (.inl 19))), some (.inr (.inr (.inl 17))), some (.inl v2), some (.inl v3), some (.inl v4), some (.inl v5), some (.inl v6)]) (M := mm q3 h) (args := [.inr (.inr (.inl 21)), .inl (q3 18 8), .inl (w32 ((q3 18 9) - 1))]) (rest := []) (y2 := 9) rfl rfl rfl (Or.inr (Or.inl rfl)) rfl rfl (Nat.le_of_ble_eq_true rfl) rfl rfl (Nat.le_of_ble_eq_true rfl) (Nat.le_of_ble_eq_true rfl) (w_set rfl e4) ?_
    rintro _ _ ⟨rfl, rfl⟩
    obtain ⟨q5, e5, hf⟩ := lt_x hf
    refine ok_callA (L := [some (.inr (.inr (.inl 19))), some (.inr (.inr (.inl 17))), some (.inl v2), some (.inl v3), some (.inl v4), some (.inl v5), some (.inl v6)]) (M := mm q4 h) (args := [.inr (.inr (.inl 22)), .inl (q4 18 8), .inl v4]) (rest := []) (y2 := 9) rfl rfl rfl (Or.inr (Or.inl rfl)) rfl rfl (Nat.le_of_ble_eq_true rfl) rfl rfl (Nat.le_of_ble_eq_true rfl) (Nat.le_of_ble_eq_true rfl) (w_set rfl e5) ?_
    rintro _ _ ⟨rfl, rfl⟩
    obtain ⟨q6, e6, hf⟩ := lt_x hf
    refine ok_callA (L := [some (.inr (.inr (.inl 19))), some (.inr (.inr (.inl 17))), some (.inl v2), some (.inl v3), some (.inl v4), some (.inl v5), some (.inl v6)]) (M := mm q5 h) (args := [.inr (.inr (.inl 23)), .inl (q5 18 8), .inl v5]) (rest := []) (y2 := 9) rfl rfl rfl (Or.inr (Or.inl rfl)) rfl rfl (Nat.le_of_ble_eq_true rfl) rfl rfl (Nat.le_of_ble_eq_true rfl) (Nat.le_of_ble_eq_true rfl) (w_set rfl e6) ?_
    rintro _ _ ⟨rfl, rfl⟩
    obtain ⟨q7, e7, hf⟩ := lt_x hf
    refine ok_callA (L := [some (.inr (.inr (.inl 19))), some (.inr (.inr (.inl 17))), some (.inl v2), some (.inl v3), some (.inl v4), some (.inl v5), some (.inl v6)]) (M := mm q6 h) (args := [.inr (.inr (.inl 24)), .inl (q6 18 8), .inl v6]) (rest := []) (y2 := 9) rfl rfl rfl (Or.inr (Or.inl rfl)) rfl rfl (Nat.le_of_ble_eq_true rfl) rfl rfl (Nat.le_of_ble_eq_true rfl) (Nat.le_of_ble_eq_true rfl) (w_set rfl e7) ?_
    rintro _ _ ⟨rfl, rfl⟩
    exact s_Hours_passClause_33 hf
def f_Hours_passClause_22 (V : VV) (v2 : Int) (v3 : Int) (t0 : Int) : Option (VV) := Option.bind (f_Tape_passNumber 16 17 400 V 0 4319) (fun q1 => Option.bind (f_Tape_passWord 16 17 400 6 q1.1) (fun q2 => Option.bind (f_Tape_passNumber 16 17 400 q2 q1.2 4319) (fun q3 => f_Hours_passClause_26 q3.1 v2 v3 t0 q1.2 q3.2)))
set_option maxRecDepth 20000 in
set_option maxHeartbeats 4000000 in
theorem s_Hours_passClause_22 {X : Xs} {d : Nat} {V : VV} {h : HP} {v2 : Int} {v3 : Int} {t0 : Int} {w4 : Int} {w5 : Int} {w6 : Int} {q : VV} (hf : f_Hours_passClause_22 V v2 v3 t0 = some q) : Ok X (d + 8) 57 22 ([some (.inr (.inr (.inl 19))), some (.inr (.inr (.inl 17))), some (.inl v2), some (.inl v3), some (.inl w4), some (.inl w5), some (.inl w6)], [.inl t0], mm V h) (fun M r => M = mm q h ∧ r = none) := by
  let QQ : Mm → Option AV → Prop := fun M r => M = mm q h ∧ r = none
  show Ok X (d + 8) 57 22 ([some (.inr (.inr (.inl 19))), some (.inr (.inr (.inl 17))), some (.inl v2), some (.inl v3), some (.inl w4), some (.inl w5), some (.inl w6)], [.inl t0], mm V h) QQ
  obtain ⟨q1, e1, hf⟩ := obind hf
  refine ok_callA (L := [some (.inr (.inr (.inl 19))), some (.inr (.inr (.inl 17))), some (.inl v2), some (.inl v3), some (.inl t0), some (.inl w5), some (.inl w6)]) (M := mm V h) (args := [.inr (.inr (.inl 17)), .inl 0, .inl 4319]) (rest := []) (y2 := 68) rfl rfl rfl (Or.inl rfl) rfl rfl (Nat.le_of_ble_eq_true rfl) rfl rfl (Nat.le_of_ble_eq_true rfl) (Nat.le_of_ble_eq_true rfl) (s_Tape_passNumber_o16 e1) ?_
  rintro _ _ ⟨rfl, rfl⟩
  obtain ⟨q2, e2, hf⟩ := obind hf
  refine ok_callA (L := [some (.inr (.inr (.inl 19))), some (.inr (.inr (.inl 17))), some (.inl v2), some (.inl v3), some (.inl t0), some (.inl q1.2), some (.inl w6)]) (M := mm q1.1 h) (args := [.inr (.inr (.inl 17)), .inr (.inr (.inr 16))]) (rest := []) (y2 := 69) rfl rfl rfl (Or.inl rfl) rfl rfl (Nat.le_of_ble_eq_true rfl) rfl rfl (Nat.le_of_ble_eq_true rfl) (Nat.le_of_ble_eq_true rfl) (s_Tape_passWord_o16w6 e2) ?_
  rintro _ _ ⟨rfl, rfl⟩
  obtain ⟨q3, e3, hf⟩ := obind hf
  refine ok_callA (L := [some (.inr (.inr (.inl 19))), some (.inr (.inr (.inl 17))), some (.inl v2), some (.inl v3), some (.inl t0), some (.inl q1.2), some (.inl w6)]) (M := mm q2 h) (args := [.inr (.inr (.inl 17)), .inl q1.2, .inl 4319]) (rest := []) (y2 := 68) rfl rfl rfl (Or.inl rfl) rfl rfl (Nat.le_of_ble_eq_true rfl) rfl rfl (Nat.le_of_ble_eq_true rfl) (Nat.le_of_ble_eq_true rfl) (s_Tape_passNumber_o16 e3) ?_
  rintro _ _ ⟨rfl, rfl⟩
  refine ok_thru (L := [some (.inr (.inr (.inl 19))), some (.inr (.inr (.inl 17))), some (.inl v2), some (.inl v3), some (.inl t0), some (.inl q1.2), some (.inl q3.2)]) (S := []) (M := mm q3.1 h) rfl rfl ?_
  exact s_Hours_passClause_26 hf
def f_Hours_passClause (V : VV) (v2 : Int) : Option (VV) := Option.bind (f_Hours_kindOf V) (fun q1 => if q1 = (-1) then lt_ (f_Tape_fail 16 17 400 V 1) (fun q15 => some q15) else if (V 18 8) < 40 then Option.bind (f_Tape_next 16 17 400 V) (fun q4 => if q1 = 0 then Option.bind (f_Tape_passNumber 16 17 400 q4 (q4 18 9) (min (q4 18 9) 2)) (fun q13 => f_Hours_passClause_26 q13.1 v2 q1 0 0 0) else if q1 = 1 then Option.bind (f_Tape_passNumber 16 17 400 q4 0 2) (fun q9 => Option.bind (f_Tape_passNumber 16 17 400 q9.1 1 120) (fun q10 => Option.bind (f_Tape_passWord 16 17 400 5 q10.1) (fun q11 => Option.bind (f_Tape_passNumber 16 17 400 q11 0 4319) (fun q12 => f_Hours_passClause_26 q12.1 v2 q1 q9.2 q12.2 q10.2)))) else if q1 = 2 then Option.bind (f_Tape_passNumber 16 17 400 q4 0 2) (fun q8 => f_Hours_passClause_22 q8.1 v2 q1 q8.2) else f_Hours_passClause_22 q4 v2 q1 0) else lt_ (f_Tape_fail 16 17 400 V 3) (fun q14 => some q14))
set_option maxRecDepth 20000 in
set_option maxHeartbeats 4000000 in
theorem s_Hours_passClause {X : Xs} {d : Nat} {V : VV} {h : HP} {v2 : Int} {q : VV} (hf : f_Hours_passClause V v2 = some q) : Ok X (d + 8) 57 0 ([some (.inr (.inr (.inl 19))), some (.inr (.inr (.inl 17))), some (.inl v2), none, none, none, none], [], mm V h) (fun M r => M = mm q h ∧ r = none) := by
  let QQ : Mm → Option AV → Prop := fun M r => M = mm q h ∧ r = none
  show Ok X (d + 8) 57 0 ([some (.inr (.inr (.inl 19))), some (.inr (.inr (.inl 17))), some (.inl v2), none, none, none, none], [], mm V h) QQ
  obtain ⟨q1, e1, hf⟩ := obind hf
  refine ok_callA (L := [some (.inr (.inr (.inl 19))), some (.inr (.inr (.inl 17))), some (.inl v2), none, none, none, none]) (M := mm V h) (args := [.inr (.inr (.inl 17))]) (rest := []) (y2 := 58) rfl rfl rfl (Or.inr (Or.inl rfl)) rfl rfl (Nat.le_of_ble_eq_true rfl) rfl rfl (Nat.le_of_ble_eq_true rfl) (Nat.le_of_ble_eq_true rfl) (s_Hours_kindOf e1) ?_
  rintro _ _ ⟨rfl, rfl⟩
  refine ok_ic_ne (x := q1) (u := (-1)) (L := [some (.inr (.inr (.inl 19))), some (.inr (.inr (.inl 17))), some (.inl v2), some (.inl q1), none, none, none]) (S := []) (M := mm V h) rfl rfl (fun c2 => ?_) (fun c2 => ?_)
  ·
    replace hf := (if_neg c2).symm.trans hf
    refine ok_ic_lt (x := V 18 8) (u := 40) (L := [some (.inr (.inr (.inl 19))), some (.inr (.inr (.inl 17))), some (.inl v2), some (.inl q1), none, none, none]) (S := []) (M := mm V h) rfl rfl (fun c3 => ?_) (fun c3 => ?_)
    ·
      replace hf := (if_pos c3).symm.trans hf
      obtain ⟨q4, e4, hf⟩ := obind hf
      refine ok_callA (L := [some (.inr (.inr (.inl 19))), some (.inr (.inr (.inl 17))), some (.inl v2), some (.inl q1), none, none, none]) (M := mm V h) (args := [.inr (.inr (.inl 17))]) (rest := []) (y2 := 52) rfl rfl rfl (Or.inl rfl) rfl rfl (Nat.le_of_ble_eq_true rfl) rfl rfl (Nat.le_of_ble_eq_true rfl) (Nat.le_of_ble_eq_true rfl) (s_Tape_next_o16 e4) ?_
      rintro _ _ ⟨rfl, rfl⟩
      refine ok_if_ne (x := q1) (L := [some (.inr (.inr (.inl 19))), some (.inr (.inr (.inl 17))), some (.inl v2), some (.inl q1), some (.inl 0), some (.inl 0), some (.inl 0)]) (S := []) (M := mm q4 h) rfl rfl (fun c5 => ?_) (fun c5 => ?_)
      ·
        replace hf := (if_neg c5).symm.trans hf
        refine ok_ic_ne (x := q1) (u := 1) (L := [some (.inr (.inr (.inl 19))), some (.inr (.inr (.inl 17))), some (.inl v2), some (.inl q1), some (.inl 0), some (.inl 0), some (.inl 0)]) (S := []) (M := mm q4 h) rfl rfl (fun c6 => ?_) (fun c6 => ?_)
        ·
          replace hf := (if_neg c6).symm.trans hf
          refine ok_ic_ne (x := q1) (u := 2) (L := [some (.inr (.inr (.inl 19))), some (.inr (.inr (.inl 17))), some (.inl v2), some (.inl q1), some (.inl 0), some (.inl 0), some (.inl 0)]) (S := []) (M := mm q4 h) rfl rfl (fun c7 => ?_) (fun c7 => ?_)
          ·
            replace hf := (if_neg c7).symm.trans hf
            refine ok_thru (L := [some (.inr (.inr (.inl 19))), some (.inr (.inr (.inl 17))), some (.inl v2), some (.inl q1), some (.inl 0), some (.inl 0), some (.inl 0)]) (S := [.inl 0]) (M := mm q4 h) rfl rfl ?_
            exact s_Hours_passClause_22 hf
          ·
            replace hf := (if_pos c7).symm.trans hf
            obtain ⟨q8, e8, hf⟩ := obind hf
            refine ok_callA (L := [some (.inr (.inr (.inl 19))), some (.inr (.inr (.inl 17))), some (.inl v2), some (.inl q1), some (.inl 0), some (.inl 0), some (.inl 0)]) (M := mm q4 h) (args := [.inr (.inr (.inl 17)), .inl 0, .inl 2]) (rest := []) (y2 := 68) rfl rfl rfl (Or.inl rfl) rfl rfl (Nat.le_of_ble_eq_true rfl) rfl rfl (Nat.le_of_ble_eq_true rfl) (Nat.le_of_ble_eq_true rfl) (s_Tape_passNumber_o16 e8) ?_
            rintro _ _ ⟨rfl, rfl⟩
            refine ok_goto (L := [some (.inr (.inr (.inl 19))), some (.inr (.inr (.inl 17))), some (.inl v2), some (.inl q1), some (.inl 0), some (.inl 0), some (.inl 0)]) (S := [.inl q8.2]) (M := mm q8.1 h) rfl rfl ?_
            exact s_Hours_passClause_22 hf
        ·
          replace hf := (if_pos c6).symm.trans hf
          obtain ⟨q9, e9, hf⟩ := obind hf
          refine ok_callA (L := [some (.inr (.inr (.inl 19))), some (.inr (.inr (.inl 17))), some (.inl v2), some (.inl q1), some (.inl 0), some (.inl 0), some (.inl 0)]) (M := mm q4 h) (args := [.inr (.inr (.inl 17)), .inl 0, .inl 2]) (rest := []) (y2 := 68) rfl rfl rfl (Or.inl rfl) rfl rfl (Nat.le_of_ble_eq_true rfl) rfl rfl (Nat.le_of_ble_eq_true rfl) (Nat.le_of_ble_eq_true rfl) (s_Tape_passNumber_o16 e9) ?_
          rintro _ _ ⟨rfl, rfl⟩
          obtain ⟨q10, e10, hf⟩ := obind hf
          refine ok_callA (L := [some (.inr (.inr (.inl 19))), some (.inr (.inr (.inl 17))), some (.inl v2), some (.inl q1), some (.inl q9.2), some (.inl 0), some (.inl 0)]) (M := mm q9.1 h) (args := [.inr (.inr (.inl 17)), .inl 1, .inl 120]) (rest := []) (y2 := 68) rfl rfl rfl (Or.inl rfl) rfl rfl (Nat.le_of_ble_eq_true rfl) rfl rfl (Nat.le_of_ble_eq_true rfl) (Nat.le_of_ble_eq_true rfl) (s_Tape_passNumber_o16 e10) ?_
          rintro _ _ ⟨rfl, rfl⟩
          obtain ⟨q11, e11, hf⟩ := obind hf
          refine ok_callA (L := [some (.inr (.inr (.inl 19))), some (.inr (.inr (.inl 17))), some (.inl v2), some (.inl q1), some (.inl q9.2), some (.inl 0), some (.inl q10.2)]) (M := mm q10.1 h) (args := [.inr (.inr (.inl 17)), .inr (.inr (.inr 15))]) (rest := []) (y2 := 69) rfl rfl rfl (Or.inl rfl) rfl rfl (Nat.le_of_ble_eq_true rfl) rfl rfl (Nat.le_of_ble_eq_true rfl) (Nat.le_of_ble_eq_true rfl) (s_Tape_passWord_o16w5 e11) ?_
          rintro _ _ ⟨rfl, rfl⟩
          obtain ⟨q12, e12, hf⟩ := obind hf
          refine ok_callA (L := [some (.inr (.inr (.inl 19))), some (.inr (.inr (.inl 17))), some (.inl v2), some (.inl q1), some (.inl q9.2), some (.inl 0), some (.inl q10.2)]) (M := mm q11 h) (args := [.inr (.inr (.inl 17)), .inl 0, .inl 4319]) (rest := []) (y2 := 68) rfl rfl rfl (Or.inl rfl) rfl rfl (Nat.le_of_ble_eq_true rfl) rfl rfl (Nat.le_of_ble_eq_true rfl) (Nat.le_of_ble_eq_true rfl) (s_Tape_passNumber_o16 e12) ?_
          rintro _ _ ⟨rfl, rfl⟩
          refine ok_goto (L := [some (.inr (.inr (.inl 19))), some (.inr (.inr (.inl 17))), some (.inl v2), some (.inl q1), some (.inl q9.2), some (.inl q12.2), some (.inl q10.2)]) (S := []) (M := mm q12.1 h) rfl rfl ?_
          exact s_Hours_passClause_26 hf
      ·
        replace hf := (if_pos c5).symm.trans hf
        refine ok_mmin (u := q4 18 9) (v := 2) (L := [some (.inr (.inr (.inl 19))), some (.inr (.inr (.inl 17))), some (.inl v2), some (.inl q1), some (.inl 0), some (.inl 0), some (.inl 0)]) (S := [.inl (q4 18 9), .inr (.inr (.inl 17))]) (M := mm q4 h) rfl rfl rfl (Nat.le_of_ble_eq_true rfl) ?_
        obtain ⟨q13, e13, hf⟩ := obind hf
        refine ok_callA (L := [some (.inr (.inr (.inl 19))), some (.inr (.inr (.inl 17))), some (.inl v2), some (.inl q1), some (.inl 0), some (.inl 0), some (.inl 0)]) (M := mm q4 h) (args := [.inr (.inr (.inl 17)), .inl (q4 18 9), .inl (min (q4 18 9) 2)]) (rest := []) (y2 := 68) rfl rfl rfl (Or.inl rfl) rfl rfl (Nat.le_of_ble_eq_true rfl) rfl rfl (Nat.le_of_ble_eq_true rfl) (Nat.le_of_ble_eq_true rfl) (s_Tape_passNumber_o16 e13) ?_
        rintro _ _ ⟨rfl, rfl⟩
        refine ok_goto (L := [some (.inr (.inr (.inl 19))), some (.inr (.inr (.inl 17))), some (.inl v2), some (.inl q1), some (.inl 0), some (.inl 0), some (.inl 0)]) (S := []) (M := mm q13.1 h) rfl rfl ?_
        exact s_Hours_passClause_26 hf
    ·
      replace hf := (if_neg (Int.not_lt.mpr c3)).symm.trans hf
      obtain ⟨q14, e14, hf⟩ := lt_x hf
      refine ok_callA (L := [some (.inr (.inr (.inl 19))), some (.inr (.inr (.inl 17))), some (.inl v2), some (.inl q1), none, none, none]) (M := mm V h) (args := [.inr (.inr (.inl 17)), .inl 3]) (rest := []) (y2 := 67) rfl rfl rfl (Or.inl rfl) rfl rfl (Nat.le_of_ble_eq_true rfl) rfl rfl (Nat.le_of_ble_eq_true rfl) (Nat.le_of_ble_eq_true rfl) (s_Tape_fail_o16 e14) ?_
      rintro _ _ ⟨rfl, rfl⟩
      obtain rfl := Option.some.inj hf
      refine ok_return (L := [some (.inr (.inr (.inl 19))), some (.inr (.inr (.inl 17))), some (.inl v2), some (.inl q1), none, none, none]) (M := mm q14 h) rfl rfl ?_
      exact ⟨rfl, rfl⟩
  ·
    replace hf := (if_pos c2).symm.trans hf
    obtain ⟨q15, e15, hf⟩ := lt_x hf
    refine ok_callA (L := [some (.inr (.inr (.inl 19))), some (.inr (.inr (.inl 17))), some (.inl v2), some (.inl q1), none, none, none]) (M := mm V h) (args := [.inr (.inr (.inl 17)), .inl 1]) (rest := []) (y2 := 67) rfl rfl rfl (Or.inl rfl) rfl rfl (Nat.le_of_ble_eq_true rfl) rfl rfl (Nat.le_of_ble_eq_true rfl) (Nat.le_of_ble_eq_true rfl) (s_Tape_fail_o16 e15) ?_
    rintro _ _ ⟨rfl, rfl⟩
    obtain rfl := Option.some.inj hf
    refine ok_return (L := [some (.inr (.inr (.inl 19))), some (.inr (.inr (.inl 17))), some (.inl v2), some (.inl q1), none, none, none]) (M := mm q15 h) rfl rfl ?_
    exact ⟨rfl, rfl⟩
def f_Hours_scan_2 : Nat → VV → Int → Int → (Option (VV))
  | 0, _, _, _ => none
  | n + 1, V, v2, v3 => if 40 < v3 then some V else if (f_Tape_isSound 16 17 400 V) = 0 then some V else if (V 16 2) = 0 then some V else Option.bind (f_Hours_passClause V v2) (fun q5 => f_Hours_scan_2 n q5 v2 (w32 (v3 + 1)))
set_option maxRecDepth 20000 in
set_option maxHeartbeats 4000000 in
theorem s_Hours_scan_2_n {X : Xs} {d : Nat} {h : HP} {q : VV} : ∀ (n : Nat) (V : VV) (v2 : Int) (v3 : Int), f_Hours_scan_2 n V v2 v3 = some q → Ok X (d + 9) 50 2 ([some (.inr (.inr (.inl 19))), some (.inr (.inr (.inl 17))), some (.inl v2), some (.inl v3)], [], mm V h) (fun M r => M = mm q h ∧ r = none) := by
  intro n
  induction n with
  | zero => intro V v2 v3 hf; cases hf
  | succ n ih =>
    intro V v2 v3 hf
    let QQ : Mm → Option AV → Prop := fun M r => M = mm q h ∧ r = none
    show Ok X (d + 9) 50 2 ([some (.inr (.inr (.inl 19))), some (.inr (.inr (.inl 17))), some (.inl v2), some (.inl v3)], [], mm V h) QQ
    refine ok_ic_gt (x := v3) (u := 40) (L := [some (.inr (.inr (.inl 19))), some (.inr (.inr (.inl 17))), some (.inl v2), some (.inl v3)]) (S := []) (M := mm V h) rfl rfl (fun c1 => ?_) (fun c1 => ?_)
    ·
      replace hf := (if_pos c1).symm.trans hf
      obtain rfl := Option.some.inj hf
      refine ok_return (L := [some (.inr (.inr (.inl 19))), some (.inr (.inr (.inl 17))), some (.inl v2), some (.inl v3)]) (M := mm V h) rfl rfl ?_
      exact ⟨rfl, rfl⟩
    ·
      replace hf := (if_neg (Int.not_lt.mpr c1)).symm.trans hf
      refine ok_callA (L := [some (.inr (.inr (.inl 19))), some (.inr (.inr (.inl 17))), some (.inl v2), some (.inl v3)]) (M := mm V h) (args := [.inr (.inr (.inl 17))]) (rest := []) (y2 := 56) rfl rfl rfl (Or.inl rfl) rfl rfl (Nat.le_of_ble_eq_true rfl) rfl rfl (Nat.le_of_ble_eq_true rfl) (Nat.le_of_ble_eq_true rfl) (s_Tape_isSound_o16 rfl) ?_
      rintro _ _ ⟨rfl, rfl, hz2⟩
      refine ok_if_eq (x := f_Tape_isSound 16 17 400 V) (L := [some (.inr (.inr (.inl 19))), some (.inr (.inr (.inl 17))), some (.inl v2), some (.inl v3)]) (S := []) (M := mm V h) rfl rfl (fun c3 => ?_) (fun c3 => ?_)
      ·
        replace hf := (if_pos c3).symm.trans hf
        obtain rfl := Option.some.inj hf
        refine ok_return (L := [some (.inr (.inr (.inl 19))), some (.inr (.inr (.inl 17))), some (.inl v2), some (.inl v3)]) (M := mm V h) rfl rfl ?_
        exact ⟨rfl, rfl⟩
      ·
        replace hf := (if_neg c3).symm.trans hf
        refine ok_if_eq (x := V 16 2) (L := [some (.inr (.inr (.inl 19))), some (.inr (.inr (.inl 17))), some (.inl v2), some (.inl v3)]) (S := []) (M := mm V h) rfl rfl (fun c4 => ?_) (fun c4 => ?_)
        ·
          replace hf := (if_pos c4).symm.trans hf
          obtain rfl := Option.some.inj hf
          refine ok_return (L := [some (.inr (.inr (.inl 19))), some (.inr (.inr (.inl 17))), some (.inl v2), some (.inl v3)]) (M := mm V h) rfl rfl ?_
          exact ⟨rfl, rfl⟩
        ·
          replace hf := (if_neg c4).symm.trans hf
          obtain ⟨q5, e5, hf⟩ := obind hf
          refine ok_callA (L := [some (.inr (.inr (.inl 19))), some (.inr (.inr (.inl 17))), some (.inl v2), some (.inl v3)]) (M := mm V h) (args := [.inr (.inr (.inl 19)), .inr (.inr (.inl 17)), .inl v2]) (rest := []) (y2 := 57) rfl rfl rfl (Or.inl rfl) rfl rfl (Nat.le_of_ble_eq_true rfl) rfl rfl (Nat.le_of_ble_eq_true rfl) (Nat.le_of_ble_eq_true rfl) (s_Hours_passClause e5) ?_
          rintro _ _ ⟨rfl, rfl⟩
          refine ok_goto (L := [some (.inr (.inr (.inl 19))), some (.inr (.inr (.inl 17))), some (.inl v2), some (.inl (w32 (v3 + 1)))]) (S := []) (M := mm q5 h) rfl rfl ?_
          exact ih q5 v2 (w32 (v3 + 1)) hf
theorem s_Hours_scan_2 {X : Xs} {d : Nat} {h : HP} {V : VV} {v2 : Int} {v3 : Int} {n : Nat} {q : VV} (hf : f_Hours_scan_2 n V v2 v3 = some q) : Ok X (d + 9) 50 2 ([some (.inr (.inr (.inl 19))), some (.inr (.inr (.inl 17))), some (.inl v2), some (.inl v3)], [], mm V h) (fun M r => M = mm q h ∧ r = none) :=
  s_Hours_scan_2_n n V v2 v3 hf
def f_Hours_scan (V : VV) (v2 : Int) : Option (VV) := Option.bind (f_Tape_start 16 17 400 (up (up V 18 8 0) 18 9 0)) (fun q1 => f_Hours_scan_2 FU q1 v2 0)
set_option maxRecDepth 20000 in
set_option maxHeartbeats 4000000 in
theorem s_Hours_scan {X : Xs} {d : Nat} {V : VV} {h : HP} {v2 : Int} {q : VV} (hf : f_Hours_scan V v2 = some q) : Ok X (d + 9) 50 0 ([some (.inr (.inr (.inl 19))), some (.inr (.inr (.inl 17))), some (.inl v2), none], [], mm V h) (fun M r => M = mm q h ∧ r = none) := by
  let QQ : Mm → Option AV → Prop := fun M r => M = mm q h ∧ r = none
  show Ok X (d + 9) 50 0 ([some (.inr (.inr (.inl 19))), some (.inr (.inr (.inl 17))), some (.inl v2), none], [], mm V h) QQ
  obtain ⟨q1, e1, hf⟩ := obind hf
  refine ok_callA (L := [some (.inr (.inr (.inl 19))), some (.inr (.inr (.inl 17))), some (.inl v2), none]) (M := mm (up (up V 18 8 0) 18 9 0) h) (args := [.inr (.inr (.inl 17))]) (rest := []) (y2 := 51) rfl rfl rfl (Or.inl rfl) rfl rfl (Nat.le_of_ble_eq_true rfl) rfl rfl (Nat.le_of_ble_eq_true rfl) (Nat.le_of_ble_eq_true rfl) (s_Tape_start_o16 e1) ?_
  rintro _ _ ⟨rfl, rfl⟩
  refine ok_thru (L := [some (.inr (.inr (.inl 19))), some (.inr (.inr (.inl 17))), some (.inl v2), some (.inl 0)]) (S := []) (M := mm q1 h) rfl rfl ?_
  exact s_Hours_scan_2 hf
