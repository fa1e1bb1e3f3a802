/-! shallow functions of the program (printed by wip/tools/gen20.py) -/
def f_Tape_addFour_1 : Nat → VV → Int → Int → (Option (VV))
  | 0, _, _, _ => none
  | n + 1, V, v1, v2 => if v2 < 0 then some V else lt_ (setV V 17 400 (V 16 1) (iandI (iushrI v1 v2) 255)) (fun q2 => f_Tape_addFour_1 n (up q2 16 1 (w32 ((q2 16 1) + 1))) v1 (w32 (v2 + (-8))))
set_option maxRecDepth 20000 in
set_option maxHeartbeats 4000000 in
theorem s_Tape_addFour_1_n {X : Xs} {d : Nat} {h : HP} {q : VV} : ∀ (n : Nat) (V : VV) (v1 : Int) (v2 : Int), f_Tape_addFour_1 n V v1 v2 = some q → Ok X (d + 2) 8 1 ([some (.inr (.inr (.inl 17))), some (.inl v1), some (.inl v2)], [], mm V h) (fun M r => M = mm q h ∧ r = none) := by
  intro n
  induction n with
  | zero => intro V v1 v2 hf; cases hf
  | succ n ih =>
    intro V v1 v2 hf
    let QQ : Mm → Option AV → Prop := fun M r => M = mm q h ∧ r = none
    show Ok X (d + 2) 8 1 ([some (.inr (.inr (.inl 17))), some (.inl v1), some (.inl v2)], [], mm V h) QQ
    refine ok_if_lt (x := v2) (L := [some (.inr (.inr (.inl 17))), some (.inl v1), some (.inl v2)]) (S := []) (M := mm V h) rfl rfl (fun c1 => ?_) (fun c1 => ?_)
    ·
      replace hf := (if_pos c1).symm.trans hf
      obtain rfl := Option.some.inj hf
      refine ok_return (L := [some (.inr (.inr (.inl 17))), some (.inl v1), some (.inl v2)]) (M := mm V h) rfl rfl ?_
      exact ⟨rfl, rfl⟩
    ·
      replace hf := (if_neg (Int.not_lt.mpr c1)).symm.trans hf
      obtain ⟨q2, e2, hf⟩ := lt_x hf
      refine ok_callA (L := [some (.inr (.inr (.inl 17))), some (.inl v1), some (.inl v2)]) (M := mm V h) (args := [.inr (.inr (.inl 18)), .inl (V 16 1), .inl (iandI (iushrI v1 v2) 255)]) (rest := []) (y2 := 9) rfl rfl rfl (Or.inr (Or.inl rfl)) rfl rfl (Nat.le_of_ble_eq_true rfl) rfl rfl (Nat.le_of_ble_eq_true rfl) (Nat.le_of_ble_eq_true rfl) (w_set rfl e2) ?_
      rintro _ _ ⟨rfl, rfl⟩
      refine ok_goto (L := [some (.inr (.inr (.inl 17))), some (.inl v1), some (.inl (w32 (v2 + (-8))))]) (S := []) (M := mm (up q2 16 1 (w32 ((q2 16 1) + 1))) h) rfl rfl ?_
      exact ih (up q2 16 1 (w32 ((q2 16 1) + 1))) v1 (w32 (v2 + (-8))) hf
theorem s_Tape_addFour_1 {X : Xs} {d : Nat} {h : HP} {V : VV} {v1 : Int} {v2 : Int} {n : Nat} {q : VV} (hf : f_Tape_addFour_1 n V v1 v2 = some q) : Ok X (d + 2) 8 1 ([some (.inr (.inr (.inl 17))), some (.inl v1), some (.inl v2)], [], mm V h) (fun M r => M = mm q h ∧ r = none) :=
  s_Tape_addFour_1_n n V v1 v2 hf
def f_Tape_addFour (V : VV) (v1 : Int) : Option (VV) := f_Tape_addFour_1 FU V v1 24
set_option maxRecDepth 20000 in
set_option maxHeartbeats 4000000 in
theorem s_Tape_addFour {X : Xs} {d : Nat} {V : VV} {h : HP} {v1 : Int} {q : VV} (hf : f_Tape_addFour V v1 = some q) : Ok X (d + 2) 8 0 ([some (.inr (.inr (.inl 17))), some (.inl v1), none], [], mm V h) (fun M r => M = mm q h ∧ r = none) := by
  let QQ : Mm → Option AV → Prop := fun M r => M = mm q h ∧ r = none
  show Ok X (d + 2) 8 0 ([some (.inr (.inr (.inl 17))), some (.inl v1), none], [], mm V h) QQ
  refine ok_thru (L := [some (.inr (.inr (.inl 17))), some (.inl v1), some (.inl 24)]) (S := []) (M := mm V h) rfl rfl ?_
  exact s_Tape_addFour_1 hf
def f_Paving_forget (V : VV)  : VV := up V 46 7 0
set_option maxRecDepth 20000 in
set_option maxHeartbeats 4000000 in
theorem s_Paving_forget {X : Xs} {d : Nat} {V : VV} {h : HP} {q : VV} (hf : f_Paving_forget V = q) : Ok X (d + 1) 30 0 ([some (.inr (.inr (.inl 47)))], [], mm V h) (fun M r => M = mm q h ∧ r = none) := by
  let QQ : Mm → Option AV → Prop := fun M r => M = mm q h ∧ r = none
  show Ok X (d + 1) 30 0 ([some (.inr (.inr (.inl 47)))], [], mm V h) QQ
  have hq : (up V 46 7 0) = q := hf
  subst hq
  refine ok_return (L := [some (.inr (.inr (.inl 47)))]) (M := mm (up V 46 7 0) h) rfl rfl ?_
  exact ⟨rfl, rfl⟩
def f_Br_changed (V : VV)  : VV := lt_ (f_Paving_forget V) (fun q1 => lt_ (fillV (up q1 0 15 (-2)) 61 21 (-2)) (fun q2 => q2))
set_option maxRecDepth 20000 in
set_option maxHeartbeats 4000000 in
theorem s_Br_changed {X : Xs} {d : Nat} {V : VV} {h : HP} {q : VV} (hf : f_Br_changed V = q) : Ok X (d + 2) 29 0 ([some (.inr (.inr (.inl 1)))], [], mm V h) (fun M r => M = mm q h ∧ r = none) := by
  let QQ : Mm → Option AV → Prop := fun M r => M = mm q h ∧ r = none
  show Ok X (d + 2) 29 0 ([some (.inr (.inr (.inl 1)))], [], mm V h) QQ
  obtain ⟨q1, e1, hf⟩ := lt_x hf
  refine ok_callA (L := [some (.inr (.inr (.inl 1)))]) (M := mm V h) (args := [.inr (.inr (.inl 47))]) (rest := []) (y2 := 30) rfl rfl rfl (Or.inl rfl) rfl rfl (Nat.le_of_ble_eq_true rfl) rfl rfl (Nat.le_of_ble_eq_true rfl) (Nat.le_of_ble_eq_true rfl) (s_Paving_forget e1) ?_
  rintro _ _ ⟨rfl, rfl⟩
  obtain ⟨q2, e2, hf⟩ := lt_x hf
  refine ok_callA (L := [some (.inr (.inr (.inl 1)))]) (M := mm (up q1 0 15 (-2)) h) (args := [.inr (.inr (.inl 62)), .inl (-2)]) (rest := []) (y2 := 6) rfl rfl rfl (Or.inr (Or.inl rfl)) rfl rfl (Nat.le_of_ble_eq_true rfl) rfl rfl (Nat.le_of_ble_eq_true rfl) (Nat.le_of_ble_eq_true rfl) (w_fill rfl (by decide) e2) ?_
  rintro _ _ ⟨rfl, rfl⟩
  have hq : (q2) = q := hf
  subst hq
  refine ok_return (L := [some (.inr (.inr (.inl 1)))]) (M := mm q2 h) rfl rfl ?_
  exact ⟨rfl, rfl⟩
def f_Br_section (V : VV) (v1 : Int) (v2 : Int) : Option (VV × Int) := if (isFromV v1 10 500) = 0 then some (V, (-1)) else if (isFromV v2 0 60) = 0 then some (V, (-1)) else Option.bind (f_Road_addSection V v1 v2) (fun q5 => lt_ (f_Br_changed q5.1) (fun q6 => some (q6, q5.2)))
set_option maxRecDepth 20000 in
set_option maxHeartbeats 4000000 in
theorem s_Br_section {X : Xs} {d : Nat} {V : VV} {h : HP} {v1 : Int} {v2 : Int} {q : VV × Int} (hf : f_Br_section V v1 v2 = some q) : Ok X (d + 7) 15 0 ([some (.inr (.inr (.inl 1))), some (.inl v1), some (.inl v2), none], [], mm V h) (fun M r => M = mm q.1 h ∧ r = some (.inl q.2)) := by
  let QQ : Mm → Option AV → Prop := fun M r => M = mm q.1 h ∧ r = some (.inl q.2)
  show Ok X (d + 7) 15 0 ([some (.inr (.inr (.inl 1))), some (.inl v1), some (.inl v2), none], [], mm V h) QQ
  refine ok_callA (L := [some (.inr (.inr (.inl 1))), some (.inl v1), some (.inl v2), none]) (M := mm V h) (args := [.inl v1, .inl 10, .inl 500]) (rest := []) (y2 := 16) rfl rfl rfl (Or.inr (Or.inl rfl)) rfl rfl (Nat.le_of_ble_eq_true rfl) rfl rfl (Nat.le_of_ble_eq_true rfl) (Nat.le_of_ble_eq_true rfl) (w_isFrom rfl) ?_
  rintro _ _ ⟨rfl, rfl, hz1⟩
  refine ok_if_eq (x := isFromV v1 10 500) (L := [some (.inr (.inr (.inl 1))), some (.inl v1), some (.inl v2), none]) (S := []) (M := mm V h) rfl rfl (fun c2 => ?_) (fun c2 => ?_)
  ·
    replace hf := (if_pos c2).symm.trans hf
    obtain rfl := Option.some.inj hf
    refine ok_ireturn (L := [some (.inr (.inr (.inl 1))), some (.inl v1), some (.inl v2), none]) (M := mm V h) (x := (-1)) rfl rfl ?_
    exact ⟨rfl, rfl⟩
  ·
    replace hf := (if_neg c2).symm.trans hf
    refine ok_callA (L := [some (.inr (.inr (.inl 1))), some (.inl v1), some (.inl v2), none]) (M := mm V h) (args := [.inl v2, .inl 0, .inl 60]) (rest := []) (y2 := 16) rfl rfl rfl (Or.inr (Or.inl rfl)) rfl rfl (Nat.le_of_ble_eq_true rfl) rfl rfl (Nat.le_of_ble_eq_true rfl) (Nat.le_of_ble_eq_true rfl) (w_isFrom rfl) ?_
    rintro _ _ ⟨rfl, rfl, hz3⟩
    refine ok_if_ne (x := isFromV v2 0 60) (L := [some (.inr (.inr (.inl 1))), some (.inl v1), some (.inl v2), none]) (S := []) (M := mm V h) rfl rfl (fun c4 => ?_) (fun c4 => ?_)
    ·
      replace hf := (if_neg c4).symm.trans hf
      obtain ⟨q5, e5, hf⟩ := obind hf
      refine ok_callA (L := [some (.inr (.inr (.inl 1))), some (.inl v1), some (.inl v2), none]) (M := mm V h) (args := [.inr (.inr (.inl 2)), .inl v1, .inl v2]) (rest := []) (y2 := 17) rfl rfl rfl (Or.inl rfl) rfl rfl (Nat.le_of_ble_eq_true rfl) rfl rfl (Nat.le_of_ble_eq_true rfl) (Nat.le_of_ble_eq_true rfl) (s_Road_addSection e5) ?_
      rintro _ _ ⟨rfl, rfl⟩
      obtain ⟨q6, e6, hf⟩ := lt_x hf
      refine ok_callA (L := [some (.inr (.inr (.inl 1))), some (.inl v1), some (.inl v2), some (.inl q5.2)]) (M := mm q5.1 h) (args := [.inr (.inr (.inl 1))]) (rest := []) (y2 := 29) rfl rfl rfl (Or.inl rfl) rfl rfl (Nat.le_of_ble_eq_true rfl) rfl rfl (Nat.le_of_ble_eq_true rfl) (Nat.le_of_ble_eq_true rfl) (s_Br_changed e6) ?_
      rintro _ _ ⟨rfl, rfl⟩
      obtain rfl := Option.some.inj hf
      refine ok_ireturn (L := [some (.inr (.inr (.inl 1))), some (.inl v1), some (.inl v2), some (.inl q5.2)]) (M := mm q6 h) (x := q5.2) rfl rfl ?_
      exact ⟨rfl, rfl⟩
    ·
      replace hf := (if_pos c4).symm.trans hf
      obtain rfl := Option.some.inj hf
      refine ok_ireturn (L := [some (.inr (.inr (.inl 1))), some (.inl v1), some (.inl v2), none]) (M := mm V h) (x := (-1)) rfl rfl ?_
      exact ⟨rfl, rfl⟩
def f_Br_even (V : VV) (v1 : Int) (v2 : Int) (v3 : Int) (v4 : Int) (v5 : Int) : Option (VV × Int) := if (isFromV v1 20 120) = 0 then some (V, 0) else if (isFromV v2 0 9) = 0 then some (V, 0) else if (isFromV v3 0 20) = 0 then some (V, 0) else if (isFromV v4 1 9) = 0 then some (V, 0) else if (isFromV v5 1 9) = 0 then some (V, 0) else Option.bind (f_Road_settle (up (up (up (up (up V 1 10 v1) 1 11 v2) 1 12 v3) 1 13 v4) 1 14 v5)) (fun q11 => lt_ (f_Br_changed q11) (fun q12 => some (q12, 1)))
set_option maxRecDepth 20000 in
set_option maxHeartbeats 4000000 in
theorem s_Br_even {X : Xs} {d : Nat} {V : VV} {h : HP} {v1 : Int} {v2 : Int} {v3 : Int} {v4 : Int} {v5 : Int} {q : VV × Int} (hf : f_Br_even V v1 v2 v3 v4 v5 = some q) : Ok X (d + 6) 31 0 ([some (.inr (.inr (.inl 1))), some (.inl v1), some (.inl v2), some (.inl v3), some (.inl v4), some (.inl v5)], [], mm V h) (fun M r => M = mm q.1 h ∧ r = some (.inl q.2) ∧ (q.2 = 0 ∨ q.2 = 1)) := by
  let QQ : Mm → Option AV → Prop := fun M r => M = mm q.1 h ∧ r = some (.inl q.2) ∧ (q.2 = 0 ∨ q.2 = 1)
  show Ok X (d + 6) 31 0 ([some (.inr (.inr (.inl 1))), some (.inl v1), some (.inl v2), some (.inl v3), some (.inl v4), some (.inl v5)], [], mm V h) QQ
  refine ok_callA (L := [some (.inr (.inr (.inl 1))), some (.inl v1), some (.inl v2), some (.inl v3), some (.inl v4), some (.inl v5)]) (M := mm V h) (args := [.inl v1, .inl 20, .inl 120]) (rest := []) (y2 := 16) rfl rfl rfl (Or.inr (Or.inl rfl)) rfl rfl (Nat.le_of_ble_eq_true rfl) rfl rfl (Nat.le_of_ble_eq_true rfl) (Nat.le_of_ble_eq_true rfl) (w_isFrom rfl) ?_
  rintro _ _ ⟨rfl, rfl, hz1⟩
  refine ok_if_eq (x := isFromV v1 20 120) (L := [some (.inr (.inr (.inl 1))), some (.inl v1), some (.inl v2), some (.inl v3), some (.inl v4), some (.inl v5)]) (S := []) (M := mm V h) rfl rfl (fun c2 => ?_) (fun c2 => ?_)
  ·
    replace hf := (if_pos c2).symm.trans hf
    obtain rfl := Option.some.inj hf
    have hz : (0 : Int) = 0 ∨ (0 : Int) = 1 := by
      first | exact Or.inl rfl | exact Or.inr rfl | assumption | (repeat' split) <;> first | exact Or.inl rfl | exact Or.inr rfl | assumption
    refine ok_zreturn (L := [some (.inr (.inr (.inl 1))), some (.inl v1), some (.inl v2), some (.inl v3), some (.inl v4), some (.inl v5)]) (M := mm V h) (x := 0) rfl rfl hz ?_
    exact ⟨rfl, rfl, hz⟩
  ·
    replace hf := (if_neg c2).symm.trans hf
    refine ok_callA (L := [some (.inr (.inr (.inl 1))), some (.inl v1), some (.inl v2), some (.inl v3), some (.inl v4), some (.inl v5)]) (M := mm V h) (args := [.inl v2, .inl 0, .inl 9]) (rest := []) (y2 := 16) rfl rfl rfl (Or.inr (Or.inl rfl)) rfl rfl (Nat.le_of_ble_eq_true rfl) rfl rfl (Nat.le_of_ble_eq_true rfl) (Nat.le_of_ble_eq_true rfl) (w_isFrom rfl) ?_
    rintro _ _ ⟨rfl, rfl, hz3⟩
    refine ok_if_eq (x := isFromV v2 0 9) (L := [some (.inr (.inr (.inl 1))), some (.inl v1), some (.inl v2), some (.inl v3), some (.inl v4), some (.inl v5)]) (S := []) (M := mm V h) rfl rfl (fun c4 => ?_) (fun c4 => ?_)
    ·
      replace hf := (if_pos c4).symm.trans hf
      obtain rfl := Option.some.inj hf
      have hz : (0 : Int) = 0 ∨ (0 : Int) = 1 := by
        first | exact Or.inl rfl | exact Or.inr rfl | assumption | (repeat' split) <;> first | exact Or.inl rfl | exact Or.inr rfl | assumption
      refine ok_zreturn (L := [some (.inr (.inr (.inl 1))), some (.inl v1), some (.inl v2), some (.inl v3), some (.inl v4), some (.inl v5)]) (M := mm V h) (x := 0) rfl rfl hz ?_
      exact ⟨rfl, rfl, hz⟩
    ·
      replace hf := (if_neg c4).symm.trans hf
      refine ok_callA (L := [some (.inr (.inr (.inl 1))), some (.inl v1), some (.inl v2), some (.inl v3), some (.inl v4), some (.inl v5)]) (M := mm V h) (args := [.inl v3, .inl 0, .inl 20]) (rest := []) (y2 := 16) rfl rfl rfl (Or.inr (Or.inl rfl)) rfl rfl (Nat.le_of_ble_eq_true rfl) rfl rfl (Nat.le_of_ble_eq_true rfl) (Nat.le_of_ble_eq_true rfl) (w_isFrom rfl) ?_
      rintro _ _ ⟨rfl, rfl, hz5⟩
      refine ok_if_eq (x := isFromV v3 0 20) (L := [some (.inr (.inr (.inl 1))), some (.inl v1), some (.inl v2), some (.inl v3), some (.inl v4), some (.inl v5)]) (S := []) (M := mm V h) rfl rfl (fun c6 => ?_) (fun c6 => ?_)
      ·
        replace hf := (if_pos c6).symm.trans hf
        obtain rfl := Option.some.inj hf
        have hz : (0 : Int) = 0 ∨ (0 : Int) = 1 := by
          first | exact Or.inl rfl | exact Or.inr rfl | assumption | (repeat' split) <;> first | exact Or.inl rfl | exact Or.inr rfl | assumption
        refine ok_zreturn (L := [some (.inr (.inr (.inl 1))), some (.inl v1), some (.inl v2), some (.inl v3), some (.inl v4), some (.inl v5)]) (M := mm V h) (x := 0) rfl rfl hz ?_
        exact ⟨rfl, rfl, hz⟩
      ·
        replace hf := (if_neg c6).symm.trans hf
        refine ok_callA (L := [some (.inr (.inr (.inl 1))), some (.inl v1), some (.inl v2), some (.inl v3), some (.inl v4), some (.inl v5)]) (M := mm V h) (args := [.inl v4, .inl 1, .inl 9]) (rest := []) (y2 := 16) rfl rfl rfl (Or.inr (Or.inl rfl)) rfl rfl (Nat.le_of_ble_eq_true rfl) rfl rfl (Nat.le_of_ble_eq_true rfl) (Nat.le_of_ble_eq_true rfl) (w_isFrom rfl) ?_
        rintro _ _ ⟨rfl, rfl, hz7⟩
        refine ok_if_eq (x := isFromV v4 1 9) (L := [some (.inr (.inr (.inl 1))), some (.inl v1), some (.inl v2), some (.inl v3), some (.inl v4), some (.inl v5)]) (S := []) (M := mm V h) rfl rfl (fun c8 => ?_) (fun c8 => ?_)
        ·
          replace hf := (if_pos c8).symm.trans hf
          obtain rfl := Option.some.inj hf
          have hz : (0 : Int) = 0 ∨ (0 : Int) = 1 := by
            first | exact Or.inl rfl | exact Or.inr rfl | assumption | (repeat' split) <;> first | exact Or.inl rfl | exact Or.inr rfl | assumption
          refine ok_zreturn (L := [some (.inr (.inr (.inl 1))), some (.inl v1), some (.inl v2), some (.inl v3), some (.inl v4), some (.inl v5)]) (M := mm V h) (x := 0) rfl rfl hz ?_
          exact ⟨rfl, rfl, hz⟩
        ·
          replace hf := (if_neg c8).symm.trans hf
          refine ok_callA (L := [some (.inr (.inr (.inl 1))), some (.inl v1), some (.inl v2), some (.inl v3), some (.inl v4), some (.inl v5)]) (M := mm V h) (args := [.inl v5, .inl 1, .inl 9]) (rest := []) (y2 := 16) rfl rfl rfl (Or.inr (Or.inl rfl)) rfl rfl (Nat.le_of_ble_eq_true rfl) rfl rfl (Nat.le_of_ble_eq_true rfl) (Nat.le_of_ble_eq_true rfl) (w_isFrom rfl) ?_
          rintro _ _ ⟨rfl, rfl, hz9⟩
          refine ok_if_ne (x := isFromV v5 1 9) (L := [some (.inr (.inr (.inl 1))), some (.inl v1), some (.inl v2), some (.inl v3), some (.inl v4), some (.inl v5)]) (S := []) (M := mm V h) rfl rfl (fun c10 => ?_) (fun c10 => ?_)
          ·
            replace hf := (if_neg c10).symm.trans hf
            obtain ⟨q11, e11, hf⟩ := obind hf
            refine ok_callA (L := [some (.inr (.inr (.inl 1))), some (.inl v1), some (.inl v2), some (.inl v3), some (.inl v4), some (.inl v5)]) (M := mm (up (up (up (up (up V 1 10 v1) 1 11 v2) 1 12 v3) 1 13 v4) 1 14 v5) h) (args := [.inr (.inr (.inl 2))]) (rest := []) (y2 := 18) rfl rfl rfl (Or.inl rfl) rfl rfl (Nat.le_of_ble_eq_true rfl) rfl rfl (Nat.le_of_ble_eq_true rfl) (Nat.le_of_ble_eq_true rfl) (s_Road_settle e11) ?_
            rintro _ _ ⟨rfl, rfl⟩
            obtain ⟨q12, e12, hf⟩ := lt_x hf
            refine ok_callA (L := [some (.inr (.inr (.inl 1))), some (.inl v1), some (.inl v2), some (.inl v3), some (.inl v4), some (.inl v5)]) (M := mm q11 h) (args := [.inr (.inr (.inl 1))]) (rest := []) (y2 := 29) rfl rfl rfl (Or.inl rfl) rfl rfl (Nat.le_of_ble_eq_true rfl) rfl rfl (Nat.le_of_ble_eq_true rfl) (Nat.le_of_ble_eq_true rfl) (s_Br_changed e12) ?_
            rintro _ _ ⟨rfl, rfl⟩
            obtain rfl := Option.some.inj hf
            have hz : (1 : Int) = 0 ∨ (1 : Int) = 1 := by
              first | exact Or.inl rfl | exact Or.inr rfl | assumption | (repeat' split) <;> first | exact Or.inl rfl | exact Or.inr rfl | assumption
            refine ok_zreturn (L := [some (.inr (.inr (.inl 1))), some (.inl v1), some (.inl v2), some (.inl v3), some (.inl v4), some (.inl v5)]) (M := mm q12 h) (x := 1) rfl rfl hz ?_
            exact ⟨rfl, rfl, hz⟩
          ·
            replace hf := (if_pos c10).symm.trans hf
            obtain rfl := Option.some.inj hf
            have hz : (0 : Int) = 0 ∨ (0 : Int) = 1 := by
              first | exact Or.inl rfl | exact Or.inr rfl | assumption | (repeat' split) <;> first | exact Or.inl rfl | exact Or.inr rfl | assumption
            refine ok_zreturn (L := [some (.inr (.inr (.inl 1))), some (.inl v1), some (.inl v2), some (.inl v3), some (.inl v4), some (.inl v5)]) (M := mm V h) (x := 0) rfl rfl hz ?_
            exact ⟨rfl, rfl, hz⟩
def f_Br_levels (V : VV)  : Int := V 1 15
set_option maxRecDepth 20000 in
set_option maxHeartbeats 4000000 in
theorem s_Br_levels {X : Xs} {d : Nat} {V : VV} {h : HP} {q : Int} (hf : f_Br_levels V = q) : Ok X (d + 1) 32 0 ([some (.inr (.inr (.inl 1)))], [], mm V h) (fun M r => M = mm V h ∧ r = some (.inl q)) := by
  let QQ : Mm → Option AV → Prop := fun M r => M = mm V h ∧ r = some (.inl q)
  show Ok X (d + 1) 32 0 ([some (.inr (.inr (.inl 1)))], [], mm V h) QQ
  have hq : (V 1 15) = q := hf
  subst hq
  refine ok_ireturn (L := [some (.inr (.inr (.inl 1)))]) (M := mm V h) (x := V 1 15) rfl rfl ?_
  exact ⟨rfl, rfl⟩
def f_Br_level (V : VV) (v1 : Int) : Int := if (V 1 15) = (-1) then (-1) else if (isFromV v1 0 (w32 ((V 1 8) - 1))) = 0 then (-1) else atV V 4 12 v1
set_option maxRecDepth 20000 in
set_option maxHeartbeats 4000000 in
theorem s_Br_level {X : Xs} {d : Nat} {V : VV} {h : HP} {v1 : Int} {q : Int} (hf : f_Br_level V v1 = q) : Ok X (d + 2) 33 0 ([some (.inr (.inr (.inl 1))), some (.inl v1)], [], mm V h) (fun M r => M = mm V h ∧ r = some (.inl q)) := by
  let QQ : Mm → Option AV → Prop := fun M r => M = mm V h ∧ r = some (.inl q)
  show Ok X (d + 2) 33 0 ([some (.inr (.inr (.inl 1))), some (.inl v1)], [], mm V h) QQ
  refine ok_ic_eq (x := V 1 15) (u := (-1)) (L := [some (.inr (.inr (.inl 1))), some (.inl v1)]) (S := []) (M := mm V h) rfl rfl (fun c1 => ?_) (fun c1 => ?_)
  ·
    replace hf := (if_pos c1).symm.trans hf
    have hq : ((-1)) = q := hf
    subst hq
    refine ok_ireturn (L := [some (.inr (.inr (.inl 1))), some (.inl v1)]) (M := mm V h) (x := (-1)) rfl rfl ?_
    exact ⟨rfl, rfl⟩
  ·
    replace hf := (if_neg c1).symm.trans hf
    refine ok_callA (L := [some (.inr (.inr (.inl 1))), some (.inl v1)]) (M := mm V h) (args := [.inl v1, .inl 0, .inl (w32 ((V 1 8) - 1))]) (rest := []) (y2 := 16) rfl rfl rfl (Or.inr (Or.inl rfl)) rfl rfl (Nat.le_of_ble_eq_true rfl) rfl rfl (Nat.le_of_ble_eq_true rfl) (Nat.le_of_ble_eq_true rfl) (w_isFrom rfl) ?_
    rintro _ _ ⟨rfl, rfl, hz2⟩
    refine ok_if_ne (x := isFromV v1 0 (w32 ((V 1 8) - 1))) (L := [some (.inr (.inr (.inl 1))), some (.inl v1)]) (S := []) (M := mm V h) rfl rfl (fun c3 => ?_) (fun c3 => ?_)
    ·
      replace hf := (if_neg c3).symm.trans hf
      refine ok_callA (L := [some (.inr (.inr (.inl 1))), some (.inl v1)]) (M := mm V h) (args := [.inr (.inr (.inl 5)), .inl v1]) (rest := []) (y2 := 21) rfl rfl rfl (Or.inr (Or.inl rfl)) rfl rfl (Nat.le_of_ble_eq_true rfl) rfl rfl (Nat.le_of_ble_eq_true rfl) (Nat.le_of_ble_eq_true rfl) (w_at rfl rfl) ?_
      rintro _ _ ⟨rfl, rfl⟩
      have hq : (atV V 4 12 v1) = q := hf
      subst hq
      refine ok_ireturn (L := [some (.inr (.inr (.inl 1))), some (.inl v1)]) (M := mm V h) (x := atV V 4 12 v1) rfl rfl ?_
      exact ⟨rfl, rfl⟩
    ·
      replace hf := (if_pos c3).symm.trans hf
      have hq : ((-1)) = q := hf
      subst hq
      refine ok_ireturn (L := [some (.inr (.inr (.inl 1))), some (.inl v1)]) (M := mm V h) (x := (-1)) rfl rfl ?_
      exact ⟨rfl, rfl⟩
def f_Br_layer (V : VV) (v1 : Int) (v2 : Int) : Option (VV × Int) := if (isFromV v1 20 200) = 0 then some (V, (-1)) else if (isFromV v2 0 2) = 0 then some (V, (-1)) else Option.bind (f_Road_addLayer V v1 v2) (fun q5 => lt_ (f_Br_changed q5.1) (fun q6 => some (q6, q5.2)))
set_option maxRecDepth 20000 in
set_option maxHeartbeats 4000000 in
theorem s_Br_layer {X : Xs} {d : Nat} {V : VV} {h : HP} {v1 : Int} {v2 : Int} {q : VV × Int} (hf : f_Br_layer V v1 v2 = some q) : Ok X (d + 7) 34 0 ([some (.inr (.inr (.inl 1))), some (.inl v1), some (.inl v2), none], [], mm V h) (fun M r => M = mm q.1 h ∧ r = some (.inl q.2)) := by
  let QQ : Mm → Option AV → Prop := fun M r => M = mm q.1 h ∧ r = some (.inl q.2)
  show Ok X (d + 7) 34 0 ([some (.inr (.inr (.inl 1))), some (.inl v1), some (.inl v2), none], [], mm V h) QQ
  refine ok_callA (L := [some (.inr (.inr (.inl 1))), some (.inl v1), some (.inl v2), none]) (M := mm V h) (args := [.inl v1, .inl 20, .inl 200]) (rest := []) (y2 := 16) rfl rfl rfl (Or.inr (Or.inl rfl)) rfl rfl (Nat.le_of_ble_eq_true rfl) rfl rfl (Nat.le_of_ble_eq_true rfl) (Nat.le_of_ble_eq_true rfl) (w_isFrom rfl) ?_
  rintro _ _ ⟨rfl, rfl, hz1⟩
  refine ok_if_eq (x := isFromV v1 20 200) (L := [some (.inr (.inr (.inl 1))), some (.inl v1), some (.inl v2), none]) (S := []) (M := mm V h) rfl rfl (fun c2 => ?_) (fun c2 => ?_)
  ·
    replace hf := (if_pos c2).symm.trans hf
    obtain rfl := Option.some.inj hf
    refine ok_ireturn (L := [some (.inr (.inr (.inl 1))), some (.inl v1), some (.inl v2), none]) (M := mm V h) (x := (-1)) rfl rfl ?_
    exact ⟨rfl, rfl⟩
  ·
    replace hf := (if_neg c2).symm.trans hf
    refine ok_callA (L := [some (.inr (.inr (.inl 1))), some (.inl v1), some (.inl v2), none]) (M := mm V h) (args := [.inl v2, .inl 0, .inl 2]) (rest := []) (y2 := 16) rfl rfl rfl (Or.inr (Or.inl rfl)) rfl rfl (Nat.le_of_ble_eq_true rfl) rfl rfl (Nat.le_of_ble_eq_true rfl) (Nat.le_of_ble_eq_true rfl) (w_isFrom rfl) ?_
    rintro _ _ ⟨rfl, rfl, hz3⟩
    refine ok_if_ne (x := isFromV v2 0 2) (L := [some (.inr (.inr (.inl 1))), some (.inl v1), some (.inl v2), none]) (S := []) (M := mm V h) rfl rfl (fun c4 => ?_) (fun c4 => ?_)
    ·
      replace hf := (if_neg c4).symm.trans hf
      obtain ⟨q5, e5, hf⟩ := obind hf
      refine ok_callA (L := [some (.inr (.inr (.inl 1))), some (.inl v1), some (.inl v2), none]) (M := mm V h) (args := [.inr (.inr (.inl 2)), .inl v1, .inl v2]) (rest := []) (y2 := 35) rfl rfl rfl (Or.inl rfl) rfl rfl (Nat.le_of_ble_eq_true rfl) rfl rfl (Nat.le_of_ble_eq_true rfl) (Nat.le_of_ble_eq_true rfl) (s_Road_addLayer e5) ?_
      rintro _ _ ⟨rfl, rfl⟩
      obtain ⟨q6, e6, hf⟩ := lt_x hf
      refine ok_callA (L := [some (.inr (.inr (.inl 1))), some (.inl v1), some (.inl v2), some (.inl q5.2)]) (M := mm q5.1 h) (args := [.inr (.inr (.inl 1))]) (rest := []) (y2 := 29) rfl rfl rfl (Or.inl rfl) rfl rfl (Nat.le_of_ble_eq_true rfl) rfl rfl (Nat.le_of_ble_eq_true rfl) (Nat.le_of_ble_eq_true rfl) (s_Br_changed e6) ?_
      rintro _ _ ⟨rfl, rfl⟩
      obtain rfl := Option.some.inj hf
      refine ok_ireturn (L := [some (.inr (.inr (.inl 1))), some (.inl v1), some (.inl v2), some (.inl q5.2)]) (M := mm q6 h) (x := q5.2) rfl rfl ?_
      exact ⟨rfl, rfl⟩
    ·
      replace hf := (if_pos c4).symm.trans hf
      obtain rfl := Option.some.inj hf
      refine ok_ireturn (L := [some (.inr (.inr (.inl 1))), some (.inl v1), some (.inl v2), none]) (M := mm V h) (x := (-1)) rfl rfl ?_
      exact ⟨rfl, rfl⟩
def f_Br_job (V : VV) (v1 : Int) (v2 : Int) : Option (Int) := if (V 1 15) = (-1) then some (-1) else if (isFromV v1 0 (w32 ((f_Road_jobs V) - 1))) = 0 then some (-1) else if v2 = 0 then Option.bind (f_Road_sectionOf V v1) (fun q6 => some q6) else if v2 = 1 then some (f_Road_layerOf V v1) else if v2 = 2 then some (atV V 8 36 v1) else if v2 = 3 then some (atV V 9 36 v1) else some (-1)
set_option maxRecDepth 20000 in
set_option maxHeartbeats 4000000 in
theorem s_Br_job {X : Xs} {d : Nat} {V : VV} {h : HP} {v1 : Int} {v2 : Int} {q : Int} (hf : f_Br_job V v1 v2 = some q) : Ok X (d + 3) 36 0 ([some (.inr (.inr (.inl 1))), some (.inl v1), some (.inl v2)], [], mm V h) (fun M r => M = mm V h ∧ r = some (.inl q)) := by
  let QQ : Mm → Option AV → Prop := fun M r => M = mm V h ∧ r = some (.inl q)
  show Ok X (d + 3) 36 0 ([some (.inr (.inr (.inl 1))), some (.inl v1), some (.inl v2)], [], mm V h) QQ
  refine ok_ic_eq (x := V 1 15) (u := (-1)) (L := [some (.inr (.inr (.inl 1))), some (.inl v1), some (.inl v2)]) (S := []) (M := mm V h) rfl rfl (fun c1 => ?_) (fun c1 => ?_)
  ·
    replace hf := (if_pos c1).symm.trans hf
    obtain rfl := Option.some.inj hf
    refine ok_ireturn (L := [some (.inr (.inr (.inl 1))), some (.inl v1), some (.inl v2)]) (M := mm V h) (x := (-1)) rfl rfl ?_
    exact ⟨rfl, rfl⟩
  ·
    replace hf := (if_neg c1).symm.trans hf
    refine ok_callA (L := [some (.inr (.inr (.inl 1))), some (.inl v1), some (.inl v2)]) (M := mm V h) (args := [.inr (.inr (.inl 2))]) (rest := [.inl 0, .inl v1]) (y2 := 25) rfl rfl rfl (Or.inl rfl) rfl rfl (Nat.le_of_ble_eq_true rfl) rfl rfl (Nat.le_of_ble_eq_true rfl) (Nat.le_of_ble_eq_true rfl) (s_Road_jobs rfl) ?_
    rintro _ _ ⟨rfl, rfl⟩
    refine ok_callA (L := [some (.inr (.inr (.inl 1))), some (.inl v1), some (.inl v2)]) (M := mm V h) (args := [.inl v1, .inl 0, .inl (w32 ((f_Road_jobs V) - 1))]) (rest := []) (y2 := 16) rfl rfl rfl (Or.inr (Or.inl rfl)) rfl rfl (Nat.le_of_ble_eq_true rfl) rfl rfl (Nat.le_of_ble_eq_true rfl) (Nat.le_of_ble_eq_true rfl) (w_isFrom rfl) ?_
    rintro _ _ ⟨rfl, rfl, hz3⟩
    refine ok_if_ne (x := isFromV v1 0 (w32 ((f_Road_jobs V) - 1))) (L := [some (.inr (.inr (.inl 1))), some (.inl v1), some (.inl v2)]) (S := []) (M := mm V h) rfl rfl (fun c4 => ?_) (fun c4 => ?_)
    ·
      replace hf := (if_neg c4).symm.trans hf
      by_cases c5 : v2 = 0
      ·
        replace hf := (if_pos c5).symm.trans hf
        refine ok_sw (x := v2) (b1 := 6) (L := [some (.inr (.inr (.inl 1))), some (.inl v1), some (.inl v2)]) (S := []) (M := mm V h) rfl rfl (by rw [c5]; rfl) ?_
        obtain ⟨q6, e6, hf⟩ := obind hf
        refine ok_callA (L := [some (.inr (.inr (.inl 1))), some (.inl v1), some (.inl v2)]) (M := mm V h) (args := [.inr (.inr (.inl 2)), .inl v1]) (rest := []) (y2 := 26) rfl rfl rfl (Or.inl rfl) rfl rfl (Nat.le_of_ble_eq_true rfl) rfl rfl (Nat.le_of_ble_eq_true rfl) (Nat.le_of_ble_eq_true rfl) (s_Road_sectionOf e6) ?_
        rintro _ _ ⟨rfl, rfl⟩
        obtain rfl := Option.some.inj hf
        refine ok_ireturn (L := [some (.inr (.inr (.inl 1))), some (.inl v1), some (.inl v2)]) (M := mm V h) (x := q6) rfl rfl ?_
        exact ⟨rfl, rfl⟩
      replace hf := (if_neg c5).symm.trans hf
      by_cases c7 : v2 = 1
      ·
        replace hf := (if_pos c7).symm.trans hf
        refine ok_sw (x := v2) (b1 := 8) (L := [some (.inr (.inr (.inl 1))), some (.inl v1), some (.inl v2)]) (S := []) (M := mm V h) rfl rfl (by rw [c7]; rfl) ?_
        refine ok_callA (L := [some (.inr (.inr (.inl 1))), some (.inl v1), some (.inl v2)]) (M := mm V h) (args := [.inr (.inr (.inl 2)), .inl v1]) (rest := []) (y2 := 27) rfl rfl rfl (Or.inl rfl) rfl rfl (Nat.le_of_ble_eq_true rfl) rfl rfl (Nat.le_of_ble_eq_true rfl) (Nat.le_of_ble_eq_true rfl) (s_Road_layerOf rfl) ?_
        rintro _ _ ⟨rfl, rfl⟩
        obtain rfl := Option.some.inj hf
        refine ok_ireturn (L := [some (.inr (.inr (.inl 1))), some (.inl v1), some (.inl v2)]) (M := mm V h) (x := f_Road_layerOf V v1) rfl rfl ?_
        exact ⟨rfl, rfl⟩
      replace hf := (if_neg c7).symm.trans hf
      by_cases c9 : v2 = 2
      ·
        replace hf := (if_pos c9).symm.trans hf
        refine ok_sw (x := v2) (b1 := 10) (L := [some (.inr (.inr (.inl 1))), some (.inl v1), some (.inl v2)]) (S := []) (M := mm V h) rfl rfl (by rw [c9]; rfl) ?_
        refine ok_callA (L := [some (.inr (.inr (.inl 1))), some (.inl v1), some (.inl v2)]) (M := mm V h) (args := [.inr (.inr (.inl 9)), .inl v1]) (rest := []) (y2 := 21) rfl rfl rfl (Or.inr (Or.inl rfl)) rfl rfl (Nat.le_of_ble_eq_true rfl) rfl rfl (Nat.le_of_ble_eq_true rfl) (Nat.le_of_ble_eq_true rfl) (w_at rfl rfl) ?_
        rintro _ _ ⟨rfl, rfl⟩
        obtain rfl := Option.some.inj hf
        refine ok_ireturn (L := [some (.inr (.inr (.inl 1))), some (.inl v1), some (.inl v2)]) (M := mm V h) (x := atV V 8 36 v1) rfl rfl ?_
        exact ⟨rfl, rfl⟩
      replace hf := (if_neg c9).symm.trans hf
      by_cases c11 : v2 = 3
      ·
        replace hf := (if_pos c11).symm.trans hf
        refine ok_sw (x := v2) (b1 := 12) (L := [some (.inr (.inr (.inl 1))), some (.inl v1), some (.inl v2)]) (S := []) (M := mm V h) rfl rfl (by rw [c11]; rfl) ?_
        refine ok_callA (L := [some (.inr (.inr (.inl 1))), some (.inl v1), some (.inl v2)]) (M := mm V h) (args := [.inr (.inr (.inl 10)), .inl v1]) (rest := []) (y2 := 21) rfl rfl rfl (Or.inr (Or.inl rfl)) rfl rfl (Nat.le_of_ble_eq_true rfl) rfl rfl (Nat.le_of_ble_eq_true rfl) (Nat.le_of_ble_eq_true rfl) (w_at rfl rfl) ?_
        rintro _ _ ⟨rfl, rfl⟩
        obtain rfl := Option.some.inj hf
        refine ok_ireturn (L := [some (.inr (.inr (.inl 1))), some (.inl v1), some (.inl v2)]) (M := mm V h) (x := atV V 9 36 v1) rfl rfl ?_
        exact ⟨rfl, rfl⟩
      replace hf := (if_neg c11).symm.trans hf
      refine ok_sw (x := v2) (b1 := 14) (L := [some (.inr (.inr (.inl 1))), some (.inl v1), some (.inl v2)]) (S := []) (M := mm V h) rfl rfl (if_pos (by omega)) ?_
      obtain rfl := Option.some.inj hf
      refine ok_ireturn (L := [some (.inr (.inr (.inl 1))), some (.inl v1), some (.inl v2)]) (M := mm V h) (x := (-1)) rfl rfl ?_
      exact ⟨rfl, rfl⟩
    ·
      replace hf := (if_pos c4).symm.trans hf
      obtain rfl := Option.some.inj hf
      refine ok_ireturn (L := [some (.inr (.inr (.inl 1))), some (.inl v1), some (.inl v2)]) (M := mm V h) (x := (-1)) rfl rfl ?_
      exact ⟨rfl, rfl⟩
def f_Plants_add (V : VV) (v1 : Int) (v2 : Int) (v3 : Int) (v4 : Int) : VV × Int := if (V 10 4) < 3 then lt_ (setV V 11 3 (V 10 4) v1) (fun q2 => lt_ (setV q2 12 3 (q2 10 4) v2) (fun q3 => lt_ (setV q3 13 3 (q3 10 4) v3) (fun q4 => lt_ (setV q4 14 3 (q4 10 4) v4) (fun q5 => (up q5 10 4 (w32 ((q5 10 4) + 1)), w32 ((w32 ((q5 10 4) + 1)) - 1)))))) else (V, (-1))
set_option maxRecDepth 20000 in
set_option maxHeartbeats 4000000 in
theorem s_Plants_add {X : Xs} {d : Nat} {V : VV} {h : HP} {v1 : Int} {v2 : Int} {v3 : Int} {v4 : Int} {q : VV × Int} (hf : f_Plants_add V v1 v2 v3 v4 = q) : Ok X (d + 2) 38 0 ([some (.inr (.inr (.inl 11))), some (.inl v1), some (.inl v2), some (.inl v3), some (.inl v4)], [], mm V h) (fun M r => M = mm q.1 h ∧ r = some (.inl q.2)) := by
  let QQ : Mm → Option AV → Prop := fun M r => M = mm q.1 h ∧ r = some (.inl q.2)
  show Ok X (d + 2) 38 0 ([some (.inr (.inr (.inl 11))), some (.inl v1), some (.inl v2), some (.inl v3), some (.inl v4)], [], mm V h) QQ
  refine ok_ic_lt (x := V 10 4) (u := 3) (L := [some (.inr (.inr (.inl 11))), some (.inl v1), some (.inl v2), some (.inl v3), some (.inl v4)]) (S := []) (M := mm V h) rfl rfl (fun c1 => ?_) (fun c1 => ?_)
  ·
    replace hf := (if_pos c1).symm.trans hf
    obtain ⟨q2, e2, hf⟩ := lt_x hf
    refine ok_callA (L := [some (.inr (.inr (.inl 11))), some (.inl v1), some (.inl v2), some (.inl v3), some (.inl v4)]) (M := mm V h) (args := [.inr (.inr (.inl 12)), .inl (V 10 4), .inl v1]) (rest := []) (y2 := 9) rfl rfl rfl (Or.inr (Or.inl rfl)) rfl rfl (Nat.le_of_ble_eq_true rfl) rfl rfl (Nat.le_of_ble_eq_true rfl) (Nat.le_of_ble_eq_true rfl) (w_set rfl e2) ?_
    rintro _ _ ⟨rfl, rfl⟩
    obtain ⟨q3, e3, hf⟩ := lt_x hf
    refine ok_callA (L := [some (.inr (.inr (.inl 11))), some (.inl v1), some (.inl v2), some (.inl v3), some (.inl v4)]) (M := mm q2 h) (args := [.inr (.inr (.inl 13)), .inl (q2 10 4), .inl v2]) (rest := []) (y2 := 9) rfl rfl rfl (Or.inr (Or.inl rfl)) rfl rfl (Nat.le_of_ble_eq_true rfl) rfl rfl (Nat.le_of_ble_eq_true rfl) (Nat.le_of_ble_eq_true rfl) (w_set rfl e3) ?_
    rintro _ _ ⟨rfl, rfl⟩
    obtain ⟨q4, e4, hf⟩ := lt_x hf
    refine ok_callA (L := [some (.inr (.inr (.inl 11))), some (.inl v1), some (.inl v2), some (.inl v3), some (.inl v4)]) (M := mm q3 h) (args := [.inr (.inr (.inl 14)), .inl (q3 10 4), .inl v3]) (rest := []) (y2 := 9) rfl rfl rfl (Or.inr (Or.inl rfl)) rfl rfl (Nat.le_of_ble_eq_true rfl) rfl rfl (Nat.le_of_ble_eq_true rfl) (Nat.le_of_ble_eq_true rfl) (w_set rfl e4) ?_
    rintro _ _ ⟨rfl, rfl⟩
    obtain ⟨q5, e5, hf⟩ := lt_x hf
    refine ok_callA (L := [some (.inr (.inr (.inl 11))), some (.inl v1), some (.inl v2), some (.inl v3), some (.inl v4)]) (M := mm q4 h) (args := [.inr (.inr (.inl 15)), .inl (q4 10 4), .inl v4]) (rest := []) (y2 := 9) rfl rfl rfl (Or.inr (Or.inl rfl)) rfl rfl (Nat.le_of_ble_eq_true rfl) rfl rfl (Nat.le_of_ble_eq_true rfl) (Nat.le_of_ble_eq_true rfl) (w_set rfl e5) ?_
    rintro _ _ ⟨rfl, rfl⟩
    have hq : ((up q5 10 4 (w32 ((q5 10 4) + 1)), w32 ((w32 ((q5 10 4) + 1)) - 1))) = q := hf
    subst hq
    refine ok_ireturn (L := [some (.inr (.inr (.inl 11))), some (.inl v1), some (.inl v2), some (.inl v3), some (.inl v4)]) (M := mm (up q5 10 4 (w32 ((q5 10 4) + 1))) h) (x := w32 ((w32 ((q5 10 4) + 1)) - 1)) rfl rfl ?_
    exact ⟨rfl, rfl⟩
  ·
    replace hf := (if_neg (Int.not_lt.mpr c1)).symm.trans hf
    have hq : ((V, (-1))) = q := hf
    subst hq
    refine ok_ireturn (L := [some (.inr (.inr (.inl 11))), some (.inl v1), some (.inl v2), some (.inl v3), some (.inl v4)]) (M := mm V h) (x := (-1)) rfl rfl ?_
    exact ⟨rfl, rfl⟩
def f_Br_plant (V : VV) (v1 : Int) (v2 : Int) (v3 : Int) (v4 : Int) : VV × Int := if (isFromV v1 0 2) = 0 then (V, (-1)) else if (isFromV v2 1 10) = 0 then (V, (-1)) else if (isFromV v3 10 200) = 0 then (V, (-1)) else if (isFromV v4 1 20) = 0 then (V, (-1)) else lt_ (f_Plants_add V v1 v2 v3 v4) (fun q9 => lt_ (f_Br_changed q9.1) (fun q10 => (q10, q9.2)))
set_option maxRecDepth 20000 in
set_option maxHeartbeats 4000000 in
theorem s_Br_plant {X : Xs} {d : Nat} {V : VV} {h : HP} {v1 : Int} {v2 : Int} {v3 : Int} {v4 : Int} {q : VV × Int} (hf : f_Br_plant V v1 v2 v3 v4 = q) : Ok X (d + 3) 37 0 ([some (.inr (.inr (.inl 1))), some (.inl v1), some (.inl v2), some (.inl v3), some (.inl v4), none], [], mm V h) (fun M r => M = mm q.1 h ∧ r = some (.inl q.2)) := by
  let QQ : Mm → Option AV → Prop := fun M r => M = mm q.1 h ∧ r = some (.inl q.2)
  show Ok X (d + 3) 37 0 ([some (.inr (.inr (.inl 1))), some (.inl v1), some (.inl v2), some (.inl v3), some (.inl v4), none], [], mm V h) QQ
  refine ok_callA (L := [some (.inr (.inr (.inl 1))), some (.inl v1), some (.inl v2), some (.inl v3), some (.inl v4), none]) (M := mm V h) (args := [.inl v1, .inl 0, .inl 2]) (rest := []) (y2 := 16) rfl rfl rfl (Or.inr (Or.inl rfl)) rfl rfl (Nat.le_of_ble_eq_true rfl) rfl rfl (Nat.le_of_ble_eq_true rfl) (Nat.le_of_ble_eq_true rfl) (w_isFrom rfl) ?_
  rintro _ _ ⟨rfl, rfl, hz1⟩
  refine ok_if_eq (x := isFromV v1 0 2) (L := [some (.inr (.inr (.inl 1))), some (.inl v1), some (.inl v2), some (.inl v3), some (.inl v4), none]) (S := []) (M := mm V h) rfl rfl (fun c2 => ?_) (fun c2 => ?_)
  ·
    replace hf := (if_pos c2).symm.trans hf
    have hq : ((V, (-1))) = q := hf
    subst hq
    refine ok_ireturn (L := [some (.inr (.inr (.inl 1))), some (.inl v1), some (.inl v2), some (.inl v3), some (.inl v4), none]) (M := mm V h) (x := (-1)) rfl rfl ?_
    exact ⟨rfl, rfl⟩
  ·
    replace hf := (if_neg c2).symm.trans hf
    refine ok_callA (L := [some (.inr (.inr (.inl 1))), some (.inl v1), some (.inl v2), some (.inl v3), some (.inl v4), none]) (M := mm V h) (args := [.inl v2, .inl 1, .inl 10]) (rest := []) (y2 := 16) rfl rfl rfl (Or.inr (Or.inl rfl)) rfl rfl (Nat.le_of_ble_eq_true rfl) rfl rfl (Nat.le_of_ble_eq_true rfl) (Nat.le_of_ble_eq_true rfl) (w_isFrom rfl) ?_
    rintro _ _ ⟨rfl, rfl, hz3⟩
    refine ok_if_eq (x := isFromV v2 1 10) (L := [some (.inr (.inr (.inl 1))), some (.inl v1), some (.inl v2), some (.inl v3), some (.inl v4), none]) (S := []) (M := mm V h) rfl rfl (fun c4 => ?_) (fun c4 => ?_)
    ·
      replace hf := (if_pos c4).symm.trans hf
      have hq : ((V, (-1))) = q := hf
      subst hq
      refine ok_ireturn (L := [some (.inr (.inr (.inl 1))), some (.inl v1), some (.inl v2), some (.inl v3), some (.inl v4), none]) (M := mm V h) (x := (-1)) rfl rfl ?_
      exact ⟨rfl, rfl⟩
    ·
      replace hf := (if_neg c4).symm.trans hf
      refine ok_callA (L := [some (.inr (.inr (.inl 1))), some (.inl v1), some (.inl v2), some (.inl v3), some (.inl v4), none]) (M := mm V h) (args := [.inl v3, .inl 10, .inl 200]) (rest := []) (y2 := 16) rfl rfl rfl (Or.inr (Or.inl rfl)) rfl rfl (Nat.le_of_ble_eq_true rfl) rfl rfl (Nat.le_of_ble_eq_true rfl) (Nat.le_of_ble_eq_true rfl) (w_isFrom rfl) ?_
      rintro _ _ ⟨rfl, rfl, hz5⟩
      refine ok_if_eq (x := isFromV v3 10 200) (L := [some (.inr (.inr (.inl 1))), some (.inl v1), some (.inl v2), some (.inl v3), some (.inl v4), none]) (S := []) (M := mm V h) rfl rfl (fun c6 => ?_) (fun c6 => ?_)
      ·
        replace hf := (if_pos c6).symm.trans hf
        have hq : ((V, (-1))) = q := hf
        subst hq
        refine ok_ireturn (L := [some (.inr (.inr (.inl 1))), some (.inl v1), some (.inl v2), some (.inl v3), some (.inl v4), none]) (M := mm V h) (x := (-1)) rfl rfl ?_
        exact ⟨rfl, rfl⟩
      ·
        replace hf := (if_neg c6).symm.trans hf
        refine ok_callA (L := [some (.inr (.inr (.inl 1))), some (.inl v1), some (.inl v2), some (.inl v3), some (.inl v4), none]) (M := mm V h) (args := [.inl v4, .inl 1, .inl 20]) (rest := []) (y2 := 16) rfl rfl rfl (Or.inr (Or.inl rfl)) rfl rfl (Nat.le_of_ble_eq_true rfl) rfl rfl (Nat.le_of_ble_eq_true rfl) (Nat.le_of_ble_eq_true rfl) (w_isFrom rfl) ?_
        rintro _ _ ⟨rfl, rfl, hz7⟩
        refine ok_if_ne (x := isFromV v4 1 20) (L := [some (.inr (.inr (.inl 1))), some (.inl v1), some (.inl v2), some (.inl v3), some (.inl v4), none]) (S := []) (M := mm V h) rfl rfl (fun c8 => ?_) (fun c8 => ?_)
        ·
          replace hf := (if_neg c8).symm.trans hf
          obtain ⟨q9, e9, hf⟩ := lt_x hf
          refine ok_callA (L := [some (.inr (.inr (.inl 1))), some (.inl v1), some (.inl v2), some (.inl v3), some (.inl v4), none]) (M := mm V h) (args := [.inr (.inr (.inl 11)), .inl v1, .inl v2, .inl v3, .inl v4]) (rest := []) (y2 := 38) rfl rfl rfl (Or.inl rfl) rfl rfl (Nat.le_of_ble_eq_true rfl) rfl rfl (Nat.le_of_ble_eq_true rfl) (Nat.le_of_ble_eq_true rfl) (s_Plants_add e9) ?_
          rintro _ _ ⟨rfl, rfl⟩
          obtain ⟨q10, e10, hf⟩ := lt_x hf
          refine ok_callA (L := [some (.inr (.inr (.inl 1))), some (.inl v1), some (.inl v2), some (.inl v3), some (.inl v4), some (.inl q9.2)]) (M := mm q9.1 h) (args := [.inr (.inr (.inl 1))]) (rest := []) (y2 := 29) rfl rfl rfl (Or.inl rfl) rfl rfl (Nat.le_of_ble_eq_true rfl) rfl rfl (Nat.le_of_ble_eq_true rfl) (Nat.le_of_ble_eq_true rfl) (s_Br_changed e10) ?_
          rintro _ _ ⟨rfl, rfl⟩
          have hq : ((q10, q9.2)) = q := hf
          subst hq
          refine ok_ireturn (L := [some (.inr (.inr (.inl 1))), some (.inl v1), some (.inl v2), some (.inl v3), some (.inl v4), some (.inl q9.2)]) (M := mm q10 h) (x := q9.2) rfl rfl ?_
          exact ⟨rfl, rfl⟩
        ·
          replace hf := (if_pos c8).symm.trans hf
          have hq : ((V, (-1))) = q := hf
          subst hq
          refine ok_ireturn (L := [some (.inr (.inr (.inl 1))), some (.inl v1), some (.inl v2), some (.inl v3), some (.inl v4), none]) (M := mm V h) (x := (-1)) rfl rfl ?_
          exact ⟨rfl, rfl⟩
def f_Br_trucks (V : VV) (v1 : Int) (v2 : Int) : VV × Int := if (isFromV v1 1 16) = 0 then (V, 0) else if (isFromV v2 5 30) = 0 then (V, 0) else lt_ (f_Br_changed (up (up V 10 5 v1) 10 6 v2)) (fun q5 => (q5, 1))
set_option maxRecDepth 20000 in
set_option maxHeartbeats 4000000 in
theorem s_Br_trucks {X : Xs} {d : Nat} {V : VV} {h : HP} {v1 : Int} {v2 : Int} {q : VV × Int} (hf : f_Br_trucks V v1 v2 = q) : Ok X (d + 3) 39 0 ([some (.inr (.inr (.inl 1))), some (.inl v1), some (.inl v2)], [], mm V h) (fun M r => M = mm q.1 h ∧ r = some (.inl q.2) ∧ (q.2 = 0 ∨ q.2 = 1)) := by
  let QQ : Mm → Option AV → Prop := fun M r => M = mm q.1 h ∧ r = some (.inl q.2) ∧ (q.2 = 0 ∨ q.2 = 1)
  show Ok X (d + 3) 39 0 ([some (.inr (.inr (.inl 1))), some (.inl v1), some (.inl v2)], [], mm V h) QQ
  refine ok_callA (L := [some (.inr (.inr (.inl 1))), some (.inl v1), some (.inl v2)]) (M := mm V h) (args := [.inl v1, .inl 1, .inl 16]) (rest := []) (y2 := 16) rfl rfl rfl (Or.inr (Or.inl rfl)) rfl rfl (Nat.le_of_ble_eq_true rfl) rfl rfl (Nat.le_of_ble_eq_true rfl) (Nat.le_of_ble_eq_true rfl) (w_isFrom rfl) ?_
  rintro _ _ ⟨rfl, rfl, hz1⟩
  refine ok_if_eq (x := isFromV v1 1 16) (L := [some (.inr (.inr (.inl 1))), some (.inl v1), some (.inl v2)]) (S := []) (M := mm V h) rfl rfl (fun c2 => ?_) (fun c2 => ?_)
  ·
    replace hf := (if_pos c2).symm.trans hf
    have hq : ((V, 0)) = q := hf
    subst hq
    have hz : (0 : Int) = 0 ∨ (0 : Int) = 1 := by
      first | exact Or.inl rfl | exact Or.inr rfl | assumption | (repeat' split) <;> first | exact Or.inl rfl | exact Or.inr rfl | assumption
    refine ok_zreturn (L := [some (.inr (.inr (.inl 1))), some (.inl v1), some (.inl v2)]) (M := mm V h) (x := 0) rfl rfl hz ?_
    exact ⟨rfl, rfl, hz⟩
  ·
    replace hf := (if_neg c2).symm.trans hf
    refine ok_callA (L := [some (.inr (.inr (.inl 1))), some (.inl v1), some (.inl v2)]) (M := mm V h) (args := [.inl v2, .inl 5, .inl 30]) (rest := []) (y2 := 16) rfl rfl rfl (Or.inr (Or.inl rfl)) rfl rfl (Nat.le_of_ble_eq_true rfl) rfl rfl (Nat.le_of_ble_eq_true rfl) (Nat.le_of_ble_eq_true rfl) (w_isFrom rfl) ?_
    rintro _ _ ⟨rfl, rfl, hz3⟩
    refine ok_if_ne (x := isFromV v2 5 30) (L := [some (.inr (.inr (.inl 1))), some (.inl v1), some (.inl v2)]) (S := []) (M := mm V h) rfl rfl (fun c4 => ?_) (fun c4 => ?_)
    ·
      replace hf := (if_neg c4).symm.trans hf
      obtain ⟨q5, e5, hf⟩ := lt_x hf
      refine ok_callA (L := [some (.inr (.inr (.inl 1))), some (.inl v1), some (.inl v2)]) (M := mm (up (up V 10 5 v1) 10 6 v2) h) (args := [.inr (.inr (.inl 1))]) (rest := []) (y2 := 29) rfl rfl rfl (Or.inl rfl) rfl rfl (Nat.le_of_ble_eq_true rfl) rfl rfl (Nat.le_of_ble_eq_true rfl) (Nat.le_of_ble_eq_true rfl) (s_Br_changed e5) ?_
      rintro _ _ ⟨rfl, rfl⟩
      have hq : ((q5, 1)) = q := hf
      subst hq
      have hz : (1 : Int) = 0 ∨ (1 : Int) = 1 := by
        first | exact Or.inl rfl | exact Or.inr rfl | assumption | (repeat' split) <;> first | exact Or.inl rfl | exact Or.inr rfl | assumption
      refine ok_zreturn (L := [some (.inr (.inr (.inl 1))), some (.inl v1), some (.inl v2)]) (M := mm q5 h) (x := 1) rfl rfl hz ?_
      exact ⟨rfl, rfl, hz⟩
    ·
      replace hf := (if_pos c4).symm.trans hf
      have hq : ((V, 0)) = q := hf
      subst hq
      have hz : (0 : Int) = 0 ∨ (0 : Int) = 1 := by
        first | exact Or.inl rfl | exact Or.inr rfl | assumption | (repeat' split) <;> first | exact Or.inl rfl | exact Or.inr rfl | assumption
      refine ok_zreturn (L := [some (.inr (.inr (.inl 1))), some (.inl v1), some (.inl v2)]) (M := mm V h) (x := 0) rfl rfl hz ?_
      exact ⟨rfl, rfl, hz⟩
def f_Br_heat (V : VV) (v1 : Int) (v2 : Int) (v3 : Int) (v4 : Int) (v5 : Int) : VV × Int := if (isFromV v1 100 200) = 0 then (V, 0) else if (isFromV v2 1 20) = 0 then (V, 0) else if (isFromV v3 0 200) = 0 then (V, 0) else if (isFromV v4 0 200) = 0 then (V, 0) else if (isFromV v5 0 200) = 0 then (V, 0) else lt_ (f_Br_changed (up (up (up (up (up V 15 0 v1) 15 1 v2) 15 2 v3) 15 3 v4) 15 4 v5)) (fun q11 => (q11, 1))
set_option maxRecDepth 20000 in
set_option maxHeartbeats 4000000 in
theorem s_Br_heat {X : Xs} {d : Nat} {V : VV} {h : HP} {v1 : Int} {v2 : Int} {v3 : Int} {v4 : Int} {v5 : Int} {q : VV × Int} (hf : f_Br_heat V v1 v2 v3 v4 v5 = q) : Ok X (d + 3) 40 0 ([some (.inr (.inr (.inl 1))), some (.inl v1), some (.inl v2), some (.inl v3), some (.inl v4), some (.inl v5)], [], mm V h) (fun M r => M = mm q.1 h ∧ r = some (.inl q.2) ∧ (q.2 = 0 ∨ q.2 = 1)) := by
  let QQ : Mm → Option AV → Prop := fun M r => M = mm q.1 h ∧ r = some (.inl q.2) ∧ (q.2 = 0 ∨ q.2 = 1)
  show Ok X (d + 3) 40 0 ([some (.inr (.inr (.inl 1))), some (.inl v1), some (.inl v2), some (.inl v3), some (.inl v4), some (.inl v5)], [], mm V h) QQ
  refine ok_callA (L := [some (.inr (.inr (.inl 1))), some (.inl v1), some (.inl v2), some (.inl v3), some (.inl v4), some (.inl v5)]) (M := mm V h) (args := [.inl v1, .inl 100, .inl 200]) (rest := []) (y2 := 16) rfl rfl rfl (Or.inr (Or.inl rfl)) rfl rfl (Nat.le_of_ble_eq_true rfl) rfl rfl (Nat.le_of_ble_eq_true rfl) (Nat.le_of_ble_eq_true rfl) (w_isFrom rfl) ?_
  rintro _ _ ⟨rfl, rfl, hz1⟩
  refine ok_if_eq (x := isFromV v1 100 200) (L := [some (.inr (.inr (.inl 1))), some (.inl v1), some (.inl v2), some (.inl v3), some (.inl v4), some (.inl v5)]) (S := []) (M := mm V h) rfl rfl (fun c2 => ?_) (fun c2 => ?_)
  ·
    replace hf := (if_pos c2).symm.trans hf
    have hq : ((V, 0)) = q := hf
    subst hq
    have hz : (0 : Int) = 0 ∨ (0 : Int) = 1 := by
      first | exact Or.inl rfl | exact Or.inr rfl | assumption | (repeat' split) <;> first | exact Or.inl rfl | exact Or.inr rfl | assumption
    refine ok_zreturn (L := [some (.inr (.inr (.inl 1))), some (.inl v1), some (.inl v2), some (.inl v3), some (.inl v4), some (.inl v5)]) (M := mm V h) (x := 0) rfl rfl hz ?_
    exact ⟨rfl, rfl, hz⟩
  ·
    replace hf := (if_neg c2).symm.trans hf
    refine ok_callA (L := [some (.inr (.inr (.inl 1))), some (.inl v1), some (.inl v2), some (.inl v3), some (.inl v4), some (.inl v5)]) (M := mm V h) (args := [.inl v2, .inl 1, .inl 20]) (rest := []) (y2 := 16) rfl rfl rfl (Or.inr (Or.inl rfl)) rfl rfl (Nat.le_of_ble_eq_true rfl) rfl rfl (Nat.le_of_ble_eq_true rfl) (Nat.le_of_ble_eq_true rfl) (w_isFrom rfl) ?_
    rintro _ _ ⟨rfl, rfl, hz3⟩
    refine ok_if_eq (x := isFromV v2 1 20) (L := [some (.inr (.inr (.inl 1))), some (.inl v1), some (.inl v2), some (.inl v3), some (.inl v4), some (.inl v5)]) (S := []) (M := mm V h) rfl rfl (fun c4 => ?_) (fun c4 => ?_)
    ·
      replace hf := (if_pos c4).symm.trans hf
      have hq : ((V, 0)) = q := hf
      subst hq
      have hz : (0 : Int) = 0 ∨ (0 : Int) = 1 := by
        first | exact Or.inl rfl | exact Or.inr rfl | assumption | (repeat' split) <;> first | exact Or.inl rfl | exact Or.inr rfl | assumption
      refine ok_zreturn (L := [some (.inr (.inr (.inl 1))), some (.inl v1), some (.inl v2), some (.inl v3), some (.inl v4), some (.inl v5)]) (M := mm V h) (x := 0) rfl rfl hz ?_
      exact ⟨rfl, rfl, hz⟩
    ·
      replace hf := (if_neg c4).symm.trans hf
      refine ok_callA (L := [some (.inr (.inr (.inl 1))), some (.inl v1), some (.inl v2), some (.inl v3), some (.inl v4), some (.inl v5)]) (M := mm V h) (args := [.inl v3, .inl 0, .inl 200]) (rest := []) (y2 := 16) rfl rfl rfl (Or.inr (Or.inl rfl)) rfl rfl (Nat.le_of_ble_eq_true rfl) rfl rfl (Nat.le_of_ble_eq_true rfl) (Nat.le_of_ble_eq_true rfl) (w_isFrom rfl) ?_
      rintro _ _ ⟨rfl, rfl, hz5⟩
      refine ok_if_eq (x := isFromV v3 0 200) (L := [some (.inr (.inr (.inl 1))), some (.inl v1), some (.inl v2), some (.inl v3), some (.inl v4), some (.inl v5)]) (S := []) (M := mm V h) rfl rfl (fun c6 => ?_) (fun c6 => ?_)
      ·
        replace hf := (if_pos c6).symm.trans hf
        have hq : ((V, 0)) = q := hf
        subst hq
        have hz : (0 : Int) = 0 ∨ (0 : Int) = 1 := by
          first | exact Or.inl rfl | exact Or.inr rfl | assumption | (repeat' split) <;> first | exact Or.inl rfl | exact Or.inr rfl | assumption
        refine ok_zreturn (L := [some (.inr (.inr (.inl 1))), some (.inl v1), some (.inl v2), some (.inl v3), some (.inl v4), some (.inl v5)]) (M := mm V h) (x := 0) rfl rfl hz ?_
        exact ⟨rfl, rfl, hz⟩
      ·
        replace hf := (if_neg c6).symm.trans hf
        refine ok_callA (L := [some (.inr (.inr (.inl 1))), some (.inl v1), some (.inl v2), some (.inl v3), some (.inl v4), some (.inl v5)]) (M := mm V h) (args := [.inl v4, .inl 0, .inl 200]) (rest := []) (y2 := 16) rfl rfl rfl (Or.inr (Or.inl rfl)) rfl rfl (Nat.le_of_ble_eq_true rfl) rfl rfl (Nat.le_of_ble_eq_true rfl) (Nat.le_of_ble_eq_true rfl) (w_isFrom rfl) ?_
        rintro _ _ ⟨rfl, rfl, hz7⟩
        refine ok_if_eq (x := isFromV v4 0 200) (L := [some (.inr (.inr (.inl 1))), some (.inl v1), some (.inl v2), some (.inl v3), some (.inl v4), some (.inl v5)]) (S := []) (M := mm V h) rfl rfl (fun c8 => ?_) (fun c8 => ?_)
        ·
          replace hf := (if_pos c8).symm.trans hf
          have hq : ((V, 0)) = q := hf
          subst hq
          have hz : (0 : Int) = 0 ∨ (0 : Int) = 1 := by
            first | exact Or.inl rfl | exact Or.inr rfl | assumption | (repeat' split) <;> first | exact Or.inl rfl | exact Or.inr rfl | assumption
          refine ok_zreturn (L := [some (.inr (.inr (.inl 1))), some (.inl v1), some (.inl v2), some (.inl v3), some (.inl v4), some (.inl v5)]) (M := mm V h) (x := 0) rfl rfl hz ?_
          exact ⟨rfl, rfl, hz⟩
        ·
          replace hf := (if_neg c8).symm.trans hf
          refine ok_callA (L := [some (.inr (.inr (.inl 1))), some (.inl v1), some (.inl v2), some (.inl v3), some (.inl v4), some (.inl v5)]) (M := mm V h) (args := [.inl v5, .inl 0, .inl 200]) (rest := []) (y2 := 16) rfl rfl rfl (Or.inr (Or.inl rfl)) rfl rfl (Nat.le_of_ble_eq_true rfl) rfl rfl (Nat.le_of_ble_eq_true rfl) (Nat.le_of_ble_eq_true rfl) (w_isFrom rfl) ?_
          rintro _ _ ⟨rfl, rfl, hz9⟩
          refine ok_if_ne (x := isFromV v5 0 200) (L := [some (.inr (.inr (.inl 1))), some (.inl v1), some (.inl v2), some (.inl v3), some (.inl v4), some (.inl v5)]) (S := []) (M := mm V h) rfl rfl (fun c10 => ?_) (fun c10 => ?_)
          ·
            replace hf := (if_neg c10).symm.trans hf
            obtain ⟨q11, e11, hf⟩ := lt_x hf
            refine ok_callA (L := [some (.inr (.inr (.inl 1))), some (.inl v1), some (.inl v2), some (.inl v3), some (.inl v4), some (.inl v5)]) (M := mm (up (up (up (up (up V 15 0 v1) 15 1 v2) 15 2 v3) 15 3 v4) 15 4 v5) h) (args := [.inr (.inr (.inl 1))]) (rest := []) (y2 := 29) rfl rfl rfl (Or.inl rfl) rfl rfl (Nat.le_of_ble_eq_true rfl) rfl rfl (Nat.le_of_ble_eq_true rfl) (Nat.le_of_ble_eq_true rfl) (s_Br_changed e11) ?_
            rintro _ _ ⟨rfl, rfl⟩
            have hq : ((q11, 1)) = q := hf
            subst hq
            have hz : (1 : Int) = 0 ∨ (1 : Int) = 1 := by
              first | exact Or.inl rfl | exact Or.inr rfl | assumption | (repeat' split) <;> first | exact Or.inl rfl | exact Or.inr rfl | assumption
            refine ok_zreturn (L := [some (.inr (.inr (.inl 1))), some (.inl v1), some (.inl v2), some (.inl v3), some (.inl v4), some (.inl v5)]) (M := mm q11 h) (x := 1) rfl rfl hz ?_
            exact ⟨rfl, rfl, hz⟩
          ·
            replace hf := (if_pos c10).symm.trans hf
            have hq : ((V, 0)) = q := hf
            subst hq
            have hz : (0 : Int) = 0 ∨ (0 : Int) = 1 := by
              first | exact Or.inl rfl | exact Or.inr rfl | assumption | (repeat' split) <;> first | exact Or.inl rfl | exact Or.inr rfl | assumption
            refine ok_zreturn (L := [some (.inr (.inr (.inl 1))), some (.inl v1), some (.inl v2), some (.inl v3), some (.inl v4), some (.inl v5)]) (M := mm V h) (x := 0) rfl rfl hz ?_
            exact ⟨rfl, rfl, hz⟩
def f_Br_weather (V : VV) (v1 : Int) (v2 : Int) (v3 : Int) (v4 : Int) : VV × Int := if (isFromV v1 (-20) 50) = 0 then (V, 0) else if (isFromV v2 (-20) 60) = 0 then (V, 0) else if (isFromV v3 1 200) = 0 then (V, 0) else if (isFromV v4 1 200) = 0 then (V, 0) else lt_ (f_Br_changed (up (up (up (up V 15 5 v1) 15 6 v2) 15 7 v3) 15 8 v4)) (fun q9 => (q9, 1))
set_option maxRecDepth 20000 in
set_option maxHeartbeats 4000000 in
theorem s_Br_weather {X : Xs} {d : Nat} {V : VV} {h : HP} {v1 : Int} {v2 : Int} {v3 : Int} {v4 : Int} {q : VV × Int} (hf : f_Br_weather V v1 v2 v3 v4 = q) : Ok X (d + 3) 41 0 ([some (.inr (.inr (.inl 1))), some (.inl v1), some (.inl v2), some (.inl v3), some (.inl v4)], [], mm V h) (fun M r => M = mm q.1 h ∧ r = some (.inl q.2) ∧ (q.2 = 0 ∨ q.2 = 1)) := by
  let QQ : Mm → Option AV → Prop := fun M r => M = mm q.1 h ∧ r = some (.inl q.2) ∧ (q.2 = 0 ∨ q.2 = 1)
  show Ok X (d + 3) 41 0 ([some (.inr (.inr (.inl 1))), some (.inl v1), some (.inl v2), some (.inl v3), some (.inl v4)], [], mm V h) QQ
  refine ok_callA (L := [some (.inr (.inr (.inl 1))), some (.inl v1), some (.inl v2), some (.inl v3), some (.inl v4)]) (M := mm V h) (args := [.inl v1, .inl (-20), .inl 50]) (rest := []) (y2 := 16) rfl rfl rfl (Or.inr (Or.inl rfl)) rfl rfl (Nat.le_of_ble_eq_true rfl) rfl rfl (Nat.le_of_ble_eq_true rfl) (Nat.le_of_ble_eq_true rfl) (w_isFrom rfl) ?_
  rintro _ _ ⟨rfl, rfl, hz1⟩
  refine ok_if_eq (x := isFromV v1 (-20) 50) (L := [some (.inr (.inr (.inl 1))), some (.inl v1), some (.inl v2), some (.inl v3), some (.inl v4)]) (S := []) (M := mm V h) rfl rfl (fun c2 => ?_) (fun c2 => ?_)
  ·
    replace hf := (if_pos c2).symm.trans hf
    have hq : ((V, 0)) = q := hf
    subst hq
    have hz : (0 : Int) = 0 ∨ (0 : Int) = 1 := by
      first | exact Or.inl rfl | exact Or.inr rfl | assumption | (repeat' split) <;> first | exact Or.inl rfl | exact Or.inr rfl | assumption
    refine ok_zreturn (L := [some (.inr (.inr (.inl 1))), some (.inl v1), some (.inl v2), some (.inl v3), some (.inl v4)]) (M := mm V h) (x := 0) rfl rfl hz ?_
    exact ⟨rfl, rfl, hz⟩
  ·
    replace hf := (if_neg c2).symm.trans hf
    refine ok_callA (L := [some (.inr (.inr (.inl 1))), some (.inl v1), some (.inl v2), some (.inl v3), some (.inl v4)]) (M := mm V h) (args := [.inl v2, .inl (-20), .inl 60]) (rest := []) (y2 := 16) rfl rfl rfl (Or.inr (Or.inl rfl)) rfl rfl (Nat.le_of_ble_eq_true rfl) rfl rfl (Nat.le_of_ble_eq_true rfl) (Nat.le_of_ble_eq_true rfl) (w_isFrom rfl) ?_
    rintro _ _ ⟨rfl, rfl, hz3⟩
    refine ok_if_eq (x := isFromV v2 (-20) 60) (L := [some (.inr (.inr (.inl 1))), some (.inl v1), some (.inl v2), some (.inl v3), some (.inl v4)]) (S := []) (M := mm V h) rfl rfl (fun c4 => ?_) (fun c4 => ?_)
    ·
      replace hf := (if_pos c4).symm.trans hf
      have hq : ((V, 0)) = q := hf
      subst hq
      have hz : (0 : Int) = 0 ∨ (0 : Int) = 1 := by
        first | exact Or.inl rfl | exact Or.inr rfl | assumption | (repeat' split) <;> first | exact Or.inl rfl | exact Or.inr rfl | assumption
      refine ok_zreturn (L := [some (.inr (.inr (.inl 1))), some (.inl v1), some (.inl v2), some (.inl v3), some (.inl v4)]) (M := mm V h) (x := 0) rfl rfl hz ?_
      exact ⟨rfl, rfl, hz⟩
    ·
      replace hf := (if_neg c4).symm.trans hf
      refine ok_callA (L := [some (.inr (.inr (.inl 1))), some (.inl v1), some (.inl v2), some (.inl v3), some (.inl v4)]) (M := mm V h) (args := [.inl v3, .inl 1, .inl 200]) (rest := []) (y2 := 16) rfl rfl rfl (Or.inr (Or.inl rfl)) rfl rfl (Nat.le_of_ble_eq_true rfl) rfl rfl (Nat.le_of_ble_eq_true rfl) (Nat.le_of_ble_eq_true rfl) (w_isFrom rfl) ?_
      rintro _ _ ⟨rfl, rfl, hz5⟩
      refine ok_if_eq (x := isFromV v3 1 200) (L := [some (.inr (.inr (.inl 1))), some (.inl v1), some (.inl v2), some (.inl v3), some (.inl v4)]) (S := []) (M := mm V h) rfl rfl (fun c6 => ?_) (fun c6 => ?_)
      ·
        replace hf := (if_pos c6).symm.trans hf
        have hq : ((V, 0)) = q := hf
        subst hq
        have hz : (0 : Int) = 0 ∨ (0 : Int) = 1 := by
          first | exact Or.inl rfl | exact Or.inr rfl | assumption | (repeat' split) <;> first | exact Or.inl rfl | exact Or.inr rfl | assumption
        refine ok_zreturn (L := [some (.inr (.inr (.inl 1))), some (.inl v1), some (.inl v2), some (.inl v3), some (.inl v4)]) (M := mm V h) (x := 0) rfl rfl hz ?_
        exact ⟨rfl, rfl, hz⟩
      ·
        replace hf := (if_neg c6).symm.trans hf
        refine ok_callA (L := [some (.inr (.inr (.inl 1))), some (.inl v1), some (.inl v2), some (.inl v3), some (.inl v4)]) (M := mm V h) (args := [.inl v4, .inl 1, .inl 200]) (rest := []) (y2 := 16) rfl rfl rfl (Or.inr (Or.inl rfl)) rfl rfl (Nat.le_of_ble_eq_true rfl) rfl rfl (Nat.le_of_ble_eq_true rfl) (Nat.le_of_ble_eq_true rfl) (w_isFrom rfl) ?_
        rintro _ _ ⟨rfl, rfl, hz7⟩
        refine ok_if_ne (x := isFromV v4 1 200) (L := [some (.inr (.inr (.inl 1))), some (.inl v1), some (.inl v2), some (.inl v3), some (.inl v4)]) (S := []) (M := mm V h) rfl rfl (fun c8 => ?_) (fun c8 => ?_)
        ·
          replace hf := (if_neg c8).symm.trans hf
          obtain ⟨q9, e9, hf⟩ := lt_x hf
          refine ok_callA (L := [some (.inr (.inr (.inl 1))), some (.inl v1), some (.inl v2), some (.inl v3), some (.inl v4)]) (M := mm (up (up (up (up V 15 5 v1) 15 6 v2) 15 7 v3) 15 8 v4) h) (args := [.inr (.inr (.inl 1))]) (rest := []) (y2 := 29) rfl rfl rfl (Or.inl rfl) rfl rfl (Nat.le_of_ble_eq_true rfl) rfl rfl (Nat.le_of_ble_eq_true rfl) (Nat.le_of_ble_eq_true rfl) (s_Br_changed e9) ?_
          rintro _ _ ⟨rfl, rfl⟩
          have hq : ((q9, 1)) = q := hf
          subst hq
          have hz : (1 : Int) = 0 ∨ (1 : Int) = 1 := by
            first | exact Or.inl rfl | exact Or.inr rfl | assumption | (repeat' split) <;> first | exact Or.inl rfl | exact Or.inr rfl | assumption
          refine ok_zreturn (L := [some (.inr (.inr (.inl 1))), some (.inl v1), some (.inl v2), some (.inl v3), some (.inl v4)]) (M := mm q9 h) (x := 1) rfl rfl hz ?_
          exact ⟨rfl, rfl, hz⟩
        ·
          replace hf := (if_pos c8).symm.trans hf
          have hq : ((V, 0)) = q := hf
          subst hq
          have hz : (0 : Int) = 0 ∨ (0 : Int) = 1 := by
            first | exact Or.inl rfl | exact Or.inr rfl | assumption | (repeat' split) <;> first | exact Or.inl rfl | exact Or.inr rfl | assumption
          refine ok_zreturn (L := [some (.inr (.inr (.inl 1))), some (.inl v1), some (.inl v2), some (.inl v3), some (.inl v4)]) (M := mm V h) (x := 0) rfl rfl hz ?_
          exact ⟨rfl, rfl, hz⟩
def f_Rolling_add (V : VV) (v1 : Int) (v2 : Int) : VV × Int := if (V 49 11) < 6 then lt_ (setV V 50 6 (V 49 11) v1) (fun q2 => lt_ (setV q2 51 6 (q2 49 11) v2) (fun q3 => (up (up q3 49 11 (w32 ((q3 49 11) + 1))) 49 10 (-1), w32 ((w32 ((q3 49 11) + 1)) - 1)))) else (V, (-1))
set_option maxRecDepth 20000 in
set_option maxHeartbeats 4000000 in
theorem s_Rolling_add {X : Xs} {d : Nat} {V : VV} {h : HP} {v1 : Int} {v2 : Int} {q : VV × Int} (hf : f_Rolling_add V v1 v2 = q) : Ok X (d + 2) 43 0 ([some (.inr (.inr (.inl 50))), some (.inl v1), some (.inl v2)], [], mm V h) (fun M r => M = mm q.1 h ∧ r = some (.inl q.2)) := by
  let QQ : Mm → Option AV → Prop := fun M r => M = mm q.1 h ∧ r = some (.inl q.2)
  show Ok X (d + 2) 43 0 ([some (.inr (.inr (.inl 50))), some (.inl v1), some (.inl v2)], [], mm V h) QQ
  refine ok_ic_lt (x := V 49 11) (u := 6) (L := [some (.inr (.inr (.inl 50))), some (.inl v1), some (.inl v2)]) (S := []) (M := mm V h) rfl rfl (fun c1 => ?_) (fun c1 => ?_)
  ·
    replace hf := (if_pos c1).symm.trans hf
    obtain ⟨q2, e2, hf⟩ := lt_x hf
    refine ok_callA (L := [some (.inr (.inr (.inl 50))), some (.inl v1), some (.inl v2)]) (M := mm V h) (args := [.inr (.inr (.inl 51)), .inl (V 49 11), .inl v1]) (rest := []) (y2 := 9) rfl rfl rfl (Or.inr (Or.inl rfl)) rfl rfl (Nat.le_of_ble_eq_true rfl) rfl rfl (Nat.le_of_ble_eq_true rfl) (Nat.le_of_ble_eq_true rfl) (w_set rfl e2) ?_
    rintro _ _ ⟨rfl, rfl⟩
    obtain ⟨q3, e3, hf⟩ := lt_x hf
    refine ok_callA (L := [some (.inr (.inr (.inl 50))), some (.inl v1), some (.inl v2)]) (M := mm q2 h) (args := [.inr (.inr (.inl 52)), .inl (q2 49 11), .inl v2]) (rest := []) (y2 := 9) rfl rfl rfl (Or.inr (Or.inl rfl)) rfl rfl (Nat.le_of_ble_eq_true rfl) rfl rfl (Nat.le_of_ble_eq_true rfl) (Nat.le_of_ble_eq_true rfl) (w_set rfl e3) ?_
    rintro _ _ ⟨rfl, rfl⟩
    have hq : ((up (up q3 49 11 (w32 ((q3 49 11) + 1))) 49 10 (-1), w32 ((w32 ((q3 49 11) + 1)) - 1))) = q := hf
    subst hq
    refine ok_ireturn (L := [some (.inr (.inr (.inl 50))), some (.inl v1), some (.inl v2)]) (M := mm (up (up q3 49 11 (w32 ((q3 49 11) + 1))) 49 10 (-1)) h) (x := w32 ((w32 ((q3 49 11) + 1)) - 1)) rfl rfl ?_
    exact ⟨rfl, rfl⟩
  ·
    replace hf := (if_neg (Int.not_lt.mpr c1)).symm.trans hf
    have hq : ((V, (-1))) = q := hf
    subst hq
    refine ok_ireturn (L := [some (.inr (.inr (.inl 50))), some (.inl v1), some (.inl v2)]) (M := mm V h) (x := (-1)) rfl rfl ?_
    exact ⟨rfl, rfl⟩
