/-! shallow functions of the program (printed by wip/tools/gen20.py) -/
def f_Br_isPaved_9 (V : VV) (h : HP)  : Option ((VV × HP) × Int) := some ((V, h), 0)
set_option maxRecDepth 20000 in
set_option maxHeartbeats 4000000 in
theorem s_Br_isPaved_9 {X : Xs} {d : Nat} {V : VV} {h : HP} {w1 : Int} {w2 : Int} {q : (VV × HP) × Int} (hh : HOK h) (hf : f_Br_isPaved_9 V h = some q) : Ok X (d + 8) 93 9 ([some (.inr (.inr (.inl 1))), some (.inl w1), some (.inl w2)], [], mm V h) (fun M r => M = mm q.1.1 q.1.2 ∧ HOK q.1.2 ∧ r = some (.inl q.2) ∧ (q.2 = 0 ∨ q.2 = 1)) := by
  let QQ : Mm → Option AV → Prop := fun M r => M = mm q.1.1 q.1.2 ∧ HOK q.1.2 ∧ r = some (.inl q.2) ∧ (q.2 = 0 ∨ q.2 = 1)
  show Ok X (d + 8) 93 9 ([some (.inr (.inr (.inl 1))), some (.inl w1), some (.inl w2)], [], mm V h) QQ
  refine ok_thru (L := [some (.inr (.inr (.inl 1))), some (.inl w1), some (.inl w2)]) (S := [.inl 0]) (M := mm V h) rfl rfl ?_
  obtain rfl := Option.some.inj hf
  have hz : (0 : Int) = 0 ∨ (0 : Int) = 1 := by
    first | exact Or.inl rfl | exact Or.inr rfl | assumption | (repeat' split) <;> first | exact Or.inl rfl | exact Or.inr rfl | assumption
  refine ok_zreturn (L := [some (.inr (.inr (.inl 1))), some (.inl w1), some (.inl w2)]) (M := mm V h) (x := 0) rfl rfl hz ?_
  exact ⟨rfl, hh, rfl, hz⟩
def f_Br_isPaved (V : VV) (h : HP) (v1 : Int) (v2 : Int) : Option ((VV × HP) × Int) := if (isFromV v2 1 20) = 0 then f_Br_isPaved_9 V h else if (isFromV v1 0 (w32 ((V 18 7) - 1))) = 0 then f_Br_isPaved_9 V h else Option.bind (f_Br_canBePaved V) (fun q5 => if q5 = 0 then f_Br_isPaved_9 V h else Option.bind (f_Paving_isDone V h v1 v2 (V 10 5)) (fun q7 => if q7.2 = 0 then f_Br_isPaved_9 q7.1.1 (q7.1.2) else some ((q7.1.1, (q7.1.2)), 1)))
set_option maxRecDepth 20000 in
set_option maxHeartbeats 4000000 in
theorem s_Br_isPaved {X : Xs} {d : Nat} {V : VV} {h : HP} {v1 : Int} {v2 : Int} {q : (VV × HP) × Int} (hh : HOK h) (hf : f_Br_isPaved V h v1 v2 = some q) : Ok X (d + 8) 93 0 ([some (.inr (.inr (.inl 1))), some (.inl v1), some (.inl v2)], [], mm V h) (fun M r => M = mm q.1.1 q.1.2 ∧ HOK q.1.2 ∧ r = some (.inl q.2) ∧ (q.2 = 0 ∨ q.2 = 1)) := by
  let QQ : Mm → Option AV → Prop := fun M r => M = mm q.1.1 q.1.2 ∧ HOK q.1.2 ∧ r = some (.inl q.2) ∧ (q.2 = 0 ∨ q.2 = 1)
  show Ok X (d + 8) 93 0 ([some (.inr (.inr (.inl 1))), some (.inl v1), some (.inl v2)], [], mm V h) QQ
  refine ok_callA (L := [some (.inr (.inr (.inl 1))), some (.inl v1), some (.inl v2)]) (M := mm V h) (args := [.inl v2, .inl 1, .inl 20]) (rest := []) (y2 := 16) rfl rfl rfl (Or.inr (Or.inl rfl)) rfl rfl (Nat.le_of_ble_eq_true rfl) rfl rfl (Nat.le_of_ble_eq_true rfl) (Nat.le_of_ble_eq_true rfl) (w_isFrom rfl) ?_
  rintro _ _ ⟨rfl, rfl, hz1⟩
  refine ok_if_eq (x := isFromV v2 1 20) (L := [some (.inr (.inr (.inl 1))), some (.inl v1), some (.inl v2)]) (S := []) (M := mm V h) rfl rfl (fun c2 => ?_) (fun c2 => ?_)
  ·
    replace hf := (if_pos c2).symm.trans hf
    exact s_Br_isPaved_9 hh hf
  ·
    replace hf := (if_neg c2).symm.trans hf
    refine ok_callA (L := [some (.inr (.inr (.inl 1))), some (.inl v1), some (.inl v2)]) (M := mm V h) (args := [.inl v1, .inl 0, .inl (w32 ((V 18 7) - 1))]) (rest := []) (y2 := 16) rfl rfl rfl (Or.inr (Or.inl rfl)) rfl rfl (Nat.le_of_ble_eq_true rfl) rfl rfl (Nat.le_of_ble_eq_true rfl) (Nat.le_of_ble_eq_true rfl) (w_isFrom rfl) ?_
    rintro _ _ ⟨rfl, rfl, hz3⟩
    refine ok_if_eq (x := isFromV v1 0 (w32 ((V 18 7) - 1))) (L := [some (.inr (.inr (.inl 1))), some (.inl v1), some (.inl v2)]) (S := []) (M := mm V h) rfl rfl (fun c4 => ?_) (fun c4 => ?_)
    ·
      replace hf := (if_pos c4).symm.trans hf
      exact s_Br_isPaved_9 hh hf
    ·
      replace hf := (if_neg c4).symm.trans hf
      obtain ⟨q5, e5, hf⟩ := obind hf
      refine ok_callA (L := [some (.inr (.inr (.inl 1))), some (.inl v1), some (.inl v2)]) (M := mm V h) (args := [.inr (.inr (.inl 1))]) (rest := []) (y2 := 94) rfl rfl rfl (Or.inl rfl) rfl rfl (Nat.le_of_ble_eq_true rfl) rfl rfl (Nat.le_of_ble_eq_true rfl) (Nat.le_of_ble_eq_true rfl) (s_Br_canBePaved e5) ?_
      rintro _ _ ⟨rfl, rfl, hz5⟩
      refine ok_if_eq (x := q5) (L := [some (.inr (.inr (.inl 1))), some (.inl v1), some (.inl v2)]) (S := []) (M := mm V h) rfl rfl (fun c6 => ?_) (fun c6 => ?_)
      ·
        replace hf := (if_pos c6).symm.trans hf
        exact s_Br_isPaved_9 hh hf
      ·
        replace hf := (if_neg c6).symm.trans hf
        obtain ⟨q7, e7, hf⟩ := obind hf
        refine ok_callA (L := [some (.inr (.inr (.inl 1))), some (.inl v1), some (.inl v2)]) (M := mm V h) (args := [.inr (.inr (.inl 47)), .inl v1, .inl v2, .inl (V 10 5)]) (rest := []) (y2 := 96) rfl rfl rfl (Or.inl rfl) rfl rfl (Nat.le_of_ble_eq_true rfl) rfl rfl (Nat.le_of_ble_eq_true rfl) (Nat.le_of_ble_eq_true rfl) (s_Paving_isDone hh e7) ?_
        rintro _ _ ⟨rfl, hh, rfl, hz7⟩
        refine ok_if_eq (x := q7.2) (L := [some (.inr (.inr (.inl 1))), some (.inl v1), some (.inl v2)]) (S := []) (M := mm q7.1.1 (q7.1.2)) rfl rfl (fun c8 => ?_) (fun c8 => ?_)
        ·
          replace hf := (if_pos c8).symm.trans hf
          exact s_Br_isPaved_9 hh hf
        ·
          replace hf := (if_neg c8).symm.trans hf
          refine ok_goto (L := [some (.inr (.inr (.inl 1))), some (.inl v1), some (.inl v2)]) (S := [.inl 1]) (M := mm q7.1.1 (q7.1.2)) rfl rfl ?_
          obtain rfl := Option.some.inj hf
          have hz : (1 : Int) = 0 ∨ (1 : Int) = 1 := by
            first | exact Or.inl rfl | exact Or.inr rfl | assumption | (repeat' split) <;> first | exact Or.inl rfl | exact Or.inr rfl | assumption
          refine ok_zreturn (L := [some (.inr (.inr (.inl 1))), some (.inl v1), some (.inl v2)]) (M := mm q7.1.1 (q7.1.2)) (x := 1) rfl rfl hz ?_
          exact ⟨rfl, hh, rfl, hz⟩
def f_Br_run (V : VV) (h : HP) (v1 : Int) (v2 : Int) (v3 : Int) : Option ((VV × HP) × Int) := if (isFromV v3 0 5) = 0 then some ((V, h), (-1)) else Option.bind (f_Br_isPaved V h v1 v2) (fun q3 => if q3.2 = 0 then some ((q3.1.1, (q3.1.2)), (-1)) else some ((q3.1.1, (q3.1.2)), (if v3 = 2 then q3.1.1 28 3 else atV q3.1.1 47 6 v3 : Int)))
set_option maxRecDepth 20000 in
set_option maxHeartbeats 4000000 in
theorem s_Br_run {X : Xs} {d : Nat} {V : VV} {h : HP} {v1 : Int} {v2 : Int} {v3 : Int} {q : (VV × HP) × Int} (hh : HOK h) (hf : f_Br_run V h v1 v2 v3 = some q) : Ok X (d + 9) 92 0 ([some (.inr (.inr (.inl 1))), some (.inl v1), some (.inl v2), some (.inl v3)], [], mm V h) (fun M r => M = mm q.1.1 q.1.2 ∧ HOK q.1.2 ∧ r = some (.inl q.2)) := by
  let QQ : Mm → Option AV → Prop := fun M r => M = mm q.1.1 q.1.2 ∧ HOK q.1.2 ∧ r = some (.inl q.2)
  show Ok X (d + 9) 92 0 ([some (.inr (.inr (.inl 1))), some (.inl v1), some (.inl v2), some (.inl v3)], [], mm V h) QQ
  refine ok_callA (L := [some (.inr (.inr (.inl 1))), some (.inl v1), some (.inl v2), some (.inl v3)]) (M := mm V h) (args := [.inl v3, .inl 0, .inl 5]) (rest := []) (y2 := 16) rfl rfl rfl (Or.inr (Or.inl rfl)) rfl rfl (Nat.le_of_ble_eq_true rfl) rfl rfl (Nat.le_of_ble_eq_true rfl) (Nat.le_of_ble_eq_true rfl) (w_isFrom rfl) ?_
  rintro _ _ ⟨rfl, rfl, hz1⟩
  refine ok_if_eq (x := isFromV v3 0 5) (L := [some (.inr (.inr (.inl 1))), some (.inl v1), some (.inl v2), some (.inl v3)]) (S := []) (M := mm V h) rfl rfl (fun c2 => ?_) (fun c2 => ?_)
  ·
    replace hf := (if_pos c2).symm.trans hf
    obtain rfl := Option.some.inj hf
    refine ok_ireturn (L := [some (.inr (.inr (.inl 1))), some (.inl v1), some (.inl v2), some (.inl v3)]) (M := mm V h) (x := (-1)) rfl rfl ?_
    exact ⟨rfl, hh, rfl⟩
  ·
    replace hf := (if_neg c2).symm.trans hf
    obtain ⟨q3, e3, hf⟩ := obind hf
    refine ok_callA (L := [some (.inr (.inr (.inl 1))), some (.inl v1), some (.inl v2), some (.inl v3)]) (M := mm V h) (args := [.inr (.inr (.inl 1)), .inl v1, .inl v2]) (rest := []) (y2 := 93) rfl rfl rfl (Or.inl rfl) rfl rfl (Nat.le_of_ble_eq_true rfl) rfl rfl (Nat.le_of_ble_eq_true rfl) (Nat.le_of_ble_eq_true rfl) (s_Br_isPaved hh e3) ?_
    rintro _ _ ⟨rfl, hh, rfl, hz3⟩
    refine ok_if_ne (x := q3.2) (L := [some (.inr (.inr (.inl 1))), some (.inl v1), some (.inl v2), some (.inl v3)]) (S := []) (M := mm q3.1.1 (q3.1.2)) rfl rfl (fun c4 => ?_) (fun c4 => ?_)
    ·
      replace hf := (if_neg c4).symm.trans hf
      have JN5 : Ok X (d + 9) 92 8 ([some (.inr (.inr (.inl 1))), some (.inl v1), some (.inl v2), some (.inl v3)], [.inl (if v3 = 2 then q3.1.1 28 3 else atV q3.1.1 47 6 v3 : Int)], mm q3.1.1 (q3.1.2)) QQ := by
        obtain rfl := Option.some.inj hf
        refine ok_ireturn (L := [some (.inr (.inr (.inl 1))), some (.inl v1), some (.inl v2), some (.inl v3)]) (M := mm q3.1.1 (q3.1.2)) (x := (if v3 = 2 then q3.1.1 28 3 else atV q3.1.1 47 6 v3 : Int)) rfl rfl ?_
        exact ⟨rfl, hh, rfl⟩
      clear hf
      refine ok_ic_ne (x := v3) (u := 2) (L := [some (.inr (.inr (.inl 1))), some (.inl v1), some (.inl v2), some (.inl v3)]) (S := []) (M := mm q3.1.1 (q3.1.2)) rfl rfl (fun c6 => ?_) (fun c6 => ?_)
      ·
        simp only [if_neg c6] at JN5
        refine ok_callA (L := [some (.inr (.inr (.inl 1))), some (.inl v1), some (.inl v2), some (.inl v3)]) (M := mm q3.1.1 (q3.1.2)) (args := [.inr (.inr (.inl 48)), .inl v3]) (rest := []) (y2 := 21) rfl rfl rfl (Or.inr (Or.inl rfl)) rfl rfl (Nat.le_of_ble_eq_true rfl) rfl rfl (Nat.le_of_ble_eq_true rfl) (Nat.le_of_ble_eq_true rfl) (w_at rfl rfl) ?_
        rintro _ _ ⟨rfl, rfl⟩
        first | exact JN5 | (simp only [if_neg c6]; exact JN5)
      ·
        simp only [if_pos c6] at JN5
        refine ok_goto (L := [some (.inr (.inr (.inl 1))), some (.inl v1), some (.inl v2), some (.inl v3)]) (S := [.inl (q3.1.1 28 3)]) (M := mm q3.1.1 (q3.1.2)) rfl rfl ?_
        first | exact JN5 | (simp only [if_pos c6]; exact JN5)
    ·
      replace hf := (if_pos c4).symm.trans hf
      obtain rfl := Option.some.inj hf
      refine ok_ireturn (L := [some (.inr (.inr (.inl 1))), some (.inl v1), some (.inl v2), some (.inl v3)]) (M := mm q3.1.1 (q3.1.2)) (x := (-1)) rfl rfl ?_
      exact ⟨rfl, hh, rfl⟩
def f_Br_tryPace_1 : Nat → VV → HP → Int → Int → Int → Int → Int → (Option ((VV × HP) × Int))
  | 0, _, _, _, _, _, _, _ => none
  | n + 1, V, h, v1, v2, v3, v4, v5 => if v5 < (V 18 7) then Option.bind (f_Paving_isDone V h v5 v1 (V 10 5)) (fun q5 => if q5.2 = 0 then some ((q5.1.1, (q5.1.2)), 0) else f_Br_tryPace_1 n q5.1.1 (q5.1.2) v1 (max v2 (atV q5.1.1 47 6 0)) (w32 (v3 + (atV q5.1.1 47 6 0))) (max v4 (atV q5.1.1 47 6 1)) (w32 (v5 + 1))) else lt_ (setV V 59 3 0 v2) (fun q2 => lt_ (setV q2 59 3 1 v3) (fun q3 => lt_ (setV q3 59 3 2 v4) (fun q4 => some ((q4, h), 1))))
set_option maxRecDepth 20000 in
set_option maxHeartbeats 4000000 in
theorem s_Br_tryPace_1_n {X : Xs} {d : Nat}  {q : (VV × HP) × Int} : ∀ (n : Nat) (V : VV) (h : HP) (v1 : Int) (v2 : Int) (v3 : Int) (v4 : Int) (v5 : Int) (z6 : Option AV), HOK h → f_Br_tryPace_1 n V h v1 v2 v3 v4 v5 = some q → Ok X (d + 8) 125 1 ([some (.inr (.inr (.inl 1))), some (.inl v1), some (.inl v2), some (.inl v3), some (.inl v4), some (.inl v5), z6], [], mm V h) (fun M r => M = mm q.1.1 q.1.2 ∧ HOK q.1.2 ∧ r = some (.inl q.2) ∧ (q.2 = 0 ∨ q.2 = 1)) := by
  intro n
  induction n with
  | zero => intro V h v1 v2 v3 v4 v5 z6 hh hf; cases hf
  | succ n ih =>
    intro V h v1 v2 v3 v4 v5 z6 hh hf
    let QQ : Mm → Option AV → Prop := fun M r => M = mm q.1.1 q.1.2 ∧ HOK q.1.2 ∧ r = some (.inl q.2) ∧ (q.2 = 0 ∨ q.2 = 1)
    show Ok X (d + 8) 125 1 ([some (.inr (.inr (.inl 1))), some (.inl v1), some (.inl v2), some (.inl v3), some (.inl v4), some (.inl v5), z6], [], mm V h) QQ
    refine ok_ic_ge (x := v5) (u := V 18 7) (L := [some (.inr (.inr (.inl 1))), some (.inl v1), some (.inl v2), some (.inl v3), some (.inl v4), some (.inl v5), z6]) (S := []) (M := mm V h) rfl rfl (fun c1 => ?_) (fun c1 => ?_)
    ·
      replace hf := (if_neg (Int.not_lt.mpr c1)).symm.trans hf
      obtain ⟨q2, e2, hf⟩ := lt_x hf
      refine ok_callA (L := [some (.inr (.inr (.inl 1))), some (.inl v1), some (.inl v2), some (.inl v3), some (.inl v4), some (.inl v5), z6]) (M := mm V h) (args := [.inr (.inr (.inl 60)), .inl 0, .inl v2]) (rest := []) (y2 := 9) rfl rfl rfl (Or.inr (Or.inl rfl)) rfl rfl (Nat.le_of_ble_eq_true rfl) rfl rfl (Nat.le_of_ble_eq_true rfl) (Nat.le_of_ble_eq_true rfl) (w_set rfl e2) ?_
      rintro _ _ ⟨rfl, rfl⟩
      obtain ⟨q3, e3, hf⟩ := lt_x hf
      refine ok_callA (L := [some (.inr (.inr (.inl 1))), some (.inl v1), some (.inl v2), some (.inl v3), some (.inl v4), some (.inl v5), z6]) (M := mm q2 h) (args := [.inr (.inr (.inl 60)), .inl 1, .inl v3]) (rest := []) (y2 := 9) rfl rfl rfl (Or.inr (Or.inl rfl)) rfl rfl (Nat.le_of_ble_eq_true rfl) rfl rfl (Nat.le_of_ble_eq_true rfl) (Nat.le_of_ble_eq_true rfl) (w_set rfl e3) ?_
      rintro _ _ ⟨rfl, rfl⟩
      obtain ⟨q4, e4, hf⟩ := lt_x hf
      refine ok_callA (L := [some (.inr (.inr (.inl 1))), some (.inl v1), some (.inl v2), some (.inl v3), some (.inl v4), some (.inl v5), z6]) (M := mm q3 h) (args := [.inr (.inr (.inl 60)), .inl 2, .inl v4]) (rest := []) (y2 := 9) rfl rfl rfl (Or.inr (Or.inl rfl)) rfl rfl (Nat.le_of_ble_eq_true rfl) rfl rfl (Nat.le_of_ble_eq_true rfl) (Nat.le_of_ble_eq_true rfl) (w_set rfl e4) ?_
      rintro _ _ ⟨rfl, rfl⟩
      obtain rfl := Option.some.inj hf
      have hz : (1 : Int) = 0 ∨ (1 : Int) = 1 := by
        first | exact Or.inl rfl | exact Or.inr rfl | assumption | (repeat' split) <;> first | exact Or.inl rfl | exact Or.inr rfl | assumption
      refine ok_zreturn (L := [some (.inr (.inr (.inl 1))), some (.inl v1), some (.inl v2), some (.inl v3), some (.inl v4), some (.inl v5), z6]) (M := mm q4 h) (x := 1) rfl rfl hz ?_
      exact ⟨rfl, hh, rfl, hz⟩
    ·
      replace hf := (if_pos c1).symm.trans hf
      obtain ⟨q5, e5, hf⟩ := obind hf
      refine ok_callA (L := [some (.inr (.inr (.inl 1))), some (.inl v1), some (.inl v2), some (.inl v3), some (.inl v4), some (.inl v5), z6]) (M := mm V h) (args := [.inr (.inr (.inl 47)), .inl v5, .inl v1, .inl (V 10 5)]) (rest := []) (y2 := 96) rfl rfl rfl (Or.inl rfl) rfl rfl (Nat.le_of_ble_eq_true rfl) rfl rfl (Nat.le_of_ble_eq_true rfl) (Nat.le_of_ble_eq_true rfl) (s_Paving_isDone hh e5) ?_
      rintro _ _ ⟨rfl, hh, rfl, hz5⟩
      refine ok_if_ne (x := q5.2) (L := [some (.inr (.inr (.inl 1))), some (.inl v1), some (.inl v2), some (.inl v3), some (.inl v4), some (.inl v5), z6]) (S := []) (M := mm q5.1.1 (q5.1.2)) rfl rfl (fun c6 => ?_) (fun c6 => ?_)
      ·
        replace hf := (if_neg c6).symm.trans hf
        refine ok_callA (L := [some (.inr (.inr (.inl 1))), some (.inl v1), some (.inl v2), some (.inl v3), some (.inl v4), some (.inl v5), z6]) (M := mm q5.1.1 (q5.1.2)) (args := [.inr (.inr (.inl 48)), .inl 0]) (rest := []) (y2 := 21) rfl rfl rfl (Or.inr (Or.inl rfl)) rfl rfl (Nat.le_of_ble_eq_true rfl) rfl rfl (Nat.le_of_ble_eq_true rfl) (Nat.le_of_ble_eq_true rfl) (w_at rfl rfl) ?_
        rintro _ _ ⟨rfl, rfl⟩
        refine ok_mmax (u := v2) (v := atV q5.1.1 47 6 0) (L := [some (.inr (.inr (.inl 1))), some (.inl v1), some (.inl v2), some (.inl v3), some (.inl v4), some (.inl v5), some (.inl (atV q5.1.1 47 6 0))]) (S := []) (M := mm q5.1.1 (q5.1.2)) rfl rfl rfl (Nat.le_of_ble_eq_true rfl) ?_
        refine ok_callA (L := [some (.inr (.inr (.inl 1))), some (.inl v1), some (.inl (max v2 (atV q5.1.1 47 6 0))), some (.inl (w32 (v3 + (atV q5.1.1 47 6 0)))), some (.inl v4), some (.inl v5), some (.inl (atV q5.1.1 47 6 0))]) (M := mm q5.1.1 (q5.1.2)) (args := [.inr (.inr (.inl 48)), .inl 1]) (rest := [.inl v4]) (y2 := 21) rfl rfl rfl (Or.inr (Or.inl rfl)) rfl rfl (Nat.le_of_ble_eq_true rfl) rfl rfl (Nat.le_of_ble_eq_true rfl) (Nat.le_of_ble_eq_true rfl) (w_at rfl rfl) ?_
        rintro _ _ ⟨rfl, rfl⟩
        refine ok_mmax (u := v4) (v := atV q5.1.1 47 6 1) (L := [some (.inr (.inr (.inl 1))), some (.inl v1), some (.inl (max v2 (atV q5.1.1 47 6 0))), some (.inl (w32 (v3 + (atV q5.1.1 47 6 0)))), some (.inl v4), some (.inl v5), some (.inl (atV q5.1.1 47 6 0))]) (S := []) (M := mm q5.1.1 (q5.1.2)) rfl rfl rfl (Nat.le_of_ble_eq_true rfl) ?_
        refine ok_goto (L := [some (.inr (.inr (.inl 1))), some (.inl v1), some (.inl (max v2 (atV q5.1.1 47 6 0))), some (.inl (w32 (v3 + (atV q5.1.1 47 6 0)))), some (.inl (max v4 (atV q5.1.1 47 6 1))), some (.inl (w32 (v5 + 1))), some (.inl (atV q5.1.1 47 6 0))]) (S := []) (M := mm q5.1.1 (q5.1.2)) rfl rfl ?_
        exact ih q5.1.1 (q5.1.2) v1 (max v2 (atV q5.1.1 47 6 0)) (w32 (v3 + (atV q5.1.1 47 6 0))) (max v4 (atV q5.1.1 47 6 1)) (w32 (v5 + 1)) (some (.inl (atV q5.1.1 47 6 0))) hh hf
      ·
        replace hf := (if_pos c6).symm.trans hf
        obtain rfl := Option.some.inj hf
        have hz : (0 : Int) = 0 ∨ (0 : Int) = 1 := by
          first | exact Or.inl rfl | exact Or.inr rfl | assumption | (repeat' split) <;> first | exact Or.inl rfl | exact Or.inr rfl | assumption
        refine ok_zreturn (L := [some (.inr (.inr (.inl 1))), some (.inl v1), some (.inl v2), some (.inl v3), some (.inl v4), some (.inl v5), z6]) (M := mm q5.1.1 (q5.1.2)) (x := 0) rfl rfl hz ?_
        exact ⟨rfl, hh, rfl, hz⟩
theorem s_Br_tryPace_1 {X : Xs} {d : Nat} {V : VV} {h : HP} {v1 : Int} {v2 : Int} {v3 : Int} {v4 : Int} {v5 : Int} {z6 : Option AV} {n : Nat} {q : (VV × HP) × Int} (hh : HOK h) (hf : f_Br_tryPace_1 n V h v1 v2 v3 v4 v5 = some q) : Ok X (d + 8) 125 1 ([some (.inr (.inr (.inl 1))), some (.inl v1), some (.inl v2), some (.inl v3), some (.inl v4), some (.inl v5), z6], [], mm V h) (fun M r => M = mm q.1.1 q.1.2 ∧ HOK q.1.2 ∧ r = some (.inl q.2) ∧ (q.2 = 0 ∨ q.2 = 1)) :=
  s_Br_tryPace_1_n n V h v1 v2 v3 v4 v5 z6 hh hf
def f_Br_tryPace (V : VV) (h : HP) (v1 : Int) : Option ((VV × HP) × Int) := f_Br_tryPace_1 FU V h v1 0 0 0 0
set_option maxRecDepth 20000 in
set_option maxHeartbeats 4000000 in
theorem s_Br_tryPace {X : Xs} {d : Nat} {V : VV} {h : HP} {v1 : Int} {q : (VV × HP) × Int} (hh : HOK h) (hf : f_Br_tryPace V h v1 = some q) : Ok X (d + 8) 125 0 ([some (.inr (.inr (.inl 1))), some (.inl v1), none, none, none, none, none], [], mm V h) (fun M r => M = mm q.1.1 q.1.2 ∧ HOK q.1.2 ∧ r = some (.inl q.2) ∧ (q.2 = 0 ∨ q.2 = 1)) := by
  let QQ : Mm → Option AV → Prop := fun M r => M = mm q.1.1 q.1.2 ∧ HOK q.1.2 ∧ r = some (.inl q.2) ∧ (q.2 = 0 ∨ q.2 = 1)
  show Ok X (d + 8) 125 0 ([some (.inr (.inr (.inl 1))), some (.inl v1), none, none, none, none, none], [], mm V h) QQ
  refine ok_thru (L := [some (.inr (.inr (.inl 1))), some (.inl v1), some (.inl 0), some (.inl 0), some (.inl 0), some (.inl 0), none]) (S := []) (M := mm V h) rfl rfl ?_
  exact s_Br_tryPace_1 hh hf
def f_Br_isTrialBetter_1 : Nat → VV → Int → (Option (Int))
  | 0, _, _ => none
  | n + 1, V, v1 => if v1 < 3 then if (atV V 59 3 v1) = (atV V 60 3 v1) then f_Br_isTrialBetter_1 n V (w32 (v1 + 1)) else some (if (atV V 59 3 v1) < (atV V 60 3 v1) then 1 else 0 : Int) else some 0
set_option maxRecDepth 20000 in
set_option maxHeartbeats 4000000 in
theorem s_Br_isTrialBetter_1_n {X : Xs} {d : Nat} {V : VV} {h : HP} {q : Int} : ∀ (n : Nat) (v1 : Int), f_Br_isTrialBetter_1 n V v1 = some q → Ok X (d + 2) 126 1 ([some (.inr (.inr (.inl 1))), some (.inl v1)], [], mm V h) (fun M r => M = mm V h ∧ r = some (.inl q) ∧ (q = 0 ∨ q = 1)) := by
  intro n
  induction n with
  | zero => intro v1 hf; cases hf
  | succ n ih =>
    intro v1 hf
    let QQ : Mm → Option AV → Prop := fun M r => M = mm V h ∧ r = some (.inl q) ∧ (q = 0 ∨ q = 1)
    show Ok X (d + 2) 126 1 ([some (.inr (.inr (.inl 1))), some (.inl v1)], [], mm V h) QQ
    refine ok_alen (id := 59) (n := 3) (L := [some (.inr (.inr (.inl 1))), some (.inl v1)]) (S := [.inl v1]) (M := mm V h) rfl rfl rfl ?_
    refine ok_ic_ge (x := v1) (u := 3) (L := [some (.inr (.inr (.inl 1))), some (.inl v1)]) (S := []) (M := mm V h) rfl rfl (fun c1 => ?_) (fun c1 => ?_)
    ·
      replace hf := (if_neg (Int.not_lt.mpr c1)).symm.trans hf
      obtain rfl := Option.some.inj hf
      have hz : (0 : Int) = 0 ∨ (0 : Int) = 1 := by
        first | exact Or.inl rfl | exact Or.inr rfl | assumption | (repeat' split) <;> first | exact Or.inl rfl | exact Or.inr rfl | assumption
      refine ok_zreturn (L := [some (.inr (.inr (.inl 1))), some (.inl v1)]) (M := mm V h) (x := 0) rfl rfl hz ?_
      exact ⟨rfl, rfl, hz⟩
    ·
      replace hf := (if_pos c1).symm.trans hf
      refine ok_callA (L := [some (.inr (.inr (.inl 1))), some (.inl v1)]) (M := mm V h) (args := [.inr (.inr (.inl 60)), .inl v1]) (rest := []) (y2 := 21) rfl rfl rfl (Or.inr (Or.inl rfl)) rfl rfl (Nat.le_of_ble_eq_true rfl) rfl rfl (Nat.le_of_ble_eq_true rfl) (Nat.le_of_ble_eq_true rfl) (w_at rfl rfl) ?_
      rintro _ _ ⟨rfl, rfl⟩
      refine ok_callA (L := [some (.inr (.inr (.inl 1))), some (.inl v1)]) (M := mm V h) (args := [.inr (.inr (.inl 61)), .inl v1]) (rest := [.inl (atV V 59 3 v1)]) (y2 := 21) rfl rfl rfl (Or.inr (Or.inl rfl)) rfl rfl (Nat.le_of_ble_eq_true rfl) rfl rfl (Nat.le_of_ble_eq_true rfl) (Nat.le_of_ble_eq_true rfl) (w_at rfl rfl) ?_
      rintro _ _ ⟨rfl, rfl⟩
      refine ok_ic_eq (x := atV V 59 3 v1) (u := atV V 60 3 v1) (L := [some (.inr (.inr (.inl 1))), some (.inl v1)]) (S := []) (M := mm V h) rfl rfl (fun c4 => ?_) (fun c4 => ?_)
      ·
        replace hf := (if_pos c4).symm.trans hf
        refine ok_goto (L := [some (.inr (.inr (.inl 1))), some (.inl (w32 (v1 + 1)))]) (S := []) (M := mm V h) rfl rfl ?_
        exact ih (w32 (v1 + 1)) hf
      ·
        replace hf := (if_neg c4).symm.trans hf
        refine ok_callA (L := [some (.inr (.inr (.inl 1))), some (.inl v1)]) (M := mm V h) (args := [.inr (.inr (.inl 60)), .inl v1]) (rest := []) (y2 := 21) rfl rfl rfl (Or.inr (Or.inl rfl)) rfl rfl (Nat.le_of_ble_eq_true rfl) rfl rfl (Nat.le_of_ble_eq_true rfl) (Nat.le_of_ble_eq_true rfl) (w_at rfl rfl) ?_
        rintro _ _ ⟨rfl, rfl⟩
        refine ok_callA (L := [some (.inr (.inr (.inl 1))), some (.inl v1)]) (M := mm V h) (args := [.inr (.inr (.inl 61)), .inl v1]) (rest := [.inl (atV V 59 3 v1)]) (y2 := 21) rfl rfl rfl (Or.inr (Or.inl rfl)) rfl rfl (Nat.le_of_ble_eq_true rfl) rfl rfl (Nat.le_of_ble_eq_true rfl) (Nat.le_of_ble_eq_true rfl) (w_at rfl rfl) ?_
        rintro _ _ ⟨rfl, rfl⟩
        have JN7 : Ok X (d + 2) 126 11 ([some (.inr (.inr (.inl 1))), some (.inl v1)], [.inl (if (atV V 59 3 v1) < (atV V 60 3 v1) then 1 else 0 : Int)], mm V h) QQ := by
          obtain rfl := Option.some.inj hf
          have hz : ((if (atV V 59 3 v1) < (atV V 60 3 v1) then 1 else 0 : Int) : Int) = 0 ∨ ((if (atV V 59 3 v1) < (atV V 60 3 v1) then 1 else 0 : Int) : Int) = 1 := by
            first | exact Or.inl rfl | exact Or.inr rfl | assumption | (repeat' split) <;> first | exact Or.inl rfl | exact Or.inr rfl | assumption
          refine ok_zreturn (L := [some (.inr (.inr (.inl 1))), some (.inl v1)]) (M := mm V h) (x := (if (atV V 59 3 v1) < (atV V 60 3 v1) then 1 else 0 : Int)) rfl rfl hz ?_
          exact ⟨rfl, rfl, hz⟩
        clear hf
        refine ok_ic_ge (x := atV V 59 3 v1) (u := atV V 60 3 v1) (L := [some (.inr (.inr (.inl 1))), some (.inl v1)]) (S := []) (M := mm V h) rfl rfl (fun c8 => ?_) (fun c8 => ?_)
        ·
          simp only [if_neg (Int.not_lt.mpr c8)] at JN7
          refine ok_thru (L := [some (.inr (.inr (.inl 1))), some (.inl v1)]) (S := [.inl 0]) (M := mm V h) rfl rfl ?_
          first | exact JN7 | (simp only [if_neg (Int.not_lt.mpr c8)]; exact JN7)
        ·
          simp only [if_pos c8] at JN7
          refine ok_goto (L := [some (.inr (.inr (.inl 1))), some (.inl v1)]) (S := [.inl 1]) (M := mm V h) rfl rfl ?_
          first | exact JN7 | (simp only [if_pos c8]; exact JN7)
theorem s_Br_isTrialBetter_1 {X : Xs} {d : Nat} {V : VV} {h : HP} {v1 : Int} {n : Nat} {q : Int} (hf : f_Br_isTrialBetter_1 n V v1 = some q) : Ok X (d + 2) 126 1 ([some (.inr (.inr (.inl 1))), some (.inl v1)], [], mm V h) (fun M r => M = mm V h ∧ r = some (.inl q) ∧ (q = 0 ∨ q = 1)) :=
  s_Br_isTrialBetter_1_n n v1 hf
def f_Br_isTrialBetter (V : VV)  : Option (Int) := f_Br_isTrialBetter_1 FU V 0
set_option maxRecDepth 20000 in
set_option maxHeartbeats 4000000 in
theorem s_Br_isTrialBetter {X : Xs} {d : Nat} {V : VV} {h : HP} {q : Int} (hf : f_Br_isTrialBetter V = some q) : Ok X (d + 2) 126 0 ([some (.inr (.inr (.inl 1))), none], [], mm V h) (fun M r => M = mm V h ∧ r = some (.inl q) ∧ (q = 0 ∨ q = 1)) := by
  let QQ : Mm → Option AV → Prop := fun M r => M = mm V h ∧ r = some (.inl q) ∧ (q = 0 ∨ q = 1)
  show Ok X (d + 2) 126 0 ([some (.inr (.inr (.inl 1))), none], [], mm V h) QQ
  refine ok_thru (L := [some (.inr (.inr (.inl 1))), some (.inl 0)]) (S := []) (M := mm V h) rfl rfl ?_
  exact s_Br_isTrialBetter_1 hf
def f_Br_neverStops_1 : Nat → VV → HP → Int → Int → Int → (Option ((VV × HP) × Int))
  | 0, _, _, _, _, _ => none
  | n + 1, V, h, v1, v2, v3 => if v3 < (V 18 7) then Option.bind (f_Paving_isDone V h v3 v1 v2) (fun q2 => if q2.2 = 0 then some ((q2.1.1, (q2.1.2)), 0) else if (atV q2.1.1 47 6 0) = 0 then f_Br_neverStops_1 n q2.1.1 (q2.1.2) v1 v2 (w32 (v3 + 1)) else some ((q2.1.1, (q2.1.2)), 0)) else some ((V, h), 1)
set_option maxRecDepth 20000 in
set_option maxHeartbeats 4000000 in
theorem s_Br_neverStops_1_n {X : Xs} {d : Nat}  {q : (VV × HP) × Int} : ∀ (n : Nat) (V : VV) (h : HP) (v1 : Int) (v2 : Int) (v3 : Int), HOK h → f_Br_neverStops_1 n V h v1 v2 v3 = some q → Ok X (d + 8) 128 1 ([some (.inr (.inr (.inl 1))), some (.inl v1), some (.inl v2), some (.inl v3)], [], mm V h) (fun M r => M = mm q.1.1 q.1.2 ∧ HOK q.1.2 ∧ r = some (.inl q.2) ∧ (q.2 = 0 ∨ q.2 = 1)) := by
  intro n
  induction n with
  | zero => intro V h v1 v2 v3 hh hf; cases hf
  | succ n ih =>
    intro V h v1 v2 v3 hh hf
    let QQ : Mm → Option AV → Prop := fun M r => M = mm q.1.1 q.1.2 ∧ HOK q.1.2 ∧ r = some (.inl q.2) ∧ (q.2 = 0 ∨ q.2 = 1)
    show Ok X (d + 8) 128 1 ([some (.inr (.inr (.inl 1))), some (.inl v1), some (.inl v2), some (.inl v3)], [], mm V h) QQ
    refine ok_ic_ge (x := v3) (u := V 18 7) (L := [some (.inr (.inr (.inl 1))), some (.inl v1), some (.inl v2), some (.inl v3)]) (S := []) (M := mm V h) rfl rfl (fun c1 => ?_) (fun c1 => ?_)
    ·
      replace hf := (if_neg (Int.not_lt.mpr c1)).symm.trans hf
      obtain rfl := Option.some.inj hf
      have hz : (1 : Int) = 0 ∨ (1 : Int) = 1 := by
        first | exact Or.inl rfl | exact Or.inr rfl | assumption | (repeat' split) <;> first | exact Or.inl rfl | exact Or.inr rfl | assumption
      refine ok_zreturn (L := [some (.inr (.inr (.inl 1))), some (.inl v1), some (.inl v2), some (.inl v3)]) (M := mm V h) (x := 1) rfl rfl hz ?_
      exact ⟨rfl, hh, rfl, hz⟩
    ·
      replace hf := (if_pos c1).symm.trans hf
      obtain ⟨q2, e2, hf⟩ := obind hf
      refine ok_callA (L := [some (.inr (.inr (.inl 1))), some (.inl v1), some (.inl v2), some (.inl v3)]) (M := mm V h) (args := [.inr (.inr (.inl 47)), .inl v3, .inl v1, .inl v2]) (rest := []) (y2 := 96) rfl rfl rfl (Or.inl rfl) rfl rfl (Nat.le_of_ble_eq_true rfl) rfl rfl (Nat.le_of_ble_eq_true rfl) (Nat.le_of_ble_eq_true rfl) (s_Paving_isDone hh e2) ?_
      rintro _ _ ⟨rfl, hh, rfl, hz2⟩
      refine ok_if_eq (x := q2.2) (L := [some (.inr (.inr (.inl 1))), some (.inl v1), some (.inl v2), some (.inl v3)]) (S := []) (M := mm q2.1.1 (q2.1.2)) rfl rfl (fun c3 => ?_) (fun c3 => ?_)
      ·
        replace hf := (if_pos c3).symm.trans hf
        obtain rfl := Option.some.inj hf
        have hz : (0 : Int) = 0 ∨ (0 : Int) = 1 := by
          first | exact Or.inl rfl | exact Or.inr rfl | assumption | (repeat' split) <;> first | exact Or.inl rfl | exact Or.inr rfl | assumption
        refine ok_zreturn (L := [some (.inr (.inr (.inl 1))), some (.inl v1), some (.inl v2), some (.inl v3)]) (M := mm q2.1.1 (q2.1.2)) (x := 0) rfl rfl hz ?_
        exact ⟨rfl, hh, rfl, hz⟩
      ·
        replace hf := (if_neg c3).symm.trans hf
        refine ok_callA (L := [some (.inr (.inr (.inl 1))), some (.inl v1), some (.inl v2), some (.inl v3)]) (M := mm q2.1.1 (q2.1.2)) (args := [.inr (.inr (.inl 48)), .inl 0]) (rest := []) (y2 := 21) rfl rfl rfl (Or.inr (Or.inl rfl)) rfl rfl (Nat.le_of_ble_eq_true rfl) rfl rfl (Nat.le_of_ble_eq_true rfl) (Nat.le_of_ble_eq_true rfl) (w_at rfl rfl) ?_
        rintro _ _ ⟨rfl, rfl⟩
        refine ok_if_eq (x := atV q2.1.1 47 6 0) (L := [some (.inr (.inr (.inl 1))), some (.inl v1), some (.inl v2), some (.inl v3)]) (S := []) (M := mm q2.1.1 (q2.1.2)) rfl rfl (fun c5 => ?_) (fun c5 => ?_)
        ·
          replace hf := (if_pos c5).symm.trans hf
          refine ok_goto (L := [some (.inr (.inr (.inl 1))), some (.inl v1), some (.inl v2), some (.inl (w32 (v3 + 1)))]) (S := []) (M := mm q2.1.1 (q2.1.2)) rfl rfl ?_
          exact ih q2.1.1 (q2.1.2) v1 v2 (w32 (v3 + 1)) hh hf
        ·
          replace hf := (if_neg c5).symm.trans hf
          obtain rfl := Option.some.inj hf
          have hz : (0 : Int) = 0 ∨ (0 : Int) = 1 := by
            first | exact Or.inl rfl | exact Or.inr rfl | assumption | (repeat' split) <;> first | exact Or.inl rfl | exact Or.inr rfl | assumption
          refine ok_zreturn (L := [some (.inr (.inr (.inl 1))), some (.inl v1), some (.inl v2), some (.inl v3)]) (M := mm q2.1.1 (q2.1.2)) (x := 0) rfl rfl hz ?_
          exact ⟨rfl, hh, rfl, hz⟩
theorem s_Br_neverStops_1 {X : Xs} {d : Nat} {V : VV} {h : HP} {v1 : Int} {v2 : Int} {v3 : Int} {n : Nat} {q : (VV × HP) × Int} (hh : HOK h) (hf : f_Br_neverStops_1 n V h v1 v2 v3 = some q) : Ok X (d + 8) 128 1 ([some (.inr (.inr (.inl 1))), some (.inl v1), some (.inl v2), some (.inl v3)], [], mm V h) (fun M r => M = mm q.1.1 q.1.2 ∧ HOK q.1.2 ∧ r = some (.inl q.2) ∧ (q.2 = 0 ∨ q.2 = 1)) :=
  s_Br_neverStops_1_n n V h v1 v2 v3 hh hf
def f_Br_neverStops (V : VV) (h : HP) (v1 : Int) (v2 : Int) : Option ((VV × HP) × Int) := f_Br_neverStops_1 FU V h v1 v2 0
set_option maxRecDepth 20000 in
set_option maxHeartbeats 4000000 in
theorem s_Br_neverStops {X : Xs} {d : Nat} {V : VV} {h : HP} {v1 : Int} {v2 : Int} {q : (VV × HP) × Int} (hh : HOK h) (hf : f_Br_neverStops V h v1 v2 = some q) : Ok X (d + 8) 128 0 ([some (.inr (.inr (.inl 1))), some (.inl v1), some (.inl v2), none], [], mm V h) (fun M r => M = mm q.1.1 q.1.2 ∧ HOK q.1.2 ∧ r = some (.inl q.2) ∧ (q.2 = 0 ∨ q.2 = 1)) := by
  let QQ : Mm → Option AV → Prop := fun M r => M = mm q.1.1 q.1.2 ∧ HOK q.1.2 ∧ r = some (.inl q.2) ∧ (q.2 = 0 ∨ q.2 = 1)
  show Ok X (d + 8) 128 0 ([some (.inr (.inr (.inl 1))), some (.inl v1), some (.inl v2), none], [], mm V h) QQ
  refine ok_thru (L := [some (.inr (.inr (.inl 1))), some (.inl v1), some (.inl v2), some (.inl 0)]) (S := []) (M := mm V h) rfl rfl ?_
  exact s_Br_neverStops_1 hh hf
def f_Br_fewest_16 (V : VV) (h : HP) (v1 : Int) (v2 : Int) : Option ((VV × HP) × Int) := lt_ (setV V 61 21 v1 v2) (fun q1 => some ((q1, h), v2))
set_option maxRecDepth 20000 in
set_option maxHeartbeats 4000000 in
theorem s_Br_fewest_16 {X : Xs} {d : Nat} {V : VV} {h : HP} {v1 : Int} {v2 : Int} {w3 : Int} {q : (VV × HP) × Int} (hh : HOK h) (hf : f_Br_fewest_16 V h v1 v2 = some q) : Ok X (d + 9) 127 16 ([some (.inr (.inr (.inl 1))), some (.inl v1), some (.inl v2), some (.inl w3)], [], mm V h) (fun M r => M = mm q.1.1 q.1.2 ∧ HOK q.1.2 ∧ r = some (.inl q.2)) := by
  let QQ : Mm → Option AV → Prop := fun M r => M = mm q.1.1 q.1.2 ∧ HOK q.1.2 ∧ r = some (.inl q.2)
  show Ok X (d + 9) 127 16 ([some (.inr (.inr (.inl 1))), some (.inl v1), some (.inl v2), some (.inl w3)], [], mm V h) QQ
  obtain ⟨q1, e1, hf⟩ := lt_x hf
  refine ok_callA (L := [some (.inr (.inr (.inl 1))), some (.inl v1), some (.inl v2), some (.inl w3)]) (M := mm V h) (args := [.inr (.inr (.inl 62)), .inl v1, .inl v2]) (rest := []) (y2 := 9) rfl rfl rfl (Or.inr (Or.inl rfl)) rfl rfl (Nat.le_of_ble_eq_true rfl) rfl rfl (Nat.le_of_ble_eq_true rfl) (Nat.le_of_ble_eq_true rfl) (w_set rfl e1) ?_
  rintro _ _ ⟨rfl, rfl⟩
  obtain rfl := Option.some.inj hf
  refine ok_ireturn (L := [some (.inr (.inr (.inl 1))), some (.inl v1), some (.inl v2), some (.inl w3)]) (M := mm q1 h) (x := v2) rfl rfl ?_
  exact ⟨rfl, hh, rfl⟩
def f_Br_fewest_15 (k8 : VV → HP → Int → Int → Int → (Option ((VV × HP) × Int))) (V : VV) (h : HP) (v1 : Int) (v2 : Int) (v3 : Int) : Option ((VV × HP) × Int) := k8 V h v1 v2 (w32 (v3 + 1))
set_option maxRecDepth 20000 in
set_option maxHeartbeats 4000000 in
theorem s_Br_fewest_15 {X : Xs} {d : Nat} {k8 : VV → HP → Int → Int → Int → (Option ((VV × HP) × Int))} {V : VV} {h : HP} {v1 : Int} {v2 : Int} {v3 : Int} {q : (VV × HP) × Int} (hh : HOK h) (hf : f_Br_fewest_15 k8 V h v1 v2 v3 = some q) (K8 : ∀ (V : VV) (h : HP) (v1 : Int) (v2 : Int) (v3 : Int), HOK h → k8 V h v1 v2 v3 = some q → Ok X (d + 9) 127 8 ([some (.inr (.inr (.inl 1))), some (.inl v1), some (.inl v2), some (.inl v3)], [], mm V h) (fun M r => M = mm q.1.1 q.1.2 ∧ HOK q.1.2 ∧ r = some (.inl q.2))) : Ok X (d + 9) 127 15 ([some (.inr (.inr (.inl 1))), some (.inl v1), some (.inl v2), some (.inl v3)], [], mm V h) (fun M r => M = mm q.1.1 q.1.2 ∧ HOK q.1.2 ∧ r = some (.inl q.2)) := by
  let QQ : Mm → Option AV → Prop := fun M r => M = mm q.1.1 q.1.2 ∧ HOK q.1.2 ∧ r = some (.inl q.2)
  show Ok X (d + 9) 127 15 ([some (.inr (.inr (.inl 1))), some (.inl v1), some (.inl v2), some (.inl v3)], [], mm V h) QQ
  refine ok_goto (L := [some (.inr (.inr (.inl 1))), some (.inl v1), some (.inl v2), some (.inl (w32 (v3 + 1)))]) (S := []) (M := mm V h) rfl rfl ?_
  exact K8 V h v1 v2 (w32 (v3 + 1)) hh hf
def f_Br_fewest_8 : Nat → VV → HP → Int → Int → Int → (Option ((VV × HP) × Int))
  | 0, _, _, _, _, _ => none
  | n + 1, V, h, v1, v2, v3 => if 16 < v3 then f_Br_fewest_16 V h v1 v2 else if v2 = (-1) then Option.bind (f_Br_canBePaved V) (fun q3 => if q3 = 0 then f_Br_fewest_15 (f_Br_fewest_8 n) V h v1 v2 v3 else Option.bind (f_Br_neverStops V h v1 v3) (fun q5 => f_Br_fewest_15 (f_Br_fewest_8 n) q5.1.1 (q5.1.2) v1 (if q5.2 = 0 then v2 else v3 : Int) v3)) else f_Br_fewest_16 V h v1 v2
set_option maxRecDepth 20000 in
set_option maxHeartbeats 4000000 in
theorem s_Br_fewest_8_n {X : Xs} {d : Nat}  {q : (VV × HP) × Int} : ∀ (n : Nat) (V : VV) (h : HP) (v1 : Int) (v2 : Int) (v3 : Int), HOK h → f_Br_fewest_8 n V h v1 v2 v3 = some q → Ok X (d + 9) 127 8 ([some (.inr (.inr (.inl 1))), some (.inl v1), some (.inl v2), some (.inl v3)], [], mm V h) (fun M r => M = mm q.1.1 q.1.2 ∧ HOK q.1.2 ∧ r = some (.inl q.2)) := by
  intro n
  induction n with
  | zero => intro V h v1 v2 v3 hh hf; cases hf
  | succ n ih =>
    intro V h v1 v2 v3 hh hf
    let QQ : Mm → Option AV → Prop := fun M r => M = mm q.1.1 q.1.2 ∧ HOK q.1.2 ∧ r = some (.inl q.2)
    show Ok X (d + 9) 127 8 ([some (.inr (.inr (.inl 1))), some (.inl v1), some (.inl v2), some (.inl v3)], [], mm V h) QQ
    refine ok_ic_gt (x := v3) (u := 16) (L := [some (.inr (.inr (.inl 1))), some (.inl v1), some (.inl v2), some (.inl v3)]) (S := []) (M := mm V h) rfl rfl (fun c1 => ?_) (fun c1 => ?_)
    ·
      replace hf := (if_pos c1).symm.trans hf
      exact s_Br_fewest_16 hh hf
    ·
      replace hf := (if_neg (Int.not_lt.mpr c1)).symm.trans hf
      refine ok_ic_ne (x := v2) (u := (-1)) (L := [some (.inr (.inr (.inl 1))), some (.inl v1), some (.inl v2), some (.inl v3)]) (S := []) (M := mm V h) rfl rfl (fun c2 => ?_) (fun c2 => ?_)
      ·
        replace hf := (if_neg c2).symm.trans hf
        exact s_Br_fewest_16 hh hf
      ·
        replace hf := (if_pos c2).symm.trans hf
        obtain ⟨q3, e3, hf⟩ := obind hf
        refine ok_callA (L := [some (.inr (.inr (.inl 1))), some (.inl v1), some (.inl v2), some (.inl v3)]) (M := mm V h) (args := [.inr (.inr (.inl 1))]) (rest := []) (y2 := 94) rfl rfl rfl (Or.inl rfl) rfl rfl (Nat.le_of_ble_eq_true rfl) rfl rfl (Nat.le_of_ble_eq_true rfl) (Nat.le_of_ble_eq_true rfl) (s_Br_canBePaved e3) ?_
        rintro _ _ ⟨rfl, rfl, hz3⟩
        refine ok_if_eq (x := q3) (L := [some (.inr (.inr (.inl 1))), some (.inl v1), some (.inl v2), some (.inl v3)]) (S := []) (M := mm V h) rfl rfl (fun c4 => ?_) (fun c4 => ?_)
        ·
          replace hf := (if_pos c4).symm.trans hf
          exact s_Br_fewest_15 hh hf ih
        ·
          replace hf := (if_neg c4).symm.trans hf
          obtain ⟨q5, e5, hf⟩ := obind hf
          refine ok_callA (L := [some (.inr (.inr (.inl 1))), some (.inl v1), some (.inl v2), some (.inl v3)]) (M := mm V h) (args := [.inr (.inr (.inl 1)), .inl v1, .inl v3]) (rest := []) (y2 := 128) rfl rfl rfl (Or.inl rfl) rfl rfl (Nat.le_of_ble_eq_true rfl) rfl rfl (Nat.le_of_ble_eq_true rfl) (Nat.le_of_ble_eq_true rfl) (s_Br_neverStops hh e5) ?_
          rintro _ _ ⟨rfl, hh, rfl, hz5⟩
          have JN6 : Ok X (d + 9) 127 15 ([some (.inr (.inr (.inl 1))), some (.inl v1), some (.inl (if q5.2 = 0 then v2 else v3 : Int)), some (.inl v3)], [], mm q5.1.1 (q5.1.2)) QQ := by
            exact s_Br_fewest_15 hh hf ih
          clear hf
          refine ok_if_eq (x := q5.2) (L := [some (.inr (.inr (.inl 1))), some (.inl v1), some (.inl v2), some (.inl v3)]) (S := []) (M := mm q5.1.1 (q5.1.2)) rfl rfl (fun c7 => ?_) (fun c7 => ?_)
          ·
            simp only [if_pos c7] at JN6
            first | exact JN6 | (simp only [if_pos c7]; exact JN6)
          ·
            simp only [if_neg c7] at JN6
            refine ok_thru (L := [some (.inr (.inr (.inl 1))), some (.inl v1), some (.inl v3), some (.inl v3)]) (S := []) (M := mm q5.1.1 (q5.1.2)) rfl rfl ?_
            first | exact JN6 | (simp only [if_neg c7]; exact JN6)
theorem s_Br_fewest_8 {X : Xs} {d : Nat} {V : VV} {h : HP} {v1 : Int} {v2 : Int} {v3 : Int} {n : Nat} {q : (VV × HP) × Int} (hh : HOK h) (hf : f_Br_fewest_8 n V h v1 v2 v3 = some q) : Ok X (d + 9) 127 8 ([some (.inr (.inr (.inl 1))), some (.inl v1), some (.inl v2), some (.inl v3)], [], mm V h) (fun M r => M = mm q.1.1 q.1.2 ∧ HOK q.1.2 ∧ r = some (.inl q.2)) :=
  s_Br_fewest_8_n n V h v1 v2 v3 hh hf
def f_Br_fewest (V : VV) (h : HP) (v1 : Int) : Option ((VV × HP) × Int) := if (isFromV v1 1 20) = 0 then some ((V, h), (-1)) else if (atV V 61 21 v1) = (-2) then f_Br_fewest_8 FU V h v1 (-1) 1 else some ((V, h), atV V 61 21 v1)
set_option maxRecDepth 20000 in
set_option maxHeartbeats 4000000 in
theorem s_Br_fewest {X : Xs} {d : Nat} {V : VV} {h : HP} {v1 : Int} {q : (VV × HP) × Int} (hh : HOK h) (hf : f_Br_fewest V h v1 = some q) : Ok X (d + 9) 127 0 ([some (.inr (.inr (.inl 1))), some (.inl v1), none, none], [], mm V h) (fun M r => M = mm q.1.1 q.1.2 ∧ HOK q.1.2 ∧ r = some (.inl q.2)) := by
  let QQ : Mm → Option AV → Prop := fun M r => M = mm q.1.1 q.1.2 ∧ HOK q.1.2 ∧ r = some (.inl q.2)
  show Ok X (d + 9) 127 0 ([some (.inr (.inr (.inl 1))), some (.inl v1), none, none], [], mm V h) QQ
  refine ok_callA (L := [some (.inr (.inr (.inl 1))), some (.inl v1), none, none]) (M := mm V h) (args := [.inl v1, .inl 1, .inl 20]) (rest := []) (y2 := 16) rfl rfl rfl (Or.inr (Or.inl rfl)) rfl rfl (Nat.le_of_ble_eq_true rfl) rfl rfl (Nat.le_of_ble_eq_true rfl) (Nat.le_of_ble_eq_true rfl) (w_isFrom rfl) ?_
  rintro _ _ ⟨rfl, rfl, hz1⟩
  refine ok_if_ne (x := isFromV v1 1 20) (L := [some (.inr (.inr (.inl 1))), some (.inl v1), none, none]) (S := []) (M := mm V h) rfl rfl (fun c2 => ?_) (fun c2 => ?_)
  ·
    replace hf := (if_neg c2).symm.trans hf
    refine ok_callA (L := [some (.inr (.inr (.inl 1))), some (.inl v1), none, none]) (M := mm V h) (args := [.inr (.inr (.inl 62)), .inl v1]) (rest := []) (y2 := 21) rfl rfl rfl (Or.inr (Or.inl rfl)) rfl rfl (Nat.le_of_ble_eq_true rfl) rfl rfl (Nat.le_of_ble_eq_true rfl) (Nat.le_of_ble_eq_true rfl) (w_at rfl rfl) ?_
    rintro _ _ ⟨rfl, rfl⟩
    refine ok_ic_eq (x := atV V 61 21 v1) (u := (-2)) (L := [some (.inr (.inr (.inl 1))), some (.inl v1), none, none]) (S := []) (M := mm V h) rfl rfl (fun c4 => ?_) (fun c4 => ?_)
    ·
      replace hf := (if_pos c4).symm.trans hf
      refine ok_thru (L := [some (.inr (.inr (.inl 1))), some (.inl v1), some (.inl (-1)), some (.inl 1)]) (S := []) (M := mm V h) rfl rfl ?_
      exact s_Br_fewest_8 hh hf
    ·
      replace hf := (if_neg c4).symm.trans hf
      refine ok_callA (L := [some (.inr (.inr (.inl 1))), some (.inl v1), none, none]) (M := mm V h) (args := [.inr (.inr (.inl 62)), .inl v1]) (rest := []) (y2 := 21) rfl rfl rfl (Or.inr (Or.inl rfl)) rfl rfl (Nat.le_of_ble_eq_true rfl) rfl rfl (Nat.le_of_ble_eq_true rfl) (Nat.le_of_ble_eq_true rfl) (w_at rfl rfl) ?_
      rintro _ _ ⟨rfl, rfl⟩
      obtain rfl := Option.some.inj hf
      refine ok_ireturn (L := [some (.inr (.inr (.inl 1))), some (.inl v1), none, none]) (M := mm V h) (x := atV V 61 21 v1) rfl rfl ?_
      exact ⟨rfl, hh, rfl⟩
  ·
    replace hf := (if_pos c2).symm.trans hf
    obtain rfl := Option.some.inj hf
    refine ok_ireturn (L := [some (.inr (.inr (.inl 1))), some (.inl v1), none, none]) (M := mm V h) (x := (-1)) rfl rfl ?_
    exact ⟨rfl, hh, rfl⟩
def f_Br_load (V : VV) (h : HP) (v1 : Int) (v2 : Int) (v3 : Int) (v4 : Int) : Option ((VV × HP) × Int) := if (isFromV v4 0 8) = 0 then some ((V, h), (-1)) else Option.bind (f_Br_isPaved V h v1 v2) (fun q3 => if q3.2 = 0 then some ((q3.1.1, (q3.1.2)), (-1)) else if (isFromV v3 0 (w32 ((q3.1.1 28 3) - 1))) = 0 then some ((q3.1.1, (q3.1.2)), (-1)) else some ((q3.1.1, (q3.1.2)), f_Loads_of q3.1.1 (q3.1.2) v3 v4))
set_option maxRecDepth 20000 in
set_option maxHeartbeats 4000000 in
theorem s_Br_load {X : Xs} {d : Nat} {V : VV} {h : HP} {v1 : Int} {v2 : Int} {v3 : Int} {v4 : Int} {q : (VV × HP) × Int} (hh : HOK h) (hf : f_Br_load V h v1 v2 v3 v4 = some q) : Ok X (d + 9) 129 0 ([some (.inr (.inr (.inl 1))), some (.inl v1), some (.inl v2), some (.inl v3), some (.inl v4)], [], mm V h) (fun M r => M = mm q.1.1 q.1.2 ∧ HOK q.1.2 ∧ r = some (.inl q.2)) := by
  let QQ : Mm → Option AV → Prop := fun M r => M = mm q.1.1 q.1.2 ∧ HOK q.1.2 ∧ r = some (.inl q.2)
  show Ok X (d + 9) 129 0 ([some (.inr (.inr (.inl 1))), some (.inl v1), some (.inl v2), some (.inl v3), some (.inl v4)], [], mm V h) QQ
  refine ok_callA (L := [some (.inr (.inr (.inl 1))), some (.inl v1), some (.inl v2), some (.inl v3), some (.inl v4)]) (M := mm V h) (args := [.inl v4, .inl 0, .inl 8]) (rest := []) (y2 := 16) rfl rfl rfl (Or.inr (Or.inl rfl)) rfl rfl (Nat.le_of_ble_eq_true rfl) rfl rfl (Nat.le_of_ble_eq_true rfl) (Nat.le_of_ble_eq_true rfl) (w_isFrom rfl) ?_
  rintro _ _ ⟨rfl, rfl, hz1⟩
  refine ok_if_eq (x := isFromV v4 0 8) (L := [some (.inr (.inr (.inl 1))), some (.inl v1), some (.inl v2), some (.inl v3), some (.inl v4)]) (S := []) (M := mm V h) rfl rfl (fun c2 => ?_) (fun c2 => ?_)
  ·
    replace hf := (if_pos c2).symm.trans hf
    obtain rfl := Option.some.inj hf
    refine ok_ireturn (L := [some (.inr (.inr (.inl 1))), some (.inl v1), some (.inl v2), some (.inl v3), some (.inl v4)]) (M := mm V h) (x := (-1)) rfl rfl ?_
    exact ⟨rfl, hh, rfl⟩
  ·
    replace hf := (if_neg c2).symm.trans hf
    obtain ⟨q3, e3, hf⟩ := obind hf
    refine ok_callA (L := [some (.inr (.inr (.inl 1))), some (.inl v1), some (.inl v2), some (.inl v3), some (.inl v4)]) (M := mm V h) (args := [.inr (.inr (.inl 1)), .inl v1, .inl v2]) (rest := []) (y2 := 93) rfl rfl rfl (Or.inl rfl) rfl rfl (Nat.le_of_ble_eq_true rfl) rfl rfl (Nat.le_of_ble_eq_true rfl) (Nat.le_of_ble_eq_true rfl) (s_Br_isPaved hh e3) ?_
    rintro _ _ ⟨rfl, hh, rfl, hz3⟩
    refine ok_if_eq (x := q3.2) (L := [some (.inr (.inr (.inl 1))), some (.inl v1), some (.inl v2), some (.inl v3), some (.inl v4)]) (S := []) (M := mm q3.1.1 (q3.1.2)) rfl rfl (fun c4 => ?_) (fun c4 => ?_)
    ·
      replace hf := (if_pos c4).symm.trans hf
      obtain rfl := Option.some.inj hf
      refine ok_ireturn (L := [some (.inr (.inr (.inl 1))), some (.inl v1), some (.inl v2), some (.inl v3), some (.inl v4)]) (M := mm q3.1.1 (q3.1.2)) (x := (-1)) rfl rfl ?_
      exact ⟨rfl, hh, rfl⟩
    ·
      replace hf := (if_neg c4).symm.trans hf
      refine ok_callA (L := [some (.inr (.inr (.inl 1))), some (.inl v1), some (.inl v2), some (.inl v3), some (.inl v4)]) (M := mm q3.1.1 (q3.1.2)) (args := [.inl v3, .inl 0, .inl (w32 ((q3.1.1 28 3) - 1))]) (rest := []) (y2 := 16) rfl rfl rfl (Or.inr (Or.inl rfl)) rfl rfl (Nat.le_of_ble_eq_true rfl) rfl rfl (Nat.le_of_ble_eq_true rfl) (Nat.le_of_ble_eq_true rfl) (w_isFrom rfl) ?_
      rintro _ _ ⟨rfl, rfl, hz5⟩
      refine ok_if_ne (x := isFromV v3 0 (w32 ((q3.1.1 28 3) - 1))) (L := [some (.inr (.inr (.inl 1))), some (.inl v1), some (.inl v2), some (.inl v3), some (.inl v4)]) (S := []) (M := mm q3.1.1 (q3.1.2)) rfl rfl (fun c6 => ?_) (fun c6 => ?_)
      ·
        replace hf := (if_neg c6).symm.trans hf
        refine ok_callA (L := [some (.inr (.inr (.inl 1))), some (.inl v1), some (.inl v2), some (.inl v3), some (.inl v4)]) (M := mm q3.1.1 (q3.1.2)) (args := [.inr (.inr (.inl 29)), .inl v3, .inl v4]) (rest := []) (y2 := 105) rfl rfl rfl (Or.inl rfl) rfl rfl (Nat.le_of_ble_eq_true rfl) rfl rfl (Nat.le_of_ble_eq_true rfl) (Nat.le_of_ble_eq_true rfl) (s_Loads_of hh rfl) ?_
        rintro _ _ ⟨rfl, rfl⟩
        obtain rfl := Option.some.inj hf
        refine ok_ireturn (L := [some (.inr (.inr (.inl 1))), some (.inl v1), some (.inl v2), some (.inl v3), some (.inl v4)]) (M := mm q3.1.1 (q3.1.2)) (x := f_Loads_of q3.1.1 (q3.1.2) v3 v4) rfl rfl ?_
        exact ⟨rfl, hh, rfl⟩
      ·
        replace hf := (if_pos c6).symm.trans hf
        obtain rfl := Option.some.inj hf
        refine ok_ireturn (L := [some (.inr (.inr (.inl 1))), some (.inl v1), some (.inl v2), some (.inl v3), some (.inl v4)]) (M := mm q3.1.1 (q3.1.2)) (x := (-1)) rfl rfl ?_
        exact ⟨rfl, hh, rfl⟩
def f_Loads_ofTonne_1 : Nat → VV → HP → Int → Int → (Option (Int))
  | 0, _, _, _, _ => none
  | n + 1, V, h, v2, v3 => if v3 < (V 28 2) then if (w32 (v2 - (f_Loads_of V h (atV V h.2.1 (ordN h) v3) 1))) < 0 then some (atV V h.2.1 (ordN h) v3) else f_Loads_ofTonne_1 n V h (w32 (v2 - (f_Loads_of V h (atV V h.2.1 (ordN h) v3) 1))) (w32 (v3 + 1)) else some (-1)
set_option maxRecDepth 20000 in
set_option maxHeartbeats 4000000 in
theorem s_Loads_ofTonne_1_n {X : Xs} {d : Nat} {V : VV} {h : HP} {q : Int} (hh : HOK h) : ∀ (n : Nat) (v2 : Int) (v3 : Int) (w1 : Int) (z4 : Option AV), f_Loads_ofTonne_1 n V h v2 v3 = some q → Ok X (d + 3) 131 1 ([some (.inr (.inr (.inl 29))), some (.inl w1), some (.inl v2), some (.inl v3), z4], [], mm V h) (fun M r => M = mm V h ∧ r = some (.inl q)) := by
  intro n
  induction n with
  | zero => intro v2 v3 w1 z4 hf; cases hf
  | succ n ih =>
    intro v2 v3 w1 z4 hf
    let QQ : Mm → Option AV → Prop := fun M r => M = mm V h ∧ r = some (.inl q)
    show Ok X (d + 3) 131 1 ([some (.inr (.inr (.inl 29))), some (.inl w1), some (.inl v2), some (.inl v3), z4], [], mm V h) QQ
    refine ok_ic_ge (x := v3) (u := V 28 2) (L := [some (.inr (.inr (.inl 29))), some (.inl w1), some (.inl v2), some (.inl v3), z4]) (S := []) (M := mm V h) rfl rfl (fun c1 => ?_) (fun c1 => ?_)
    ·
      replace hf := (if_neg (Int.not_lt.mpr c1)).symm.trans hf
      obtain rfl := Option.some.inj hf
      refine ok_ireturn (L := [some (.inr (.inr (.inl 29))), some (.inl w1), some (.inl v2), some (.inl v3), z4]) (M := mm V h) (x := (-1)) rfl rfl ?_
      exact ⟨rfl, rfl⟩
    ·
      replace hf := (if_pos c1).symm.trans hf
      refine ok_callA (L := [some (.inr (.inr (.inl 29))), some (.inl w1), some (.inl v2), some (.inl v3), z4]) (M := mm V h) (args := [.inr (.inr (.inl (h.2.1 + 1))), .inl v3]) (rest := []) (y2 := 21) rfl rfl rfl (Or.inr (Or.inl rfl)) rfl rfl (Nat.le_of_ble_eq_true rfl) rfl rfl (Nat.le_of_ble_eq_true rfl) (Nat.le_of_ble_eq_true rfl) (w_at hh.ord rfl) ?_
      rintro _ _ ⟨rfl, rfl⟩
      refine ok_callA (L := [some (.inr (.inr (.inl 29))), some (.inl w1), some (.inl v2), some (.inl v3), some (.inl (atV V h.2.1 (ordN h) v3))]) (M := mm V h) (args := [.inr (.inr (.inl 29)), .inl (atV V h.2.1 (ordN h) v3), .inl 1]) (rest := [.inl v2]) (y2 := 105) rfl rfl rfl (Or.inl rfl) rfl rfl (Nat.le_of_ble_eq_true rfl) rfl rfl (Nat.le_of_ble_eq_true rfl) (Nat.le_of_ble_eq_true rfl) (s_Loads_of hh rfl) ?_
      rintro _ _ ⟨rfl, rfl⟩
      refine ok_if_ge (x := w32 (v2 - (f_Loads_of V h (atV V h.2.1 (ordN h) v3) 1))) (L := [some (.inr (.inr (.inl 29))), some (.inl w1), some (.inl (w32 (v2 - (f_Loads_of V h (atV V h.2.1 (ordN h) v3) 1)))), some (.inl v3), some (.inl (atV V h.2.1 (ordN h) v3))]) (S := []) (M := mm V h) rfl rfl (fun c4 => ?_) (fun c4 => ?_)
      ·
        replace hf := (if_neg (Int.not_lt.mpr c4)).symm.trans hf
        refine ok_goto (L := [some (.inr (.inr (.inl 29))), some (.inl w1), some (.inl (w32 (v2 - (f_Loads_of V h (atV V h.2.1 (ordN h) v3) 1)))), some (.inl (w32 (v3 + 1))), some (.inl (atV V h.2.1 (ordN h) v3))]) (S := []) (M := mm V h) rfl rfl ?_
        exact ih (w32 (v2 - (f_Loads_of V h (atV V h.2.1 (ordN h) v3) 1))) (w32 (v3 + 1)) w1 (some (.inl (atV V h.2.1 (ordN h) v3))) hf
      ·
        replace hf := (if_pos c4).symm.trans hf
        obtain rfl := Option.some.inj hf
        refine ok_ireturn (L := [some (.inr (.inr (.inl 29))), some (.inl w1), some (.inl (w32 (v2 - (f_Loads_of V h (atV V h.2.1 (ordN h) v3) 1)))), some (.inl v3), some (.inl (atV V h.2.1 (ordN h) v3))]) (M := mm V h) (x := atV V h.2.1 (ordN h) v3) rfl rfl ?_
        exact ⟨rfl, rfl⟩
theorem s_Loads_ofTonne_1 {X : Xs} {d : Nat} {V : VV} {h : HP} {v2 : Int} {v3 : Int} {w1 : Int} {z4 : Option AV} {n : Nat} {q : Int} (hh : HOK h) (hf : f_Loads_ofTonne_1 n V h v2 v3 = some q) : Ok X (d + 3) 131 1 ([some (.inr (.inr (.inl 29))), some (.inl w1), some (.inl v2), some (.inl v3), z4], [], mm V h) (fun M r => M = mm V h ∧ r = some (.inl q)) :=
  s_Loads_ofTonne_1_n hh n v2 v3 w1 z4 hf
def f_Loads_ofTonne (V : VV) (h : HP) (v1 : Int) : Option (Int) := f_Loads_ofTonne_1 FU V h v1 0
set_option maxRecDepth 20000 in
set_option maxHeartbeats 4000000 in
theorem s_Loads_ofTonne {X : Xs} {d : Nat} {V : VV} {h : HP} {v1 : Int} {q : Int} (hh : HOK h) (hf : f_Loads_ofTonne V h v1 = some q) : Ok X (d + 3) 131 0 ([some (.inr (.inr (.inl 29))), some (.inl v1), none, none, none], [], mm V h) (fun M r => M = mm V h ∧ r = some (.inl q)) := by
  let QQ : Mm → Option AV → Prop := fun M r => M = mm V h ∧ r = some (.inl q)
  show Ok X (d + 3) 131 0 ([some (.inr (.inr (.inl 29))), some (.inl v1), none, none, none], [], mm V h) QQ
  refine ok_thru (L := [some (.inr (.inr (.inl 29))), some (.inl v1), some (.inl v1), some (.inl 0), none]) (S := []) (M := mm V h) rfl rfl ?_
  exact s_Loads_ofTonne_1 hh hf
def f_Br_tonne (V : VV) (h : HP) (v1 : Int) (v2 : Int) (v3 : Int) : Option ((VV × HP) × Int) := if v3 < 0 then some ((V, h), (-1)) else Option.bind (f_Br_isPaved V h v1 v2) (fun q2 => if q2.2 = 0 then some ((q2.1.1, (q2.1.2)), (-1)) else Option.bind (f_Loads_ofTonne q2.1.1 (q2.1.2) v3) (fun q4 => some ((q2.1.1, (q2.1.2)), q4)))
set_option maxRecDepth 20000 in
set_option maxHeartbeats 4000000 in
theorem s_Br_tonne {X : Xs} {d : Nat} {V : VV} {h : HP} {v1 : Int} {v2 : Int} {v3 : Int} {q : (VV × HP) × Int} (hh : HOK h) (hf : f_Br_tonne V h v1 v2 v3 = some q) : Ok X (d + 9) 130 0 ([some (.inr (.inr (.inl 1))), some (.inl v1), some (.inl v2), some (.inl v3)], [], mm V h) (fun M r => M = mm q.1.1 q.1.2 ∧ HOK q.1.2 ∧ r = some (.inl q.2)) := by
  let QQ : Mm → Option AV → Prop := fun M r => M = mm q.1.1 q.1.2 ∧ HOK q.1.2 ∧ r = some (.inl q.2)
  show Ok X (d + 9) 130 0 ([some (.inr (.inr (.inl 1))), some (.inl v1), some (.inl v2), some (.inl v3)], [], mm V h) QQ
  refine ok_if_lt (x := v3) (L := [some (.inr (.inr (.inl 1))), some (.inl v1), some (.inl v2), some (.inl v3)]) (S := []) (M := mm V h) rfl rfl (fun c1 => ?_) (fun c1 => ?_)
  ·
    replace hf := (if_pos c1).symm.trans hf
    obtain rfl := Option.some.inj hf
    refine ok_ireturn (L := [some (.inr (.inr (.inl 1))), some (.inl v1), some (.inl v2), some (.inl v3)]) (M := mm V h) (x := (-1)) rfl rfl ?_
    exact ⟨rfl, hh, rfl⟩
  ·
    replace hf := (if_neg (Int.not_lt.mpr c1)).symm.trans hf
    obtain ⟨q2, e2, hf⟩ := obind hf
    refine ok_callA (L := [some (.inr (.inr (.inl 1))), some (.inl v1), some (.inl v2), some (.inl v3)]) (M := mm V h) (args := [.inr (.inr (.inl 1)), .inl v1, .inl v2]) (rest := []) (y2 := 93) rfl rfl rfl (Or.inl rfl) rfl rfl (Nat.le_of_ble_eq_true rfl) rfl rfl (Nat.le_of_ble_eq_true rfl) (Nat.le_of_ble_eq_true rfl) (s_Br_isPaved hh e2) ?_
    rintro _ _ ⟨rfl, hh, rfl, hz2⟩
    refine ok_if_ne (x := q2.2) (L := [some (.inr (.inr (.inl 1))), some (.inl v1), some (.inl v2), some (.inl v3)]) (S := []) (M := mm q2.1.1 (q2.1.2)) rfl rfl (fun c3 => ?_) (fun c3 => ?_)
    ·
      replace hf := (if_neg c3).symm.trans hf
      obtain ⟨q4, e4, hf⟩ := obind hf
      refine ok_callA (L := [some (.inr (.inr (.inl 1))), some (.inl v1), some (.inl v2), some (.inl v3)]) (M := mm q2.1.1 (q2.1.2)) (args := [.inr (.inr (.inl 29)), .inl v3]) (rest := []) (y2 := 131) rfl rfl rfl (Or.inl rfl) rfl rfl (Nat.le_of_ble_eq_true rfl) rfl rfl (Nat.le_of_ble_eq_true rfl) (Nat.le_of_ble_eq_true rfl) (s_Loads_ofTonne hh e4) ?_
      rintro _ _ ⟨rfl, rfl⟩
      obtain rfl := Option.some.inj hf
      refine ok_ireturn (L := [some (.inr (.inr (.inl 1))), some (.inl v1), some (.inl v2), some (.inl v3)]) (M := mm q2.1.1 (q2.1.2)) (x := q4) rfl rfl ?_
      exact ⟨rfl, hh, rfl⟩
    ·
      replace hf := (if_pos c3).symm.trans hf
      obtain rfl := Option.some.inj hf
      refine ok_ireturn (L := [some (.inr (.inr (.inl 1))), some (.inl v1), some (.inl v2), some (.inl v3)]) (M := mm q2.1.1 (q2.1.2)) (x := (-1)) rfl rfl ?_
      exact ⟨rfl, hh, rfl⟩
def f_Rolling_mayBegin_10 : Nat → VV → Int → Int → Int → (Option (Int))
  | 0, _, _, _, _ => none
  | n + 1, V, v1, v2, v5 => if v5 < v2 then if (atV V 56 108 (w32 ((w32 (v1 * 3)) + v5))) < (atV V 54 3 v5) then some 0 else f_Rolling_mayBegin_10 n V v1 v2 (w32 (v5 + 1)) else some 1
set_option maxRecDepth 20000 in
set_option maxHeartbeats 4000000 in
theorem s_Rolling_mayBegin_10_n {X : Xs} {d : Nat} {V : VV} {h : HP} {q : Int} : ∀ (n : Nat) (v1 : Int) (v2 : Int) (v5 : Int) (w3 : Int) (w4 : Int), f_Rolling_mayBegin_10 n V v1 v2 v5 = some q → Ok X (d + 2) 135 10 ([some (.inr (.inr (.inl 50))), some (.inl v1), some (.inl v2), some (.inl w3), some (.inl w4), some (.inl v5)], [], mm V h) (fun M r => M = mm V h ∧ r = some (.inl q) ∧ (q = 0 ∨ q = 1)) := by
  intro n
  induction n with
  | zero => intro v1 v2 v5 w3 w4 hf; cases hf
  | succ n ih =>
    intro v1 v2 v5 w3 w4 hf
    let QQ : Mm → Option AV → Prop := fun M r => M = mm V h ∧ r = some (.inl q) ∧ (q = 0 ∨ q = 1)
    show Ok X (d + 2) 135 10 ([some (.inr (.inr (.inl 50))), some (.inl v1), some (.inl v2), some (.inl w3), some (.inl w4), some (.inl v5)], [], mm V h) QQ
    refine ok_ic_ge (x := v5) (u := v2) (L := [some (.inr (.inr (.inl 50))), some (.inl v1), some (.inl v2), some (.inl w3), some (.inl w4), some (.inl v5)]) (S := []) (M := mm V h) rfl rfl (fun c1 => ?_) (fun c1 => ?_)
    ·
      replace hf := (if_neg (Int.not_lt.mpr c1)).symm.trans hf
      obtain rfl := Option.some.inj hf
      have hz : (1 : Int) = 0 ∨ (1 : Int) = 1 := by
        first | exact Or.inl rfl | exact Or.inr rfl | assumption | (repeat' split) <;> first | exact Or.inl rfl | exact Or.inr rfl | assumption
      refine ok_zreturn (L := [some (.inr (.inr (.inl 50))), some (.inl v1), some (.inl v2), some (.inl w3), some (.inl w4), some (.inl v5)]) (M := mm V h) (x := 1) rfl rfl hz ?_
      exact ⟨rfl, rfl, hz⟩
    ·
      replace hf := (if_pos c1).symm.trans hf
      refine ok_callA (L := [some (.inr (.inr (.inl 50))), some (.inl v1), some (.inl v2), some (.inl w3), some (.inl w4), some (.inl v5)]) (M := mm V h) (args := [.inr (.inr (.inl 57)), .inl (w32 ((w32 (v1 * 3)) + v5))]) (rest := []) (y2 := 21) rfl rfl rfl (Or.inr (Or.inl rfl)) rfl rfl (Nat.le_of_ble_eq_true rfl) rfl rfl (Nat.le_of_ble_eq_true rfl) (Nat.le_of_ble_eq_true rfl) (w_at rfl rfl) ?_
      rintro _ _ ⟨rfl, rfl⟩
      refine ok_callA (L := [some (.inr (.inr (.inl 50))), some (.inl v1), some (.inl v2), some (.inl w3), some (.inl w4), some (.inl v5)]) (M := mm V h) (args := [.inr (.inr (.inl 55)), .inl v5]) (rest := [.inl (atV V 56 108 (w32 ((w32 (v1 * 3)) + v5)))]) (y2 := 21) rfl rfl rfl (Or.inr (Or.inl rfl)) rfl rfl (Nat.le_of_ble_eq_true rfl) rfl rfl (Nat.le_of_ble_eq_true rfl) (Nat.le_of_ble_eq_true rfl) (w_at rfl rfl) ?_
      rintro _ _ ⟨rfl, rfl⟩
      refine ok_ic_ge (x := atV V 56 108 (w32 ((w32 (v1 * 3)) + v5))) (u := atV V 54 3 v5) (L := [some (.inr (.inr (.inl 50))), some (.inl v1), some (.inl v2), some (.inl w3), some (.inl w4), some (.inl v5)]) (S := []) (M := mm V h) rfl rfl (fun c4 => ?_) (fun c4 => ?_)
      ·
        replace hf := (if_neg (Int.not_lt.mpr c4)).symm.trans hf
        refine ok_goto (L := [some (.inr (.inr (.inl 50))), some (.inl v1), some (.inl v2), some (.inl w3), some (.inl w4), some (.inl (w32 (v5 + 1)))]) (S := []) (M := mm V h) rfl rfl ?_
        exact ih v1 v2 (w32 (v5 + 1)) w3 w4 hf
      ·
        replace hf := (if_pos c4).symm.trans hf
        obtain rfl := Option.some.inj hf
        have hz : (0 : Int) = 0 ∨ (0 : Int) = 1 := by
          first | exact Or.inl rfl | exact Or.inr rfl | assumption | (repeat' split) <;> first | exact Or.inl rfl | exact Or.inr rfl | assumption
        refine ok_zreturn (L := [some (.inr (.inr (.inl 50))), some (.inl v1), some (.inl v2), some (.inl w3), some (.inl w4), some (.inl v5)]) (M := mm V h) (x := 0) rfl rfl hz ?_
        exact ⟨rfl, rfl, hz⟩
theorem s_Rolling_mayBegin_10 {X : Xs} {d : Nat} {V : VV} {h : HP} {v1 : Int} {v2 : Int} {v5 : Int} {w3 : Int} {w4 : Int} {n : Nat} {q : Int} (hf : f_Rolling_mayBegin_10 n V v1 v2 v5 = some q) : Ok X (d + 2) 135 10 ([some (.inr (.inr (.inl 50))), some (.inl v1), some (.inl v2), some (.inl w3), some (.inl w4), some (.inl v5)], [], mm V h) (fun M r => M = mm V h ∧ r = some (.inl q) ∧ (q = 0 ∨ q = 1)) :=
  s_Rolling_mayBegin_10_n n v1 v2 v5 w3 w4 hf
def f_Rolling_mayBegin (V : VV) (v1 : Int) (v2 : Int) (v3 : Int) : Option (Int) := if (isFromV (w32 (v3 - (atV V 32 36 v1))) 1 600) = 0 then some 0 else if v3 < (atV V 57 36 v1) then some 0 else if (atV V 56 108 (w32 ((w32 (v1 * 3)) + v2))) < (atV V 54 3 v2) then f_Rolling_mayBegin_10 FU V v1 v2 0 else some 0
set_option maxRecDepth 20000 in
set_option maxHeartbeats 4000000 in
theorem s_Rolling_mayBegin {X : Xs} {d : Nat} {V : VV} {h : HP} {v1 : Int} {v2 : Int} {v3 : Int} {q : Int} (hf : f_Rolling_mayBegin V v1 v2 v3 = some q) : Ok X (d + 2) 135 0 ([some (.inr (.inr (.inl 50))), some (.inl v1), some (.inl v2), some (.inl v3), none, none], [], mm V h) (fun M r => M = mm V h ∧ r = some (.inl q) ∧ (q = 0 ∨ q = 1)) := by
  let QQ : Mm → Option AV → Prop := fun M r => M = mm V h ∧ r = some (.inl q) ∧ (q = 0 ∨ q = 1)
  show Ok X (d + 2) 135 0 ([some (.inr (.inr (.inl 50))), some (.inl v1), some (.inl v2), some (.inl v3), none, none], [], mm V h) QQ
  refine ok_callA (L := [some (.inr (.inr (.inl 50))), some (.inl v1), some (.inl v2), some (.inl v3), none, none]) (M := mm V h) (args := [.inr (.inr (.inl 33)), .inl v1]) (rest := [.inl v3]) (y2 := 21) rfl rfl rfl (Or.inr (Or.inl rfl)) rfl rfl (Nat.le_of_ble_eq_true rfl) rfl rfl (Nat.le_of_ble_eq_true rfl) (Nat.le_of_ble_eq_true rfl) (w_at rfl rfl) ?_
  rintro _ _ ⟨rfl, rfl⟩
  refine ok_callA (L := [some (.inr (.inr (.inl 50))), some (.inl v1), some (.inl v2), some (.inl v3), some (.inl (w32 (v3 - (atV V 32 36 v1)))), none]) (M := mm V h) (args := [.inl (w32 (v3 - (atV V 32 36 v1))), .inl 1, .inl 600]) (rest := []) (y2 := 16) rfl rfl rfl (Or.inr (Or.inl rfl)) rfl rfl (Nat.le_of_ble_eq_true rfl) rfl rfl (Nat.le_of_ble_eq_true rfl) (Nat.le_of_ble_eq_true rfl) (w_isFrom rfl) ?_
  rintro _ _ ⟨rfl, rfl, hz2⟩
  refine ok_if_eq (x := isFromV (w32 (v3 - (atV V 32 36 v1))) 1 600) (L := [some (.inr (.inr (.inl 50))), some (.inl v1), some (.inl v2), some (.inl v3), some (.inl (w32 (v3 - (atV V 32 36 v1)))), none]) (S := []) (M := mm V h) rfl rfl (fun c3 => ?_) (fun c3 => ?_)
  ·
    replace hf := (if_pos c3).symm.trans hf
    obtain rfl := Option.some.inj hf
    have hz : (0 : Int) = 0 ∨ (0 : Int) = 1 := by
      first | exact Or.inl rfl | exact Or.inr rfl | assumption | (repeat' split) <;> first | exact Or.inl rfl | exact Or.inr rfl | assumption
    refine ok_zreturn (L := [some (.inr (.inr (.inl 50))), some (.inl v1), some (.inl v2), some (.inl v3), some (.inl (w32 (v3 - (atV V 32 36 v1)))), none]) (M := mm V h) (x := 0) rfl rfl hz ?_
    exact ⟨rfl, rfl, hz⟩
  ·
    replace hf := (if_neg c3).symm.trans hf
    refine ok_callA (L := [some (.inr (.inr (.inl 50))), some (.inl v1), some (.inl v2), some (.inl v3), some (.inl (w32 (v3 - (atV V 32 36 v1)))), none]) (M := mm V h) (args := [.inr (.inr (.inl 58)), .inl v1]) (rest := []) (y2 := 21) rfl rfl rfl (Or.inr (Or.inl rfl)) rfl rfl (Nat.le_of_ble_eq_true rfl) rfl rfl (Nat.le_of_ble_eq_true rfl) (Nat.le_of_ble_eq_true rfl) (w_at rfl rfl) ?_
    rintro _ _ ⟨rfl, rfl⟩
    refine ok_ic_gt (x := atV V 57 36 v1) (u := v3) (L := [some (.inr (.inr (.inl 50))), some (.inl v1), some (.inl v2), some (.inl v3), some (.inl (w32 (v3 - (atV V 32 36 v1)))), none]) (S := []) (M := mm V h) rfl rfl (fun c5 => ?_) (fun c5 => ?_)
    ·
      replace hf := (if_pos c5).symm.trans hf
      obtain rfl := Option.some.inj hf
      have hz : (0 : Int) = 0 ∨ (0 : Int) = 1 := by
        first | exact Or.inl rfl | exact Or.inr rfl | assumption | (repeat' split) <;> first | exact Or.inl rfl | exact Or.inr rfl | assumption
      refine ok_zreturn (L := [some (.inr (.inr (.inl 50))), some (.inl v1), some (.inl v2), some (.inl v3), some (.inl (w32 (v3 - (atV V 32 36 v1)))), none]) (M := mm V h) (x := 0) rfl rfl hz ?_
      exact ⟨rfl, rfl, hz⟩
    ·
      replace hf := (if_neg (Int.not_lt.mpr c5)).symm.trans hf
      refine ok_callA (L := [some (.inr (.inr (.inl 50))), some (.inl v1), some (.inl v2), some (.inl v3), some (.inl (w32 (v3 - (atV V 32 36 v1)))), none]) (M := mm V h) (args := [.inr (.inr (.inl 57)), .inl (w32 ((w32 (v1 * 3)) + v2))]) (rest := []) (y2 := 21) rfl rfl rfl (Or.inr (Or.inl rfl)) rfl rfl (Nat.le_of_ble_eq_true rfl) rfl rfl (Nat.le_of_ble_eq_true rfl) (Nat.le_of_ble_eq_true rfl) (w_at rfl rfl) ?_
      rintro _ _ ⟨rfl, rfl⟩
      refine ok_callA (L := [some (.inr (.inr (.inl 50))), some (.inl v1), some (.inl v2), some (.inl v3), some (.inl (w32 (v3 - (atV V 32 36 v1)))), none]) (M := mm V h) (args := [.inr (.inr (.inl 55)), .inl v2]) (rest := [.inl (atV V 56 108 (w32 ((w32 (v1 * 3)) + v2)))]) (y2 := 21) rfl rfl rfl (Or.inr (Or.inl rfl)) rfl rfl (Nat.le_of_ble_eq_true rfl) rfl rfl (Nat.le_of_ble_eq_true rfl) (Nat.le_of_ble_eq_true rfl) (w_at rfl rfl) ?_
      rintro _ _ ⟨rfl, rfl⟩
      refine ok_ic_lt (x := atV V 56 108 (w32 ((w32 (v1 * 3)) + v2))) (u := atV V 54 3 v2) (L := [some (.inr (.inr (.inl 50))), some (.inl v1), some (.inl v2), some (.inl v3), some (.inl (w32 (v3 - (atV V 32 36 v1)))), none]) (S := []) (M := mm V h) rfl rfl (fun c8 => ?_) (fun c8 => ?_)
      ·
        replace hf := (if_pos c8).symm.trans hf
        refine ok_thru (L := [some (.inr (.inr (.inl 50))), some (.inl v1), some (.inl v2), some (.inl v3), some (.inl (w32 (v3 - (atV V 32 36 v1)))), some (.inl 0)]) (S := []) (M := mm V h) rfl rfl ?_
        exact s_Rolling_mayBegin_10 hf
      ·
        replace hf := (if_neg (Int.not_lt.mpr c8)).symm.trans hf
        obtain rfl := Option.some.inj hf
        have hz : (0 : Int) = 0 ∨ (0 : Int) = 1 := by
          first | exact Or.inl rfl | exact Or.inr rfl | assumption | (repeat' split) <;> first | exact Or.inl rfl | exact Or.inr rfl | assumption
        refine ok_zreturn (L := [some (.inr (.inr (.inl 50))), some (.inl v1), some (.inl v2), some (.inl v3), some (.inl (w32 (v3 - (atV V 32 36 v1)))), none]) (M := mm V h) (x := 0) rfl rfl hz ?_
        exact ⟨rfl, rfl, hz⟩
