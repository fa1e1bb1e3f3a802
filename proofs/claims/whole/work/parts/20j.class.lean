/-! shallow functions of the program (printed by wip/tools/gen20.py) -/
def f_Cooling_meanAt (V : VV) (v1 : Int) (v2 : Int) : Option (VV × Int) := Option.bind (f_Cooling_meanBehind V v1 (w32 (v2 - (atV V 32 36 v1)))) (fun q2 => some (q2.1, q2.2))
set_option maxRecDepth 20000 in
set_option maxHeartbeats 4000000 in
theorem s_Cooling_meanAt {X : Xs} {d : Nat} {V : VV} {h : HP} {v1 : Int} {v2 : Int} {q : VV × Int} (hf : f_Cooling_meanAt V v1 v2 = some q) : Ok X (d + 4) 136 0 ([some (.inr (.inr (.inl 32))), some (.inl v1), some (.inl v2)], [], mm V h) (fun M r => M = mm q.1 h ∧ r = some (.inl q.2)) := by
  let QQ : Mm → Option AV → Prop := fun M r => M = mm q.1 h ∧ r = some (.inl q.2)
  show Ok X (d + 4) 136 0 ([some (.inr (.inr (.inl 32))), some (.inl v1), some (.inl v2)], [], mm V h) QQ
  refine ok_callA (L := [some (.inr (.inr (.inl 32))), some (.inl v1), some (.inl v2)]) (M := mm V h) (args := [.inr (.inr (.inl 33)), .inl v1]) (rest := [.inl v2, .inl v1, .inr (.inr (.inl 32))]) (y2 := 21) rfl rfl rfl (Or.inr (Or.inl rfl)) rfl rfl (Nat.le_of_ble_eq_true rfl) rfl rfl (Nat.le_of_ble_eq_true rfl) (Nat.le_of_ble_eq_true rfl) (w_at rfl rfl) ?_
  rintro _ _ ⟨rfl, rfl⟩
  obtain ⟨q2, e2, hf⟩ := obind hf
  refine ok_callA (L := [some (.inr (.inr (.inl 32))), some (.inl v1), some (.inl v2)]) (M := mm V h) (args := [.inr (.inr (.inl 32)), .inl v1, .inl (w32 (v2 - (atV V 32 36 v1)))]) (rest := []) (y2 := 116) rfl rfl rfl (Or.inl rfl) rfl rfl (Nat.le_of_ble_eq_true rfl) rfl rfl (Nat.le_of_ble_eq_true rfl) (Nat.le_of_ble_eq_true rfl) (s_Cooling_meanBehind e2) ?_
  rintro _ _ ⟨rfl, rfl⟩
  obtain rfl := Option.some.inj hf
  refine ok_ireturn (L := [some (.inr (.inr (.inl 32))), some (.inl v1), some (.inl v2)]) (M := mm q2.1 h) (x := q2.2) rfl rfl ?_
  exact ⟨rfl, rfl⟩
def f_Rolling_beginPass_14 (k2 : VV → Int → Int → Int → Int → Int → Int → (Option (VV))) (V : VV) (v1 : Int) (v2 : Int) (v3 : Int) (v4 : Int) (v5 : Int) (v6 : Int) : Option (VV) := k2 V v1 v2 v3 v4 v5 (w32 (v6 + 1))
set_option maxRecDepth 20000 in
set_option maxHeartbeats 4000000 in
theorem s_Rolling_beginPass_14 {X : Xs} {d : Nat} {k2 : VV → Int → Int → Int → Int → Int → Int → (Option (VV))} {V : VV} {h : HP} {v1 : Int} {v2 : Int} {v3 : Int} {v4 : Int} {v5 : Int} {v6 : Int} {z7 : Option AV} {q : VV} (hf : f_Rolling_beginPass_14 k2 V v1 v2 v3 v4 v5 v6 = some q) (K2 : ∀ (V : VV) (v1 : Int) (v2 : Int) (v3 : Int) (v4 : Int) (v5 : Int) (v6 : Int) (z7 : Option AV), k2 V v1 v2 v3 v4 v5 v6 = some q → Ok X (d + 5) 134 2 ([some (.inr (.inr (.inl 50))), some (.inl v1), some (.inl v2), some (.inl v3), some (.inl v4), some (.inl v5), some (.inl v6), z7], [], mm V h) (fun M r => M = mm q h ∧ r = none)) : Ok X (d + 5) 134 14 ([some (.inr (.inr (.inl 50))), some (.inl v1), some (.inl v2), some (.inl v3), some (.inl v4), some (.inl v5), some (.inl v6), z7], [], mm V h) (fun M r => M = mm q h ∧ r = none) := by
  let QQ : Mm → Option AV → Prop := fun M r => M = mm q h ∧ r = none
  show Ok X (d + 5) 134 14 ([some (.inr (.inr (.inl 50))), some (.inl v1), some (.inl v2), some (.inl v3), some (.inl v4), some (.inl v5), some (.inl v6), z7], [], mm V h) QQ
  refine ok_goto (L := [some (.inr (.inr (.inl 50))), some (.inl v1), some (.inl v2), some (.inl v3), some (.inl v4), some (.inl v5), some (.inl (w32 (v6 + 1))), z7]) (S := []) (M := mm V h) rfl rfl ?_
  exact K2 V v1 v2 v3 v4 v5 (w32 (v6 + 1)) z7 hf
def f_Rolling_beginPass_2 : Nat → VV → Int → Int → Int → Int → Int → Int → (Option (VV))
  | 0, _, _, _, _, _, _, _ => none
  | n + 1, V, v1, v2, v3, v4, v5, v6 => if v6 < (f_Road_jobs V) then Option.bind (f_Rolling_mayBegin V v6 v3 v2) (fun q12 => if q12 = 0 then f_Rolling_beginPass_14 (f_Rolling_beginPass_2 n) V v1 v2 v3 v4 v5 v6 else Option.bind (f_Cooling_meanAt V v6 v2) (fun q14 => f_Rolling_beginPass_14 (f_Rolling_beginPass_2 n) q14.1 v1 v2 v3 (if (isFromV q14.2 (atV q14.1 53 3 v3) (atV q14.1 52 3 v3)) = 0 then v4 else (if v4 = (-1) then v6 else (if q14.2 < v5 then v6 else v4 : Int) : Int) : Int) (if (isFromV q14.2 (atV q14.1 53 3 v3) (atV q14.1 52 3 v3)) = 0 then v5 else (if v4 = (-1) then q14.2 else (if q14.2 < v5 then q14.2 else v5 : Int) : Int) : Int) v6)) else if v4 = (-1) then some V else Option.bind (f_Road_sectionOf V v4) (fun q5 => if (max 1 (atV V 51 6 v1)) = 0 then none else lt_ (setV V 56 108 (w32 ((w32 (v4 * 3)) + v3)) (w32 ((atV V 56 108 (w32 ((w32 (v4 * 3)) + v3))) + 1))) (fun q9 => lt_ (setV q9 57 36 v4 (w32 (v2 + (w32 (Int.tdiv (w32 ((w32 ((atV V 2 12 q5) + (max 1 (atV V 51 6 v1)))) - 1)) (max 1 (atV V 51 6 v1))))))) (fun q10 => lt_ (setV q10 55 6 v1 (w32 (v2 + (w32 (Int.tdiv (w32 ((w32 ((atV V 2 12 q5) + (max 1 (atV V 51 6 v1)))) - 1)) (max 1 (atV V 51 6 v1))))))) (fun q11 => some q11))))
set_option maxRecDepth 20000 in
set_option maxHeartbeats 4000000 in
theorem s_Rolling_beginPass_2_n {X : Xs} {d : Nat} {h : HP} {q : VV} : ∀ (n : Nat) (V : VV) (v1 : Int) (v2 : Int) (v3 : Int) (v4 : Int) (v5 : Int) (v6 : Int) (z7 : Option AV), f_Rolling_beginPass_2 n V v1 v2 v3 v4 v5 v6 = some q → Ok X (d + 5) 134 2 ([some (.inr (.inr (.inl 50))), some (.inl v1), some (.inl v2), some (.inl v3), some (.inl v4), some (.inl v5), some (.inl v6), z7], [], mm V h) (fun M r => M = mm q h ∧ r = none) := by
  intro n
  induction n with
  | zero => intro V v1 v2 v3 v4 v5 v6 z7 hf; cases hf
  | succ n ih =>
    intro V v1 v2 v3 v4 v5 v6 z7 hf
    let QQ : Mm → Option AV → Prop := fun M r => M = mm q h ∧ r = none
    show Ok X (d + 5) 134 2 ([some (.inr (.inr (.inl 50))), some (.inl v1), some (.inl v2), some (.inl v3), some (.inl v4), some (.inl v5), some (.inl v6), z7], [], mm V h) QQ
    refine ok_callA (L := [some (.inr (.inr (.inl 50))), some (.inl v1), some (.inl v2), some (.inl v3), some (.inl v4), some (.inl v5), some (.inl v6), z7]) (M := mm V h) (args := [.inr (.inr (.inl 2))]) (rest := [.inl v6]) (y2 := 25) rfl rfl rfl (Or.inl rfl) rfl rfl (Nat.le_of_ble_eq_true rfl) rfl rfl (Nat.le_of_ble_eq_true rfl) (Nat.le_of_ble_eq_true rfl) (s_Road_jobs rfl) ?_
    rintro _ _ ⟨rfl, rfl⟩
    refine ok_ic_ge (x := v6) (u := f_Road_jobs V) (L := [some (.inr (.inr (.inl 50))), some (.inl v1), some (.inl v2), some (.inl v3), some (.inl v4), some (.inl v5), some (.inl v6), z7]) (S := []) (M := mm V h) rfl rfl (fun c2 => ?_) (fun c2 => ?_)
    ·
      replace hf := (if_neg (Int.not_lt.mpr c2)).symm.trans hf
      refine ok_ic_ne (x := v4) (u := (-1)) (L := [some (.inr (.inr (.inl 50))), some (.inl v1), some (.inl v2), some (.inl v3), some (.inl v4), some (.inl v5), some (.inl v6), z7]) (S := []) (M := mm V h) rfl rfl (fun c3 => ?_) (fun c3 => ?_)
      ·
        replace hf := (if_neg c3).symm.trans hf
        refine ok_callA (L := [some (.inr (.inr (.inl 50))), some (.inl v1), some (.inl v2), some (.inl v3), some (.inl v4), some (.inl v5), some (.inl v6), z7]) (M := mm V h) (args := [.inr (.inr (.inl 52)), .inl v1]) (rest := [.inl 1]) (y2 := 21) rfl rfl rfl (Or.inr (Or.inl rfl)) rfl rfl (Nat.le_of_ble_eq_true rfl) rfl rfl (Nat.le_of_ble_eq_true rfl) (Nat.le_of_ble_eq_true rfl) (w_at rfl rfl) ?_
        rintro _ _ ⟨rfl, rfl⟩
        refine ok_mmax (u := 1) (v := atV V 51 6 v1) (L := [some (.inr (.inr (.inl 50))), some (.inl v1), some (.inl v2), some (.inl v3), some (.inl v4), some (.inl v5), some (.inl v6), z7]) (S := []) (M := mm V h) rfl rfl rfl (Nat.le_of_ble_eq_true rfl) ?_
        obtain ⟨q5, e5, hf⟩ := obind hf
        refine ok_callA (L := [some (.inr (.inr (.inl 50))), some (.inl v1), some (.inl v2), some (.inl v3), some (.inl v4), some (.inl v5), some (.inl (max 1 (atV V 51 6 v1))), z7]) (M := mm V h) (args := [.inr (.inr (.inl 2)), .inl v4]) (rest := [.inr (.inr (.inl 3))]) (y2 := 26) rfl rfl rfl (Or.inl rfl) rfl rfl (Nat.le_of_ble_eq_true rfl) rfl rfl (Nat.le_of_ble_eq_true rfl) (Nat.le_of_ble_eq_true rfl) (s_Road_sectionOf e5) ?_
        rintro _ _ ⟨rfl, rfl⟩
        refine ok_callA (L := [some (.inr (.inr (.inl 50))), some (.inl v1), some (.inl v2), some (.inl v3), some (.inl v4), some (.inl v5), some (.inl (max 1 (atV V 51 6 v1))), z7]) (M := mm V h) (args := [.inr (.inr (.inl 3)), .inl q5]) (rest := []) (y2 := 21) rfl rfl rfl (Or.inr (Or.inl rfl)) rfl rfl (Nat.le_of_ble_eq_true rfl) rfl rfl (Nat.le_of_ble_eq_true rfl) (Nat.le_of_ble_eq_true rfl) (w_at rfl rfl) ?_
        rintro _ _ ⟨rfl, rfl⟩
        by_cases c7 : (max 1 (atV V 51 6 v1)) = 0
        case pos => replace hf := (if_pos c7).symm.trans hf; cases hf
        replace hf := (if_neg c7).symm.trans hf
        refine ok_idiv (u := w32 ((w32 ((atV V 2 12 q5) + (max 1 (atV V 51 6 v1)))) - 1)) (v := max 1 (atV V 51 6 v1)) (L := [some (.inr (.inr (.inl 50))), some (.inl v1), some (.inl v2), some (.inl v3), some (.inl v4), some (.inl v5), some (.inl (max 1 (atV V 51 6 v1))), z7]) (S := []) (M := mm V h) rfl rfl c7 ?_
        refine ok_callA (L := [some (.inr (.inr (.inl 50))), some (.inl v1), some (.inl v2), some (.inl v3), some (.inl v4), some (.inl v5), some (.inl (max 1 (atV V 51 6 v1))), some (.inl (w32 (Int.tdiv (w32 ((w32 ((atV V 2 12 q5) + (max 1 (atV V 51 6 v1)))) - 1)) (max 1 (atV V 51 6 v1)))))]) (M := mm V h) (args := [.inr (.inr (.inl 57)), .inl (w32 ((w32 (v4 * 3)) + v3))]) (rest := [.inl (w32 ((w32 (v4 * 3)) + v3)), .inr (.inr (.inl 57))]) (y2 := 21) rfl rfl rfl (Or.inr (Or.inl rfl)) rfl rfl (Nat.le_of_ble_eq_true rfl) rfl rfl (Nat.le_of_ble_eq_true rfl) (Nat.le_of_ble_eq_true rfl) (w_at rfl rfl) ?_
        rintro _ _ ⟨rfl, rfl⟩
        obtain ⟨q9, e9, hf⟩ := lt_x hf
        refine ok_callA (L := [some (.inr (.inr (.inl 50))), some (.inl v1), some (.inl v2), some (.inl v3), some (.inl v4), some (.inl v5), some (.inl (max 1 (atV V 51 6 v1))), some (.inl (w32 (Int.tdiv (w32 ((w32 ((atV V 2 12 q5) + (max 1 (atV V 51 6 v1)))) - 1)) (max 1 (atV V 51 6 v1)))))]) (M := mm V h) (args := [.inr (.inr (.inl 57)), .inl (w32 ((w32 (v4 * 3)) + v3)), .inl (w32 ((atV V 56 108 (w32 ((w32 (v4 * 3)) + v3))) + 1))]) (rest := []) (y2 := 9) rfl rfl rfl (Or.inr (Or.inl rfl)) rfl rfl (Nat.le_of_ble_eq_true rfl) rfl rfl (Nat.le_of_ble_eq_true rfl) (Nat.le_of_ble_eq_true rfl) (w_set rfl e9) ?_
        rintro _ _ ⟨rfl, rfl⟩
        obtain ⟨q10, e10, hf⟩ := lt_x hf
        refine ok_callA (L := [some (.inr (.inr (.inl 50))), some (.inl v1), some (.inl v2), some (.inl v3), some (.inl v4), some (.inl v5), some (.inl (max 1 (atV V 51 6 v1))), some (.inl (w32 (Int.tdiv (w32 ((w32 ((atV V 2 12 q5) + (max 1 (atV V 51 6 v1)))) - 1)) (max 1 (atV V 51 6 v1)))))]) (M := mm q9 h) (args := [.inr (.inr (.inl 58)), .inl v4, .inl (w32 (v2 + (w32 (Int.tdiv (w32 ((w32 ((atV V 2 12 q5) + (max 1 (atV V 51 6 v1)))) - 1)) (max 1 (atV V 51 6 v1))))))]) (rest := []) (y2 := 9) rfl rfl rfl (Or.inr (Or.inl rfl)) rfl rfl (Nat.le_of_ble_eq_true rfl) rfl rfl (Nat.le_of_ble_eq_true rfl) (Nat.le_of_ble_eq_true rfl) (w_set rfl e10) ?_
        rintro _ _ ⟨rfl, rfl⟩
        obtain ⟨q11, e11, hf⟩ := lt_x hf
        refine ok_callA (L := [some (.inr (.inr (.inl 50))), some (.inl v1), some (.inl v2), some (.inl v3), some (.inl v4), some (.inl v5), some (.inl (max 1 (atV V 51 6 v1))), some (.inl (w32 (Int.tdiv (w32 ((w32 ((atV V 2 12 q5) + (max 1 (atV V 51 6 v1)))) - 1)) (max 1 (atV V 51 6 v1)))))]) (M := mm q10 h) (args := [.inr (.inr (.inl 56)), .inl v1, .inl (w32 (v2 + (w32 (Int.tdiv (w32 ((w32 ((atV V 2 12 q5) + (max 1 (atV V 51 6 v1)))) - 1)) (max 1 (atV V 51 6 v1))))))]) (rest := []) (y2 := 9) rfl rfl rfl (Or.inr (Or.inl rfl)) rfl rfl (Nat.le_of_ble_eq_true rfl) rfl rfl (Nat.le_of_ble_eq_true rfl) (Nat.le_of_ble_eq_true rfl) (w_set rfl e11) ?_
        rintro _ _ ⟨rfl, rfl⟩
        obtain rfl := Option.some.inj hf
        refine ok_return (L := [some (.inr (.inr (.inl 50))), some (.inl v1), some (.inl v2), some (.inl v3), some (.inl v4), some (.inl v5), some (.inl (max 1 (atV V 51 6 v1))), some (.inl (w32 (Int.tdiv (w32 ((w32 ((atV V 2 12 q5) + (max 1 (atV V 51 6 v1)))) - 1)) (max 1 (atV V 51 6 v1)))))]) (M := mm q11 h) rfl rfl ?_
        exact ⟨rfl, rfl⟩
      ·
        replace hf := (if_pos c3).symm.trans hf
        obtain rfl := Option.some.inj hf
        refine ok_return (L := [some (.inr (.inr (.inl 50))), some (.inl v1), some (.inl v2), some (.inl v3), some (.inl v4), some (.inl v5), some (.inl v6), z7]) (M := mm V h) rfl rfl ?_
        exact ⟨rfl, rfl⟩
    ·
      replace hf := (if_pos c2).symm.trans hf
      obtain ⟨q12, e12, hf⟩ := obind hf
      refine ok_callA (L := [some (.inr (.inr (.inl 50))), some (.inl v1), some (.inl v2), some (.inl v3), some (.inl v4), some (.inl v5), some (.inl v6), z7]) (M := mm V h) (args := [.inr (.inr (.inl 50)), .inl v6, .inl v3, .inl v2]) (rest := []) (y2 := 135) rfl rfl rfl (Or.inl rfl) rfl rfl (Nat.le_of_ble_eq_true rfl) rfl rfl (Nat.le_of_ble_eq_true rfl) (Nat.le_of_ble_eq_true rfl) (s_Rolling_mayBegin e12) ?_
      rintro _ _ ⟨rfl, rfl, hz12⟩
      refine ok_if_eq (x := q12) (L := [some (.inr (.inr (.inl 50))), some (.inl v1), some (.inl v2), some (.inl v3), some (.inl v4), some (.inl v5), some (.inl v6), z7]) (S := []) (M := mm V h) rfl rfl (fun c13 => ?_) (fun c13 => ?_)
      ·
        replace hf := (if_pos c13).symm.trans hf
        exact s_Rolling_beginPass_14 hf ih
      ·
        replace hf := (if_neg c13).symm.trans hf
        obtain ⟨q14, e14, hf⟩ := obind hf
        refine ok_callA (L := [some (.inr (.inr (.inl 50))), some (.inl v1), some (.inl v2), some (.inl v3), some (.inl v4), some (.inl v5), some (.inl v6), z7]) (M := mm V h) (args := [.inr (.inr (.inl 32)), .inl v6, .inl v2]) (rest := []) (y2 := 136) rfl rfl rfl (Or.inl rfl) rfl rfl (Nat.le_of_ble_eq_true rfl) rfl rfl (Nat.le_of_ble_eq_true rfl) (Nat.le_of_ble_eq_true rfl) (s_Cooling_meanAt e14) ?_
        rintro _ _ ⟨rfl, rfl⟩
        refine ok_callA (L := [some (.inr (.inr (.inl 50))), some (.inl v1), some (.inl v2), some (.inl v3), some (.inl v4), some (.inl v5), some (.inl v6), some (.inl q14.2)]) (M := mm q14.1 h) (args := [.inr (.inr (.inl 54)), .inl v3]) (rest := [.inl q14.2]) (y2 := 21) rfl rfl rfl (Or.inr (Or.inl rfl)) rfl rfl (Nat.le_of_ble_eq_true rfl) rfl rfl (Nat.le_of_ble_eq_true rfl) (Nat.le_of_ble_eq_true rfl) (w_at rfl rfl) ?_
        rintro _ _ ⟨rfl, rfl⟩
        refine ok_callA (L := [some (.inr (.inr (.inl 50))), some (.inl v1), some (.inl v2), some (.inl v3), some (.inl v4), some (.inl v5), some (.inl v6), some (.inl q14.2)]) (M := mm q14.1 h) (args := [.inr (.inr (.inl 53)), .inl v3]) (rest := [.inl (atV q14.1 53 3 v3), .inl q14.2]) (y2 := 21) rfl rfl rfl (Or.inr (Or.inl rfl)) rfl rfl (Nat.le_of_ble_eq_true rfl) rfl rfl (Nat.le_of_ble_eq_true rfl) (Nat.le_of_ble_eq_true rfl) (w_at rfl rfl) ?_
        rintro _ _ ⟨rfl, rfl⟩
        refine ok_callA (L := [some (.inr (.inr (.inl 50))), some (.inl v1), some (.inl v2), some (.inl v3), some (.inl v4), some (.inl v5), some (.inl v6), some (.inl q14.2)]) (M := mm q14.1 h) (args := [.inl q14.2, .inl (atV q14.1 53 3 v3), .inl (atV q14.1 52 3 v3)]) (rest := []) (y2 := 16) rfl rfl rfl (Or.inr (Or.inl rfl)) rfl rfl (Nat.le_of_ble_eq_true rfl) rfl rfl (Nat.le_of_ble_eq_true rfl) (Nat.le_of_ble_eq_true rfl) (w_isFrom rfl) ?_
        rintro _ _ ⟨rfl, rfl, hz17⟩
        have JN18 : Ok X (d + 5) 134 14 ([some (.inr (.inr (.inl 50))), some (.inl v1), some (.inl v2), some (.inl v3), some (.inl (if (isFromV q14.2 (atV q14.1 53 3 v3) (atV q14.1 52 3 v3)) = 0 then v4 else (if v4 = (-1) then v6 else (if q14.2 < v5 then v6 else v4 : Int) : Int) : Int)), some (.inl (if (isFromV q14.2 (atV q14.1 53 3 v3) (atV q14.1 52 3 v3)) = 0 then v5 else (if v4 = (-1) then q14.2 else (if q14.2 < v5 then q14.2 else v5 : Int) : Int) : Int)), some (.inl v6), some (.inl q14.2)], [], mm q14.1 h) QQ := by
          exact s_Rolling_beginPass_14 hf ih
        clear hf
        refine ok_if_eq (x := isFromV q14.2 (atV q14.1 53 3 v3) (atV q14.1 52 3 v3)) (L := [some (.inr (.inr (.inl 50))), some (.inl v1), some (.inl v2), some (.inl v3), some (.inl v4), some (.inl v5), some (.inl v6), some (.inl q14.2)]) (S := []) (M := mm q14.1 h) rfl rfl (fun c19 => ?_) (fun c19 => ?_)
        ·
          simp only [if_pos c19] at JN18
          first | exact JN18 | (simp only [if_pos c19]; exact JN18)
        ·
          simp only [if_neg c19] at JN18
          refine ok_ic_eq (x := v4) (u := (-1)) (L := [some (.inr (.inr (.inl 50))), some (.inl v1), some (.inl v2), some (.inl v3), some (.inl v4), some (.inl v5), some (.inl v6), some (.inl q14.2)]) (S := []) (M := mm q14.1 h) rfl rfl (fun c20 => ?_) (fun c20 => ?_)
          ·
            simp only [if_pos c20] at JN18
            refine ok_thru (L := [some (.inr (.inr (.inl 50))), some (.inl v1), some (.inl v2), some (.inl v3), some (.inl v6), some (.inl q14.2), some (.inl v6), some (.inl q14.2)]) (S := []) (M := mm q14.1 h) rfl rfl ?_
            first | exact JN18 | (simp only [if_neg c19, if_pos c20]; exact JN18)
          ·
            simp only [if_neg c20] at JN18
            refine ok_ic_ge (x := q14.2) (u := v5) (L := [some (.inr (.inr (.inl 50))), some (.inl v1), some (.inl v2), some (.inl v3), some (.inl v4), some (.inl v5), some (.inl v6), some (.inl q14.2)]) (S := []) (M := mm q14.1 h) rfl rfl (fun c21 => ?_) (fun c21 => ?_)
            ·
              simp only [if_neg (Int.not_lt.mpr c21)] at JN18
              first | exact JN18 | (simp only [if_neg c19, if_neg c20, if_neg (Int.not_lt.mpr c21)]; exact JN18)
            ·
              simp only [if_pos c21] at JN18
              refine ok_thru (L := [some (.inr (.inr (.inl 50))), some (.inl v1), some (.inl v2), some (.inl v3), some (.inl v6), some (.inl q14.2), some (.inl v6), some (.inl q14.2)]) (S := []) (M := mm q14.1 h) rfl rfl ?_
              first | exact JN18 | (simp only [if_neg c19, if_neg c20, if_pos c21]; exact JN18)
theorem s_Rolling_beginPass_2 {X : Xs} {d : Nat} {h : HP} {V : VV} {v1 : Int} {v2 : Int} {v3 : Int} {v4 : Int} {v5 : Int} {v6 : Int} {z7 : Option AV} {n : Nat} {q : VV} (hf : f_Rolling_beginPass_2 n V v1 v2 v3 v4 v5 v6 = some q) : Ok X (d + 5) 134 2 ([some (.inr (.inr (.inl 50))), some (.inl v1), some (.inl v2), some (.inl v3), some (.inl v4), some (.inl v5), some (.inl v6), z7], [], mm V h) (fun M r => M = mm q h ∧ r = none) :=
  s_Rolling_beginPass_2_n n V v1 v2 v3 v4 v5 v6 z7 hf
def f_Rolling_beginPass (V : VV) (v1 : Int) (v2 : Int) : Option (VV) := f_Rolling_beginPass_2 FU V v1 v2 (atV V 50 6 v1) (-1) 0 0
set_option maxRecDepth 20000 in
set_option maxHeartbeats 4000000 in
theorem s_Rolling_beginPass {X : Xs} {d : Nat} {V : VV} {h : HP} {v1 : Int} {v2 : Int} {q : VV} (hf : f_Rolling_beginPass V v1 v2 = some q) : Ok X (d + 5) 134 0 ([some (.inr (.inr (.inl 50))), some (.inl v1), some (.inl v2), none, none, none, none, none], [], mm V h) (fun M r => M = mm q h ∧ r = none) := by
  let QQ : Mm → Option AV → Prop := fun M r => M = mm q h ∧ r = none
  show Ok X (d + 5) 134 0 ([some (.inr (.inr (.inl 50))), some (.inl v1), some (.inl v2), none, none, none, none, none], [], mm V h) QQ
  refine ok_callA (L := [some (.inr (.inr (.inl 50))), some (.inl v1), some (.inl v2), none, none, none, none, none]) (M := mm V h) (args := [.inr (.inr (.inl 51)), .inl v1]) (rest := []) (y2 := 21) rfl rfl rfl (Or.inr (Or.inl rfl)) rfl rfl (Nat.le_of_ble_eq_true rfl) rfl rfl (Nat.le_of_ble_eq_true rfl) (Nat.le_of_ble_eq_true rfl) (w_at rfl rfl) ?_
  rintro _ _ ⟨rfl, rfl⟩
  refine ok_thru (L := [some (.inr (.inr (.inl 50))), some (.inl v1), some (.inl v2), some (.inl (atV V 50 6 v1)), some (.inl (-1)), some (.inl 0), some (.inl 0), none]) (S := []) (M := mm V h) rfl rfl ?_
  exact s_Rolling_beginPass_2 hf
def f_Rolling_roll_15 (k9 : VV → Int → Int → (Option (VV))) (k11 : VV → Int → Int → Int → (Option (VV))) (V : VV) (v2 : Int) (v3 : Int) (v4 : Int) : Option (VV) := k11 V v2 v3 (w32 (v4 + 1))
set_option maxRecDepth 20000 in
set_option maxHeartbeats 4000000 in
theorem s_Rolling_roll_15 {X : Xs} {d : Nat} {k9 : VV → Int → Int → (Option (VV))} {k11 : VV → Int → Int → Int → (Option (VV))} {V : VV} {h : HP} {v2 : Int} {v3 : Int} {v4 : Int} {w1 : Int} {q : VV} (hf : f_Rolling_roll_15 k9 k11 V v2 v3 v4 = some q) (K9 : ∀ (V : VV) (v2 : Int) (v3 : Int) (w1 : Int) (z4 : Option AV), k9 V v2 v3 = some q → Ok X (d + 6) 133 9 ([some (.inr (.inr (.inl 50))), some (.inl w1), some (.inl v2), some (.inl v3), z4], [], mm V h) (fun M r => M = mm q h ∧ r = none)) (K11 : ∀ (V : VV) (v2 : Int) (v3 : Int) (v4 : Int) (w1 : Int), k11 V v2 v3 v4 = some q → Ok X (d + 6) 133 11 ([some (.inr (.inr (.inl 50))), some (.inl w1), some (.inl v2), some (.inl v3), some (.inl v4)], [], mm V h) (fun M r => M = mm q h ∧ r = none)) : Ok X (d + 6) 133 15 ([some (.inr (.inr (.inl 50))), some (.inl w1), some (.inl v2), some (.inl v3), some (.inl v4)], [], mm V h) (fun M r => M = mm q h ∧ r = none) := by
  let QQ : Mm → Option AV → Prop := fun M r => M = mm q h ∧ r = none
  show Ok X (d + 6) 133 15 ([some (.inr (.inr (.inl 50))), some (.inl w1), some (.inl v2), some (.inl v3), some (.inl v4)], [], mm V h) QQ
  refine ok_goto (L := [some (.inr (.inr (.inl 50))), some (.inl w1), some (.inl v2), some (.inl v3), some (.inl (w32 (v4 + 1)))]) (S := []) (M := mm V h) rfl rfl ?_
  exact K11 V v2 v3 (w32 (v4 + 1)) w1 hf
def f_Rolling_roll_11 (k9 : VV → Int → Int → (Option (VV))) : Nat → VV → Int → Int → Int → (Option (VV))
  | 0, _, _, _, _ => none
  | n + 1, V, v2, v3, v4 => if v4 < (V 49 11) then if v3 < (atV V 55 6 v4) then f_Rolling_roll_15 k9 (f_Rolling_roll_11 k9 n) V v2 v3 v4 else Option.bind (f_Rolling_beginPass V v4 v3) (fun q4 => f_Rolling_roll_15 k9 (f_Rolling_roll_11 k9 n) q4 v2 v3 v4) else k9 V v2 (w32 (v3 + 1))
set_option maxRecDepth 20000 in
set_option maxHeartbeats 4000000 in
theorem s_Rolling_roll_11_n {X : Xs} {d : Nat} {k9 : VV → Int → Int → (Option (VV))} {h : HP} {q : VV} (K9 : ∀ (V : VV) (v2 : Int) (v3 : Int) (w1 : Int) (z4 : Option AV), k9 V v2 v3 = some q → Ok X (d + 6) 133 9 ([some (.inr (.inr (.inl 50))), some (.inl w1), some (.inl v2), some (.inl v3), z4], [], mm V h) (fun M r => M = mm q h ∧ r = none)) : ∀ (n : Nat) (V : VV) (v2 : Int) (v3 : Int) (v4 : Int) (w1 : Int), f_Rolling_roll_11 k9 n V v2 v3 v4 = some q → Ok X (d + 6) 133 11 ([some (.inr (.inr (.inl 50))), some (.inl w1), some (.inl v2), some (.inl v3), some (.inl v4)], [], mm V h) (fun M r => M = mm q h ∧ r = none) := by
  intro n
  induction n with
  | zero => intro V v2 v3 v4 w1 hf; cases hf
  | succ n ih =>
    intro V v2 v3 v4 w1 hf
    let QQ : Mm → Option AV → Prop := fun M r => M = mm q h ∧ r = none
    show Ok X (d + 6) 133 11 ([some (.inr (.inr (.inl 50))), some (.inl w1), some (.inl v2), some (.inl v3), some (.inl v4)], [], mm V h) QQ
    refine ok_ic_ge (x := v4) (u := V 49 11) (L := [some (.inr (.inr (.inl 50))), some (.inl w1), some (.inl v2), some (.inl v3), some (.inl v4)]) (S := []) (M := mm V h) rfl rfl (fun c1 => ?_) (fun c1 => ?_)
    ·
      replace hf := (if_neg (Int.not_lt.mpr c1)).symm.trans hf
      refine ok_goto (L := [some (.inr (.inr (.inl 50))), some (.inl w1), some (.inl v2), some (.inl (w32 (v3 + 1))), some (.inl v4)]) (S := []) (M := mm V h) rfl rfl ?_
      exact K9 V v2 (w32 (v3 + 1)) w1 (some (.inl v4)) hf
    ·
      replace hf := (if_pos c1).symm.trans hf
      refine ok_callA (L := [some (.inr (.inr (.inl 50))), some (.inl w1), some (.inl v2), some (.inl v3), some (.inl v4)]) (M := mm V h) (args := [.inr (.inr (.inl 56)), .inl v4]) (rest := []) (y2 := 21) rfl rfl rfl (Or.inr (Or.inl rfl)) rfl rfl (Nat.le_of_ble_eq_true rfl) rfl rfl (Nat.le_of_ble_eq_true rfl) (Nat.le_of_ble_eq_true rfl) (w_at rfl rfl) ?_
      rintro _ _ ⟨rfl, rfl⟩
      refine ok_ic_gt (x := atV V 55 6 v4) (u := v3) (L := [some (.inr (.inr (.inl 50))), some (.inl w1), some (.inl v2), some (.inl v3), some (.inl v4)]) (S := []) (M := mm V h) rfl rfl (fun c3 => ?_) (fun c3 => ?_)
      ·
        replace hf := (if_pos c3).symm.trans hf
        exact s_Rolling_roll_15 hf K9 ih
      ·
        replace hf := (if_neg (Int.not_lt.mpr c3)).symm.trans hf
        obtain ⟨q4, e4, hf⟩ := obind hf
        refine ok_callA (L := [some (.inr (.inr (.inl 50))), some (.inl w1), some (.inl v2), some (.inl v3), some (.inl v4)]) (M := mm V h) (args := [.inr (.inr (.inl 50)), .inl v4, .inl v3]) (rest := []) (y2 := 134) rfl rfl rfl (Or.inl rfl) rfl rfl (Nat.le_of_ble_eq_true rfl) rfl rfl (Nat.le_of_ble_eq_true rfl) (Nat.le_of_ble_eq_true rfl) (s_Rolling_beginPass e4) ?_
        rintro _ _ ⟨rfl, rfl⟩
        exact s_Rolling_roll_15 hf K9 ih
theorem s_Rolling_roll_11 {X : Xs} {d : Nat} {k9 : VV → Int → Int → (Option (VV))} {h : HP} {V : VV} {v2 : Int} {v3 : Int} {v4 : Int} {w1 : Int} {n : Nat} {q : VV} (hf : f_Rolling_roll_11 k9 n V v2 v3 v4 = some q) (K9 : ∀ (V : VV) (v2 : Int) (v3 : Int) (w1 : Int) (z4 : Option AV), k9 V v2 v3 = some q → Ok X (d + 6) 133 9 ([some (.inr (.inr (.inl 50))), some (.inl w1), some (.inl v2), some (.inl v3), z4], [], mm V h) (fun M r => M = mm q h ∧ r = none)) : Ok X (d + 6) 133 11 ([some (.inr (.inr (.inl 50))), some (.inl w1), some (.inl v2), some (.inl v3), some (.inl v4)], [], mm V h) (fun M r => M = mm q h ∧ r = none) :=
  s_Rolling_roll_11_n K9 n V v2 v3 v4 w1 hf
def f_Rolling_roll_9 : Nat → VV → Int → Int → (Option (VV))
  | 0, _, _, _ => none
  | n + 1, V, v2, v3 => if v2 < v3 then some V else f_Rolling_roll_11 (f_Rolling_roll_9 n) FU V v2 v3 0
set_option maxRecDepth 20000 in
set_option maxHeartbeats 4000000 in
theorem s_Rolling_roll_9_n {X : Xs} {d : Nat} {h : HP} {q : VV} : ∀ (n : Nat) (V : VV) (v2 : Int) (v3 : Int) (w1 : Int) (z4 : Option AV), f_Rolling_roll_9 n V v2 v3 = some q → Ok X (d + 6) 133 9 ([some (.inr (.inr (.inl 50))), some (.inl w1), some (.inl v2), some (.inl v3), z4], [], mm V h) (fun M r => M = mm q h ∧ r = none) := by
  intro n
  induction n with
  | zero => intro V v2 v3 w1 z4 hf; cases hf
  | succ n ih =>
    intro V v2 v3 w1 z4 hf
    let QQ : Mm → Option AV → Prop := fun M r => M = mm q h ∧ r = none
    show Ok X (d + 6) 133 9 ([some (.inr (.inr (.inl 50))), some (.inl w1), some (.inl v2), some (.inl v3), z4], [], mm V h) QQ
    refine ok_ic_gt (x := v3) (u := v2) (L := [some (.inr (.inr (.inl 50))), some (.inl w1), some (.inl v2), some (.inl v3), z4]) (S := []) (M := mm V h) rfl rfl (fun c1 => ?_) (fun c1 => ?_)
    ·
      replace hf := (if_pos c1).symm.trans hf
      obtain rfl := Option.some.inj hf
      refine ok_return (L := [some (.inr (.inr (.inl 50))), some (.inl w1), some (.inl v2), some (.inl v3), z4]) (M := mm V h) rfl rfl ?_
      exact ⟨rfl, rfl⟩
    ·
      replace hf := (if_neg (Int.not_lt.mpr c1)).symm.trans hf
      refine ok_thru (L := [some (.inr (.inr (.inl 50))), some (.inl w1), some (.inl v2), some (.inl v3), some (.inl 0)]) (S := []) (M := mm V h) rfl rfl ?_
      exact s_Rolling_roll_11 hf ih
theorem s_Rolling_roll_9 {X : Xs} {d : Nat} {h : HP} {V : VV} {v2 : Int} {v3 : Int} {w1 : Int} {z4 : Option AV} {n : Nat} {q : VV} (hf : f_Rolling_roll_9 n V v2 v3 = some q) : Ok X (d + 6) 133 9 ([some (.inr (.inr (.inl 50))), some (.inl w1), some (.inl v2), some (.inl v3), z4], [], mm V h) (fun M r => M = mm q h ∧ r = none) :=
  s_Rolling_roll_9_n n V v2 v3 w1 z4 hf
def f_Rolling_roll (V : VV) (v1 : Int) : Option (VV) := if (V 49 10) = v1 then some V else lt_ (fillV (up V 49 10 v1) 55 6 0) (fun q2 => lt_ (fillV q2 56 108 0) (fun q3 => lt_ (fillV q3 57 36 (-1)) (fun q4 => f_Rolling_roll_9 FU q4 (w32 ((atV q4 32 36 (w32 ((f_Road_jobs q4) - 1))) + 600)) (w32 ((atV q4 32 36 0) + 1)))))
set_option maxRecDepth 20000 in
set_option maxHeartbeats 4000000 in
theorem s_Rolling_roll {X : Xs} {d : Nat} {V : VV} {h : HP} {v1 : Int} {q : VV} (hf : f_Rolling_roll V v1 = some q) : Ok X (d + 6) 133 0 ([some (.inr (.inr (.inl 50))), some (.inl v1), none, none, none], [], mm V h) (fun M r => M = mm q h ∧ r = none) := by
  let QQ : Mm → Option AV → Prop := fun M r => M = mm q h ∧ r = none
  show Ok X (d + 6) 133 0 ([some (.inr (.inr (.inl 50))), some (.inl v1), none, none, none], [], mm V h) QQ
  refine ok_ic_ne (x := V 49 10) (u := v1) (L := [some (.inr (.inr (.inl 50))), some (.inl v1), none, none, none]) (S := []) (M := mm V h) rfl rfl (fun c1 => ?_) (fun c1 => ?_)
  ·
    replace hf := (if_neg c1).symm.trans hf
    obtain ⟨q2, e2, hf⟩ := lt_x hf
    refine ok_callA (L := [some (.inr (.inr (.inl 50))), some (.inl v1), none, none, none]) (M := mm (up V 49 10 v1) h) (args := [.inr (.inr (.inl 56)), .inl 0]) (rest := []) (y2 := 6) rfl rfl rfl (Or.inr (Or.inl rfl)) rfl rfl (Nat.le_of_ble_eq_true rfl) rfl rfl (Nat.le_of_ble_eq_true rfl) (Nat.le_of_ble_eq_true rfl) (w_fill rfl (by decide) e2) ?_
    rintro _ _ ⟨rfl, rfl⟩
    obtain ⟨q3, e3, hf⟩ := lt_x hf
    refine ok_callA (L := [some (.inr (.inr (.inl 50))), some (.inl v1), none, none, none]) (M := mm q2 h) (args := [.inr (.inr (.inl 57)), .inl 0]) (rest := []) (y2 := 6) rfl rfl rfl (Or.inr (Or.inl rfl)) rfl rfl (Nat.le_of_ble_eq_true rfl) rfl rfl (Nat.le_of_ble_eq_true rfl) (Nat.le_of_ble_eq_true rfl) (w_fill rfl (by decide) e3) ?_
    rintro _ _ ⟨rfl, rfl⟩
    obtain ⟨q4, e4, hf⟩ := lt_x hf
    refine ok_callA (L := [some (.inr (.inr (.inl 50))), some (.inl v1), none, none, none]) (M := mm q3 h) (args := [.inr (.inr (.inl 58)), .inl (-1)]) (rest := []) (y2 := 6) rfl rfl rfl (Or.inr (Or.inl rfl)) rfl rfl (Nat.le_of_ble_eq_true rfl) rfl rfl (Nat.le_of_ble_eq_true rfl) (Nat.le_of_ble_eq_true rfl) (w_fill rfl (by decide) e4) ?_
    rintro _ _ ⟨rfl, rfl⟩
    refine ok_callA (L := [some (.inr (.inr (.inl 50))), some (.inl v1), none, none, none]) (M := mm q4 h) (args := [.inr (.inr (.inl 2))]) (rest := [.inr (.inr (.inl 33))]) (y2 := 25) rfl rfl rfl (Or.inl rfl) rfl rfl (Nat.le_of_ble_eq_true rfl) rfl rfl (Nat.le_of_ble_eq_true rfl) (Nat.le_of_ble_eq_true rfl) (s_Road_jobs rfl) ?_
    rintro _ _ ⟨rfl, rfl⟩
    refine ok_callA (L := [some (.inr (.inr (.inl 50))), some (.inl v1), none, none, none]) (M := mm q4 h) (args := [.inr (.inr (.inl 33)), .inl (w32 ((f_Road_jobs q4) - 1))]) (rest := []) (y2 := 21) rfl rfl rfl (Or.inr (Or.inl rfl)) rfl rfl (Nat.le_of_ble_eq_true rfl) rfl rfl (Nat.le_of_ble_eq_true rfl) (Nat.le_of_ble_eq_true rfl) (w_at rfl rfl) ?_
    rintro _ _ ⟨rfl, rfl⟩
    refine ok_callA (L := [some (.inr (.inr (.inl 50))), some (.inl v1), some (.inl (w32 ((atV q4 32 36 (w32 ((f_Road_jobs q4) - 1))) + 600))), none, none]) (M := mm q4 h) (args := [.inr (.inr (.inl 33)), .inl 0]) (rest := []) (y2 := 21) rfl rfl rfl (Or.inr (Or.inl rfl)) rfl rfl (Nat.le_of_ble_eq_true rfl) rfl rfl (Nat.le_of_ble_eq_true rfl) (Nat.le_of_ble_eq_true rfl) (w_at rfl rfl) ?_
    rintro _ _ ⟨rfl, rfl⟩
    refine ok_thru (L := [some (.inr (.inr (.inl 50))), some (.inl v1), some (.inl (w32 ((atV q4 32 36 (w32 ((f_Road_jobs q4) - 1))) + 600))), some (.inl (w32 ((atV q4 32 36 0) + 1))), none]) (S := []) (M := mm q4 h) rfl rfl ?_
    exact s_Rolling_roll_9 hf
  ·
    replace hf := (if_pos c1).symm.trans hf
    obtain rfl := Option.some.inj hf
    refine ok_return (L := [some (.inr (.inr (.inl 50))), some (.inl v1), none, none, none]) (M := mm V h) rfl rfl ?_
    exact ⟨rfl, rfl⟩
def f_Br_isColdJoint_6 (V : VV)  : Option (VV × Int) := some (V, 0)
set_option maxRecDepth 20000 in
set_option maxHeartbeats 4000000 in
theorem s_Br_isColdJoint_6 {X : Xs} {d : Nat} {V : VV} {h : HP} {w1 : Int} {q : VV × Int} (hf : f_Br_isColdJoint_6 V = some q) : Ok X (d + 5) 137 6 ([some (.inr (.inr (.inl 1))), some (.inl w1)], [], mm V h) (fun M r => M = mm q.1 h ∧ r = some (.inl q.2) ∧ (q.2 = 0 ∨ q.2 = 1)) := by
  let QQ : Mm → Option AV → Prop := fun M r => M = mm q.1 h ∧ r = some (.inl q.2) ∧ (q.2 = 0 ∨ q.2 = 1)
  show Ok X (d + 5) 137 6 ([some (.inr (.inr (.inl 1))), some (.inl w1)], [], mm V h) QQ
  refine ok_thru (L := [some (.inr (.inr (.inl 1))), some (.inl w1)]) (S := [.inl 0]) (M := mm V h) rfl rfl ?_
  obtain rfl := Option.some.inj hf
  have hz : (0 : Int) = 0 ∨ (0 : Int) = 1 := by
    first | exact Or.inl rfl | exact Or.inr rfl | assumption | (repeat' split) <;> first | exact Or.inl rfl | exact Or.inr rfl | assumption
  refine ok_zreturn (L := [some (.inr (.inr (.inl 1))), some (.inl w1)]) (M := mm V h) (x := 0) rfl rfl hz ?_
  exact ⟨rfl, rfl, hz⟩
def f_Br_isColdJoint (V : VV) (v1 : Int) : Option (VV × Int) := Option.bind (f_Road_sectionOf V v1) (fun q1 => if 0 < q1 then Option.bind (f_Cooling_meanAt V (w32 (v1 - 1)) (atV V 48 36 v1)) (fun q4 => if q4.2 < (q4.1 15 4) then some (q4.1, 1) else f_Br_isColdJoint_6 q4.1) else f_Br_isColdJoint_6 V)
set_option maxRecDepth 20000 in
set_option maxHeartbeats 4000000 in
theorem s_Br_isColdJoint {X : Xs} {d : Nat} {V : VV} {h : HP} {v1 : Int} {q : VV × Int} (hf : f_Br_isColdJoint V v1 = some q) : Ok X (d + 5) 137 0 ([some (.inr (.inr (.inl 1))), some (.inl v1)], [], mm V h) (fun M r => M = mm q.1 h ∧ r = some (.inl q.2) ∧ (q.2 = 0 ∨ q.2 = 1)) := by
  let QQ : Mm → Option AV → Prop := fun M r => M = mm q.1 h ∧ r = some (.inl q.2) ∧ (q.2 = 0 ∨ q.2 = 1)
  show Ok X (d + 5) 137 0 ([some (.inr (.inr (.inl 1))), some (.inl v1)], [], mm V h) QQ
  obtain ⟨q1, e1, hf⟩ := obind hf
  refine ok_callA (L := [some (.inr (.inr (.inl 1))), some (.inl v1)]) (M := mm V h) (args := [.inr (.inr (.inl 2)), .inl v1]) (rest := []) (y2 := 26) rfl rfl rfl (Or.inl rfl) rfl rfl (Nat.le_of_ble_eq_true rfl) rfl rfl (Nat.le_of_ble_eq_true rfl) (Nat.le_of_ble_eq_true rfl) (s_Road_sectionOf e1) ?_
  rintro _ _ ⟨rfl, rfl⟩
  refine ok_if_le (x := q1) (L := [some (.inr (.inr (.inl 1))), some (.inl v1)]) (S := []) (M := mm V h) rfl rfl (fun c2 => ?_) (fun c2 => ?_)
  ·
    replace hf := (if_neg (Int.not_lt.mpr c2)).symm.trans hf
    exact s_Br_isColdJoint_6 hf
  ·
    replace hf := (if_pos c2).symm.trans hf
    refine ok_callA (L := [some (.inr (.inr (.inl 1))), some (.inl v1)]) (M := mm V h) (args := [.inr (.inr (.inl 49)), .inl v1]) (rest := [.inl (w32 (v1 - 1)), .inr (.inr (.inl 32))]) (y2 := 21) rfl rfl rfl (Or.inr (Or.inl rfl)) rfl rfl (Nat.le_of_ble_eq_true rfl) rfl rfl (Nat.le_of_ble_eq_true rfl) (Nat.le_of_ble_eq_true rfl) (w_at rfl rfl) ?_
    rintro _ _ ⟨rfl, rfl⟩
    obtain ⟨q4, e4, hf⟩ := obind hf
    refine ok_callA (L := [some (.inr (.inr (.inl 1))), some (.inl v1)]) (M := mm V h) (args := [.inr (.inr (.inl 32)), .inl (w32 (v1 - 1)), .inl (atV V 48 36 v1)]) (rest := []) (y2 := 136) rfl rfl rfl (Or.inl rfl) rfl rfl (Nat.le_of_ble_eq_true rfl) rfl rfl (Nat.le_of_ble_eq_true rfl) (Nat.le_of_ble_eq_true rfl) (s_Cooling_meanAt e4) ?_
    rintro _ _ ⟨rfl, rfl⟩
    refine ok_ic_ge (x := q4.2) (u := q4.1 15 4) (L := [some (.inr (.inr (.inl 1))), some (.inl v1)]) (S := []) (M := mm q4.1 h) rfl rfl (fun c5 => ?_) (fun c5 => ?_)
    ·
      replace hf := (if_neg (Int.not_lt.mpr c5)).symm.trans hf
      exact s_Br_isColdJoint_6 hf
    ·
      replace hf := (if_pos c5).symm.trans hf
      refine ok_goto (L := [some (.inr (.inr (.inl 1))), some (.inl v1)]) (S := [.inl 1]) (M := mm q4.1 h) rfl rfl ?_
      obtain rfl := Option.some.inj hf
      have hz : (1 : Int) = 0 ∨ (1 : Int) = 1 := by
        first | exact Or.inl rfl | exact Or.inr rfl | assumption | (repeat' split) <;> first | exact Or.inl rfl | exact Or.inr rfl | assumption
      refine ok_zreturn (L := [some (.inr (.inr (.inl 1))), some (.inl v1)]) (M := mm q4.1 h) (x := 1) rfl rfl hz ?_
      exact ⟨rfl, rfl, hz⟩
def f_Rolling_missed (V : VV) (v1 : Int) (v2 : Int) : Int := w32 ((atV V 54 3 v2) - (atV V 56 108 (w32 ((w32 (v1 * 3)) + v2))))
set_option maxRecDepth 20000 in
set_option maxHeartbeats 4000000 in
theorem s_Rolling_missed {X : Xs} {d : Nat} {V : VV} {h : HP} {v1 : Int} {v2 : Int} {q : Int} (hf : f_Rolling_missed V v1 v2 = q) : Ok X (d + 2) 140 0 ([some (.inr (.inr (.inl 50))), some (.inl v1), some (.inl v2)], [], mm V h) (fun M r => M = mm V h ∧ r = some (.inl q)) := by
  let QQ : Mm → Option AV → Prop := fun M r => M = mm V h ∧ r = some (.inl q)
  show Ok X (d + 2) 140 0 ([some (.inr (.inr (.inl 50))), some (.inl v1), some (.inl v2)], [], mm V h) QQ
  refine ok_callA (L := [some (.inr (.inr (.inl 50))), some (.inl v1), some (.inl v2)]) (M := mm V h) (args := [.inr (.inr (.inl 55)), .inl v2]) (rest := []) (y2 := 21) rfl rfl rfl (Or.inr (Or.inl rfl)) rfl rfl (Nat.le_of_ble_eq_true rfl) rfl rfl (Nat.le_of_ble_eq_true rfl) (Nat.le_of_ble_eq_true rfl) (w_at rfl rfl) ?_
  rintro _ _ ⟨rfl, rfl⟩
  refine ok_callA (L := [some (.inr (.inr (.inl 50))), some (.inl v1), some (.inl v2)]) (M := mm V h) (args := [.inr (.inr (.inl 57)), .inl (w32 ((w32 (v1 * 3)) + v2))]) (rest := [.inl (atV V 54 3 v2)]) (y2 := 21) rfl rfl rfl (Or.inr (Or.inl rfl)) rfl rfl (Nat.le_of_ble_eq_true rfl) rfl rfl (Nat.le_of_ble_eq_true rfl) (Nat.le_of_ble_eq_true rfl) (w_at rfl rfl) ?_
  rintro _ _ ⟨rfl, rfl⟩
  have hq : (w32 ((atV V 54 3 v2) - (atV V 56 108 (w32 ((w32 (v1 * 3)) + v2))))) = q := hf
  subst hq
  refine ok_ireturn (L := [some (.inr (.inr (.inl 50))), some (.inl v1), some (.inl v2)]) (M := mm V h) (x := w32 ((atV V 54 3 v2) - (atV V 56 108 (w32 ((w32 (v1 * 3)) + v2))))) rfl rfl ?_
  exact ⟨rfl, rfl⟩
def f_Rolling_missedOn_1 : Nat → VV → Int → Int → Int → (Option (Int))
  | 0, _, _, _, _ => none
  | n + 1, V, v1, v2, v3 => if v3 < 3 then f_Rolling_missedOn_1 n V v1 (w32 (v2 + (f_Rolling_missed V v1 v3))) (w32 (v3 + 1)) else some v2
set_option maxRecDepth 20000 in
set_option maxHeartbeats 4000000 in
theorem s_Rolling_missedOn_1_n {X : Xs} {d : Nat} {V : VV} {h : HP} {q : Int} : ∀ (n : Nat) (v1 : Int) (v2 : Int) (v3 : Int), f_Rolling_missedOn_1 n V v1 v2 v3 = some q → Ok X (d + 3) 139 1 ([some (.inr (.inr (.inl 50))), some (.inl v1), some (.inl v2), some (.inl v3)], [], mm V h) (fun M r => M = mm V h ∧ r = some (.inl q)) := by
  intro n
  induction n with
  | zero => intro v1 v2 v3 hf; cases hf
  | succ n ih =>
    intro v1 v2 v3 hf
    let QQ : Mm → Option AV → Prop := fun M r => M = mm V h ∧ r = some (.inl q)
    show Ok X (d + 3) 139 1 ([some (.inr (.inr (.inl 50))), some (.inl v1), some (.inl v2), some (.inl v3)], [], mm V h) QQ
    refine ok_ic_ge (x := v3) (u := 3) (L := [some (.inr (.inr (.inl 50))), some (.inl v1), some (.inl v2), some (.inl v3)]) (S := []) (M := mm V h) rfl rfl (fun c1 => ?_) (fun c1 => ?_)
    ·
      replace hf := (if_neg (Int.not_lt.mpr c1)).symm.trans hf
      obtain rfl := Option.some.inj hf
      refine ok_ireturn (L := [some (.inr (.inr (.inl 50))), some (.inl v1), some (.inl v2), some (.inl v3)]) (M := mm V h) (x := v2) rfl rfl ?_
      exact ⟨rfl, rfl⟩
    ·
      replace hf := (if_pos c1).symm.trans hf
      refine ok_callA (L := [some (.inr (.inr (.inl 50))), some (.inl v1), some (.inl v2), some (.inl v3)]) (M := mm V h) (args := [.inr (.inr (.inl 50)), .inl v1, .inl v3]) (rest := [.inl v2]) (y2 := 140) rfl rfl rfl (Or.inl rfl) rfl rfl (Nat.le_of_ble_eq_true rfl) rfl rfl (Nat.le_of_ble_eq_true rfl) (Nat.le_of_ble_eq_true rfl) (s_Rolling_missed rfl) ?_
      rintro _ _ ⟨rfl, rfl⟩
      refine ok_goto (L := [some (.inr (.inr (.inl 50))), some (.inl v1), some (.inl (w32 (v2 + (f_Rolling_missed V v1 v3)))), some (.inl (w32 (v3 + 1)))]) (S := []) (M := mm V h) rfl rfl ?_
      exact ih v1 (w32 (v2 + (f_Rolling_missed V v1 v3))) (w32 (v3 + 1)) hf
theorem s_Rolling_missedOn_1 {X : Xs} {d : Nat} {V : VV} {h : HP} {v1 : Int} {v2 : Int} {v3 : Int} {n : Nat} {q : Int} (hf : f_Rolling_missedOn_1 n V v1 v2 v3 = some q) : Ok X (d + 3) 139 1 ([some (.inr (.inr (.inl 50))), some (.inl v1), some (.inl v2), some (.inl v3)], [], mm V h) (fun M r => M = mm V h ∧ r = some (.inl q)) :=
  s_Rolling_missedOn_1_n n v1 v2 v3 hf
def f_Rolling_missedOn (V : VV) (v1 : Int) : Option (Int) := f_Rolling_missedOn_1 FU V v1 0 0
set_option maxRecDepth 20000 in
set_option maxHeartbeats 4000000 in
theorem s_Rolling_missedOn {X : Xs} {d : Nat} {V : VV} {h : HP} {v1 : Int} {q : Int} (hf : f_Rolling_missedOn V v1 = some q) : Ok X (d + 3) 139 0 ([some (.inr (.inr (.inl 50))), some (.inl v1), none, none], [], mm V h) (fun M r => M = mm V h ∧ r = some (.inl q)) := by
  let QQ : Mm → Option AV → Prop := fun M r => M = mm V h ∧ r = some (.inl q)
  show Ok X (d + 3) 139 0 ([some (.inr (.inr (.inl 50))), some (.inl v1), none, none], [], mm V h) QQ
  refine ok_thru (L := [some (.inr (.inr (.inl 50))), some (.inl v1), some (.inl 0), some (.inl 0)]) (S := []) (M := mm V h) rfl rfl ?_
  exact s_Rolling_missedOn_1 hf
def f_Br_denseOf (V : VV) (v1 : Int) : Option (VV × Int) := Option.bind (f_Rolling_missedOn V v1) (fun q1 => Option.bind (f_Br_isColdJoint V v1) (fun q2 => some (q2.1, max 0 (w32 (100 - (w32 ((w32 (4 * q1)) + (if q2.2 = 0 then 0 else 6 : Int))))))))
set_option maxRecDepth 20000 in
set_option maxHeartbeats 4000000 in
theorem s_Br_denseOf {X : Xs} {d : Nat} {V : VV} {h : HP} {v1 : Int} {q : VV × Int} (hf : f_Br_denseOf V v1 = some q) : Ok X (d + 6) 138 0 ([some (.inr (.inr (.inl 1))), some (.inl v1), none], [], mm V h) (fun M r => M = mm q.1 h ∧ r = some (.inl q.2)) := by
  let QQ : Mm → Option AV → Prop := fun M r => M = mm q.1 h ∧ r = some (.inl q.2)
  show Ok X (d + 6) 138 0 ([some (.inr (.inr (.inl 1))), some (.inl v1), none], [], mm V h) QQ
  obtain ⟨q1, e1, hf⟩ := obind hf
  refine ok_callA (L := [some (.inr (.inr (.inl 1))), some (.inl v1), none]) (M := mm V h) (args := [.inr (.inr (.inl 50)), .inl v1]) (rest := [.inl 4]) (y2 := 139) rfl rfl rfl (Or.inl rfl) rfl rfl (Nat.le_of_ble_eq_true rfl) rfl rfl (Nat.le_of_ble_eq_true rfl) (Nat.le_of_ble_eq_true rfl) (s_Rolling_missedOn e1) ?_
  rintro _ _ ⟨rfl, rfl⟩
  obtain ⟨q2, e2, hf⟩ := obind hf
  refine ok_callA (L := [some (.inr (.inr (.inl 1))), some (.inl v1), none]) (M := mm V h) (args := [.inr (.inr (.inl 1)), .inl v1]) (rest := [.inl (w32 (4 * q1))]) (y2 := 137) rfl rfl rfl (Or.inl rfl) rfl rfl (Nat.le_of_ble_eq_true rfl) rfl rfl (Nat.le_of_ble_eq_true rfl) (Nat.le_of_ble_eq_true rfl) (s_Br_isColdJoint e2) ?_
  rintro _ _ ⟨rfl, rfl, hz2⟩
  have JN3 : Ok X (d + 6) 138 5 ([some (.inr (.inr (.inl 1))), some (.inl v1), none], [.inl (if q2.2 = 0 then 0 else 6 : Int), .inl (w32 (4 * q1))], mm q2.1 h) QQ := by
    refine ok_mmax (u := 0) (v := w32 (100 - (w32 ((w32 (4 * q1)) + (if q2.2 = 0 then 0 else 6 : Int))))) (L := [some (.inr (.inr (.inl 1))), some (.inl v1), some (.inl (w32 ((w32 (4 * q1)) + (if q2.2 = 0 then 0 else 6 : Int))))]) (S := []) (M := mm q2.1 h) rfl rfl rfl (Nat.le_of_ble_eq_true rfl) ?_
    obtain rfl := Option.some.inj hf
    refine ok_ireturn (L := [some (.inr (.inr (.inl 1))), some (.inl v1), some (.inl (w32 ((w32 (4 * q1)) + (if q2.2 = 0 then 0 else 6 : Int))))]) (M := mm q2.1 h) (x := max 0 (w32 (100 - (w32 ((w32 (4 * q1)) + (if q2.2 = 0 then 0 else 6 : Int)))))) rfl rfl ?_
    exact ⟨rfl, rfl⟩
  clear hf
  refine ok_if_eq (x := q2.2) (L := [some (.inr (.inr (.inl 1))), some (.inl v1), none]) (S := [.inl (w32 (4 * q1))]) (M := mm q2.1 h) rfl rfl (fun c4 => ?_) (fun c4 => ?_)
  ·
    simp only [if_pos c4] at JN3
    refine ok_thru (L := [some (.inr (.inr (.inl 1))), some (.inl v1), none]) (S := [.inl 0, .inl (w32 (4 * q1))]) (M := mm q2.1 h) rfl rfl ?_
    first | exact JN3 | (simp only [if_pos c4]; exact JN3)
  ·
    simp only [if_neg c4] at JN3
    refine ok_goto (L := [some (.inr (.inr (.inl 1))), some (.inl v1), none]) (S := [.inl 6, .inl (w32 (4 * q1))]) (M := mm q2.1 h) rfl rfl ?_
    first | exact JN3 | (simp only [if_neg c4]; exact JN3)
def f_Br_laid (V : VV) (h : HP) (v1 : Int) (v2 : Int) (v3 : Int) (v4 : Int) : Option ((VV × HP) × Int) := if (isFromV v4 0 8) = 0 then some ((V, h), (-1)) else Option.bind (f_Br_isPaved V h v1 v2) (fun q3 => if q3.2 = 0 then some ((q3.1.1, (q3.1.2)), (-1)) else if (isFromV v3 0 (w32 ((f_Road_jobs q3.1.1) - 1))) = 0 then some ((q3.1.1, (q3.1.2)), (-1)) else Option.bind (f_Rolling_roll q3.1.1 (q3.1.1 46 2)) (fun q8 => if v4 = 0 then some ((q8, (q3.1.2)), atV q8 48 36 v3) else if v4 = 1 then some ((q8, (q3.1.2)), atV q8 32 36 v3) else if v4 = 2 then some ((q8, (q3.1.2)), atV q8 33 36 v3) else if v4 = 3 then Option.bind (f_Br_isColdJoint q8 v3) (fun q16 => some ((q16.1, (q3.1.2)), (if q16.2 = 0 then 0 else 1 : Int))) else if v4 = 4 then some ((q8, (q3.1.2)), f_Rolling_missed q8 v3 (w32 (v4 - 4))) else if v4 = 5 then some ((q8, (q3.1.2)), f_Rolling_missed q8 v3 (w32 (v4 - 4))) else if v4 = 6 then some ((q8, (q3.1.2)), f_Rolling_missed q8 v3 (w32 (v4 - 4))) else if v4 = 7 then some ((q8, (q3.1.2)), atV q8 57 36 v3) else if v4 = 8 then Option.bind (f_Br_denseOf q8 v3) (fun q28 => some ((q28.1, (q3.1.2)), q28.2)) else some ((q8, (q3.1.2)), f_Rolling_missed q8 v3 (w32 (v4 - 4)))))
set_option maxRecDepth 20000 in
set_option maxHeartbeats 4000000 in
theorem s_Br_laid {X : Xs} {d : Nat} {V : VV} {h : HP} {v1 : Int} {v2 : Int} {v3 : Int} {v4 : Int} {q : (VV × HP) × Int} (hh : HOK h) (hf : f_Br_laid V h v1 v2 v3 v4 = some q) : Ok X (d + 9) 132 0 ([some (.inr (.inr (.inl 1))), some (.inl v1), some (.inl v2), some (.inl v3), some (.inl v4)], [], mm V h) (fun M r => M = mm q.1.1 q.1.2 ∧ HOK q.1.2 ∧ r = some (.inl q.2)) := by
  let QQ : Mm → Option AV → Prop := fun M r => M = mm q.1.1 q.1.2 ∧ HOK q.1.2 ∧ r = some (.inl q.2)
  show Ok X (d + 9) 132 0 ([some (.inr (.inr (.inl 1))), some (.inl v1), some (.inl v2), some (.inl v3), some (.inl v4)], [], mm V h) QQ
  refine ok_callA (L := [some (.inr (.inr (.inl 1))), some (.inl v1), some (.inl v2), some (.inl v3), some (.inl v4)]) (M := mm V h) (args := [.inl v4, .inl 0, .inl 8]) (rest := []) (y2 := 16) rfl rfl rfl (Or.inr (Or.inl rfl)) rfl rfl (Nat.le_of_ble_eq_true rfl) rfl rfl (Nat.le_of_ble_eq_true rfl) (Nat.le_of_ble_eq_true rfl) (w_isFrom rfl) ?_
  rintro _ _ ⟨rfl, rfl, hz1⟩
  refine ok_if_eq (x := isFromV v4 0 8) (L := [some (.inr (.inr (.inl 1))), some (.inl v1), some (.inl v2), some (.inl v3), some (.inl v4)]) (S := []) (M := mm V h) rfl rfl (fun c2 => ?_) (fun c2 => ?_)
  ·
    replace hf := (if_pos c2).symm.trans hf
    obtain rfl := Option.some.inj hf
    refine ok_ireturn (L := [some (.inr (.inr (.inl 1))), some (.inl v1), some (.inl v2), some (.inl v3), some (.inl v4)]) (M := mm V h) (x := (-1)) rfl rfl ?_
    exact ⟨rfl, hh, rfl⟩
  ·
    replace hf := (if_neg c2).symm.trans hf
    obtain ⟨q3, e3, hf⟩ := obind hf
    refine ok_callA (L := [some (.inr (.inr (.inl 1))), some (.inl v1), some (.inl v2), some (.inl v3), some (.inl v4)]) (M := mm V h) (args := [.inr (.inr (.inl 1)), .inl v1, .inl v2]) (rest := []) (y2 := 93) rfl rfl rfl (Or.inl rfl) rfl rfl (Nat.le_of_ble_eq_true rfl) rfl rfl (Nat.le_of_ble_eq_true rfl) (Nat.le_of_ble_eq_true rfl) (s_Br_isPaved hh e3) ?_
    rintro _ _ ⟨rfl, hh, rfl, hz3⟩
    refine ok_if_eq (x := q3.2) (L := [some (.inr (.inr (.inl 1))), some (.inl v1), some (.inl v2), some (.inl v3), some (.inl v4)]) (S := []) (M := mm q3.1.1 (q3.1.2)) rfl rfl (fun c4 => ?_) (fun c4 => ?_)
    ·
      replace hf := (if_pos c4).symm.trans hf
      obtain rfl := Option.some.inj hf
      refine ok_ireturn (L := [some (.inr (.inr (.inl 1))), some (.inl v1), some (.inl v2), some (.inl v3), some (.inl v4)]) (M := mm q3.1.1 (q3.1.2)) (x := (-1)) rfl rfl ?_
      exact ⟨rfl, hh, rfl⟩
    ·
      replace hf := (if_neg c4).symm.trans hf
      refine ok_callA (L := [some (.inr (.inr (.inl 1))), some (.inl v1), some (.inl v2), some (.inl v3), some (.inl v4)]) (M := mm q3.1.1 (q3.1.2)) (args := [.inr (.inr (.inl 2))]) (rest := [.inl 0, .inl v3]) (y2 := 25) rfl rfl rfl (Or.inl rfl) rfl rfl (Nat.le_of_ble_eq_true rfl) rfl rfl (Nat.le_of_ble_eq_true rfl) (Nat.le_of_ble_eq_true rfl) (s_Road_jobs rfl) ?_
      rintro _ _ ⟨rfl, rfl⟩
      refine ok_callA (L := [some (.inr (.inr (.inl 1))), some (.inl v1), some (.inl v2), some (.inl v3), some (.inl v4)]) (M := mm q3.1.1 (q3.1.2)) (args := [.inl v3, .inl 0, .inl (w32 ((f_Road_jobs q3.1.1) - 1))]) (rest := []) (y2 := 16) rfl rfl rfl (Or.inr (Or.inl rfl)) rfl rfl (Nat.le_of_ble_eq_true rfl) rfl rfl (Nat.le_of_ble_eq_true rfl) (Nat.le_of_ble_eq_true rfl) (w_isFrom rfl) ?_
      rintro _ _ ⟨rfl, rfl, hz6⟩
      refine ok_if_ne (x := isFromV v3 0 (w32 ((f_Road_jobs q3.1.1) - 1))) (L := [some (.inr (.inr (.inl 1))), some (.inl v1), some (.inl v2), some (.inl v3), some (.inl v4)]) (S := []) (M := mm q3.1.1 (q3.1.2)) rfl rfl (fun c7 => ?_) (fun c7 => ?_)
      ·
        replace hf := (if_neg c7).symm.trans hf
        obtain ⟨q8, e8, hf⟩ := obind hf
        refine ok_callA (L := [some (.inr (.inr (.inl 1))), some (.inl v1), some (.inl v2), some (.inl v3), some (.inl v4)]) (M := mm q3.1.1 (q3.1.2)) (args := [.inr (.inr (.inl 50)), .inl (q3.1.1 46 2)]) (rest := []) (y2 := 133) rfl rfl rfl (Or.inl rfl) rfl rfl (Nat.le_of_ble_eq_true rfl) rfl rfl (Nat.le_of_ble_eq_true rfl) (Nat.le_of_ble_eq_true rfl) (s_Rolling_roll e8) ?_
        rintro _ _ ⟨rfl, rfl⟩
        by_cases c9 : v4 = 0
        ·
          replace hf := (if_pos c9).symm.trans hf
          refine ok_sw (x := v4) (b1 := 10) (L := [some (.inr (.inr (.inl 1))), some (.inl v1), some (.inl v2), some (.inl v3), some (.inl v4)]) (S := []) (M := mm q8 (q3.1.2)) rfl rfl (by rw [c9]; rfl) ?_
          refine ok_callA (L := [some (.inr (.inr (.inl 1))), some (.inl v1), some (.inl v2), some (.inl v3), some (.inl v4)]) (M := mm q8 (q3.1.2)) (args := [.inr (.inr (.inl 49)), .inl v3]) (rest := []) (y2 := 21) rfl rfl rfl (Or.inr (Or.inl rfl)) rfl rfl (Nat.le_of_ble_eq_true rfl) rfl rfl (Nat.le_of_ble_eq_true rfl) (Nat.le_of_ble_eq_true rfl) (w_at rfl rfl) ?_
          rintro _ _ ⟨rfl, rfl⟩
          obtain rfl := Option.some.inj hf
          refine ok_ireturn (L := [some (.inr (.inr (.inl 1))), some (.inl v1), some (.inl v2), some (.inl v3), some (.inl v4)]) (M := mm q8 (q3.1.2)) (x := atV q8 48 36 v3) rfl rfl ?_
          exact ⟨rfl, hh, rfl⟩
        replace hf := (if_neg c9).symm.trans hf
        by_cases c11 : v4 = 1
        ·
          replace hf := (if_pos c11).symm.trans hf
          refine ok_sw (x := v4) (b1 := 12) (L := [some (.inr (.inr (.inl 1))), some (.inl v1), some (.inl v2), some (.inl v3), some (.inl v4)]) (S := []) (M := mm q8 (q3.1.2)) rfl rfl (by rw [c11]; rfl) ?_
          refine ok_callA (L := [some (.inr (.inr (.inl 1))), some (.inl v1), some (.inl v2), some (.inl v3), some (.inl v4)]) (M := mm q8 (q3.1.2)) (args := [.inr (.inr (.inl 33)), .inl v3]) (rest := []) (y2 := 21) rfl rfl rfl (Or.inr (Or.inl rfl)) rfl rfl (Nat.le_of_ble_eq_true rfl) rfl rfl (Nat.le_of_ble_eq_true rfl) (Nat.le_of_ble_eq_true rfl) (w_at rfl rfl) ?_
          rintro _ _ ⟨rfl, rfl⟩
          obtain rfl := Option.some.inj hf
          refine ok_ireturn (L := [some (.inr (.inr (.inl 1))), some (.inl v1), some (.inl v2), some (.inl v3), some (.inl v4)]) (M := mm q8 (q3.1.2)) (x := atV q8 32 36 v3) rfl rfl ?_
          exact ⟨rfl, hh, rfl⟩
        replace hf := (if_neg c11).symm.trans hf
        by_cases c13 : v4 = 2
        ·
          replace hf := (if_pos c13).symm.trans hf
          refine ok_sw (x := v4) (b1 := 14) (L := [some (.inr (.inr (.inl 1))), some (.inl v1), some (.inl v2), some (.inl v3), some (.inl v4)]) (S := []) (M := mm q8 (q3.1.2)) rfl rfl (by rw [c13]; rfl) ?_
          refine ok_callA (L := [some (.inr (.inr (.inl 1))), some (.inl v1), some (.inl v2), some (.inl v3), some (.inl v4)]) (M := mm q8 (q3.1.2)) (args := [.inr (.inr (.inl 34)), .inl v3]) (rest := []) (y2 := 21) rfl rfl rfl (Or.inr (Or.inl rfl)) rfl rfl (Nat.le_of_ble_eq_true rfl) rfl rfl (Nat.le_of_ble_eq_true rfl) (Nat.le_of_ble_eq_true rfl) (w_at rfl rfl) ?_
          rintro _ _ ⟨rfl, rfl⟩
          obtain rfl := Option.some.inj hf
          refine ok_ireturn (L := [some (.inr (.inr (.inl 1))), some (.inl v1), some (.inl v2), some (.inl v3), some (.inl v4)]) (M := mm q8 (q3.1.2)) (x := atV q8 33 36 v3) rfl rfl ?_
          exact ⟨rfl, hh, rfl⟩
        replace hf := (if_neg c13).symm.trans hf
        by_cases c15 : v4 = 3
        ·
          replace hf := (if_pos c15).symm.trans hf
          refine ok_sw (x := v4) (b1 := 16) (L := [some (.inr (.inr (.inl 1))), some (.inl v1), some (.inl v2), some (.inl v3), some (.inl v4)]) (S := []) (M := mm q8 (q3.1.2)) rfl rfl (by rw [c15]; rfl) ?_
          obtain ⟨q16, e16, hf⟩ := obind hf
          refine ok_callA (L := [some (.inr (.inr (.inl 1))), some (.inl v1), some (.inl v2), some (.inl v3), some (.inl v4)]) (M := mm q8 (q3.1.2)) (args := [.inr (.inr (.inl 1)), .inl v3]) (rest := []) (y2 := 137) rfl rfl rfl (Or.inl rfl) rfl rfl (Nat.le_of_ble_eq_true rfl) rfl rfl (Nat.le_of_ble_eq_true rfl) (Nat.le_of_ble_eq_true rfl) (s_Br_isColdJoint e16) ?_
          rintro _ _ ⟨rfl, rfl, hz16⟩
          have JN17 : Ok X (d + 9) 132 20 ([some (.inr (.inr (.inl 1))), some (.inl v1), some (.inl v2), some (.inl v3), some (.inl v4)], [.inl (if q16.2 = 0 then 0 else 1 : Int)], mm q16.1 (q3.1.2)) QQ := by
            obtain rfl := Option.some.inj hf
            refine ok_ireturn (L := [some (.inr (.inr (.inl 1))), some (.inl v1), some (.inl v2), some (.inl v3), some (.inl v4)]) (M := mm q16.1 (q3.1.2)) (x := (if q16.2 = 0 then 0 else 1 : Int)) rfl rfl ?_
            exact ⟨rfl, hh, rfl⟩
          clear hf
          refine ok_if_eq (x := q16.2) (L := [some (.inr (.inr (.inl 1))), some (.inl v1), some (.inl v2), some (.inl v3), some (.inl v4)]) (S := []) (M := mm q16.1 (q3.1.2)) rfl rfl (fun c18 => ?_) (fun c18 => ?_)
          ·
            simp only [if_pos c18] at JN17
            refine ok_thru (L := [some (.inr (.inr (.inl 1))), some (.inl v1), some (.inl v2), some (.inl v3), some (.inl v4)]) (S := [.inl 0]) (M := mm q16.1 (q3.1.2)) rfl rfl ?_
            first | exact JN17 | (simp only [if_pos c18]; exact JN17)
          ·
            simp only [if_neg c18] at JN17
            refine ok_goto (L := [some (.inr (.inr (.inl 1))), some (.inl v1), some (.inl v2), some (.inl v3), some (.inl v4)]) (S := [.inl 1]) (M := mm q16.1 (q3.1.2)) rfl rfl ?_
            first | exact JN17 | (simp only [if_neg c18]; exact JN17)
        replace hf := (if_neg c15).symm.trans hf
        by_cases c19 : v4 = 4
        ·
          replace hf := (if_pos c19).symm.trans hf
          refine ok_sw (x := v4) (b1 := 25) (L := [some (.inr (.inr (.inl 1))), some (.inl v1), some (.inl v2), some (.inl v3), some (.inl v4)]) (S := []) (M := mm q8 (q3.1.2)) rfl rfl (by rw [c19]; rfl) ?_
          refine ok_callA (L := [some (.inr (.inr (.inl 1))), some (.inl v1), some (.inl v2), some (.inl v3), some (.inl v4)]) (M := mm q8 (q3.1.2)) (args := [.inr (.inr (.inl 50)), .inl v3, .inl (w32 (v4 - 4))]) (rest := []) (y2 := 140) rfl rfl rfl (Or.inl rfl) rfl rfl (Nat.le_of_ble_eq_true rfl) rfl rfl (Nat.le_of_ble_eq_true rfl) (Nat.le_of_ble_eq_true rfl) (s_Rolling_missed rfl) ?_
          rintro _ _ ⟨rfl, rfl⟩
          obtain rfl := Option.some.inj hf
          refine ok_ireturn (L := [some (.inr (.inr (.inl 1))), some (.inl v1), some (.inl v2), some (.inl v3), some (.inl v4)]) (M := mm q8 (q3.1.2)) (x := f_Rolling_missed q8 v3 (w32 (v4 - 4))) rfl rfl ?_
          exact ⟨rfl, hh, rfl⟩
        replace hf := (if_neg c19).symm.trans hf
        by_cases c21 : v4 = 5
        ·
          replace hf := (if_pos c21).symm.trans hf
          refine ok_sw (x := v4) (b1 := 25) (L := [some (.inr (.inr (.inl 1))), some (.inl v1), some (.inl v2), some (.inl v3), some (.inl v4)]) (S := []) (M := mm q8 (q3.1.2)) rfl rfl (by rw [c21]; rfl) ?_
          refine ok_callA (L := [some (.inr (.inr (.inl 1))), some (.inl v1), some (.inl v2), some (.inl v3), some (.inl v4)]) (M := mm q8 (q3.1.2)) (args := [.inr (.inr (.inl 50)), .inl v3, .inl (w32 (v4 - 4))]) (rest := []) (y2 := 140) rfl rfl rfl (Or.inl rfl) rfl rfl (Nat.le_of_ble_eq_true rfl) rfl rfl (Nat.le_of_ble_eq_true rfl) (Nat.le_of_ble_eq_true rfl) (s_Rolling_missed rfl) ?_
          rintro _ _ ⟨rfl, rfl⟩
          obtain rfl := Option.some.inj hf
          refine ok_ireturn (L := [some (.inr (.inr (.inl 1))), some (.inl v1), some (.inl v2), some (.inl v3), some (.inl v4)]) (M := mm q8 (q3.1.2)) (x := f_Rolling_missed q8 v3 (w32 (v4 - 4))) rfl rfl ?_
          exact ⟨rfl, hh, rfl⟩
        replace hf := (if_neg c21).symm.trans hf
        by_cases c23 : v4 = 6
        ·
          replace hf := (if_pos c23).symm.trans hf
          refine ok_sw (x := v4) (b1 := 25) (L := [some (.inr (.inr (.inl 1))), some (.inl v1), some (.inl v2), some (.inl v3), some (.inl v4)]) (S := []) (M := mm q8 (q3.1.2)) rfl rfl (by rw [c23]; rfl) ?_
          refine ok_callA (L := [some (.inr (.inr (.inl 1))), some (.inl v1), some (.inl v2), some (.inl v3), some (.inl v4)]) (M := mm q8 (q3.1.2)) (args := [.inr (.inr (.inl 50)), .inl v3, .inl (w32 (v4 - 4))]) (rest := []) (y2 := 140) rfl rfl rfl (Or.inl rfl) rfl rfl (Nat.le_of_ble_eq_true rfl) rfl rfl (Nat.le_of_ble_eq_true rfl) (Nat.le_of_ble_eq_true rfl) (s_Rolling_missed rfl) ?_
          rintro _ _ ⟨rfl, rfl⟩
          obtain rfl := Option.some.inj hf
          refine ok_ireturn (L := [some (.inr (.inr (.inl 1))), some (.inl v1), some (.inl v2), some (.inl v3), some (.inl v4)]) (M := mm q8 (q3.1.2)) (x := f_Rolling_missed q8 v3 (w32 (v4 - 4))) rfl rfl ?_
          exact ⟨rfl, hh, rfl⟩
        replace hf := (if_neg c23).symm.trans hf
        by_cases c25 : v4 = 7
        ·
          replace hf := (if_pos c25).symm.trans hf
          refine ok_sw (x := v4) (b1 := 21) (L := [some (.inr (.inr (.inl 1))), some (.inl v1), some (.inl v2), some (.inl v3), some (.inl v4)]) (S := []) (M := mm q8 (q3.1.2)) rfl rfl (by rw [c25]; rfl) ?_
          refine ok_callA (L := [some (.inr (.inr (.inl 1))), some (.inl v1), some (.inl v2), some (.inl v3), some (.inl v4)]) (M := mm q8 (q3.1.2)) (args := [.inr (.inr (.inl 58)), .inl v3]) (rest := []) (y2 := 21) rfl rfl rfl (Or.inr (Or.inl rfl)) rfl rfl (Nat.le_of_ble_eq_true rfl) rfl rfl (Nat.le_of_ble_eq_true rfl) (Nat.le_of_ble_eq_true rfl) (w_at rfl rfl) ?_
          rintro _ _ ⟨rfl, rfl⟩
          obtain rfl := Option.some.inj hf
          refine ok_ireturn (L := [some (.inr (.inr (.inl 1))), some (.inl v1), some (.inl v2), some (.inl v3), some (.inl v4)]) (M := mm q8 (q3.1.2)) (x := atV q8 57 36 v3) rfl rfl ?_
          exact ⟨rfl, hh, rfl⟩
        replace hf := (if_neg c25).symm.trans hf
        by_cases c27 : v4 = 8
        ·
          replace hf := (if_pos c27).symm.trans hf
          refine ok_sw (x := v4) (b1 := 23) (L := [some (.inr (.inr (.inl 1))), some (.inl v1), some (.inl v2), some (.inl v3), some (.inl v4)]) (S := []) (M := mm q8 (q3.1.2)) rfl rfl (by rw [c27]; rfl) ?_
          obtain ⟨q28, e28, hf⟩ := obind hf
          refine ok_callA (L := [some (.inr (.inr (.inl 1))), some (.inl v1), some (.inl v2), some (.inl v3), some (.inl v4)]) (M := mm q8 (q3.1.2)) (args := [.inr (.inr (.inl 1)), .inl v3]) (rest := []) (y2 := 138) rfl rfl rfl (Or.inl rfl) rfl rfl (Nat.le_of_ble_eq_true rfl) rfl rfl (Nat.le_of_ble_eq_true rfl) (Nat.le_of_ble_eq_true rfl) (s_Br_denseOf e28) ?_
          rintro _ _ ⟨rfl, rfl⟩
          obtain rfl := Option.some.inj hf
          refine ok_ireturn (L := [some (.inr (.inr (.inl 1))), some (.inl v1), some (.inl v2), some (.inl v3), some (.inl v4)]) (M := mm q28.1 (q3.1.2)) (x := q28.2) rfl rfl ?_
          exact ⟨rfl, hh, rfl⟩
        replace hf := (if_neg c27).symm.trans hf
        refine ok_sw (x := v4) (b1 := 25) (L := [some (.inr (.inr (.inl 1))), some (.inl v1), some (.inl v2), some (.inl v3), some (.inl v4)]) (S := []) (M := mm q8 (q3.1.2)) rfl rfl (if_pos (by omega)) ?_
        refine ok_callA (L := [some (.inr (.inr (.inl 1))), some (.inl v1), some (.inl v2), some (.inl v3), some (.inl v4)]) (M := mm q8 (q3.1.2)) (args := [.inr (.inr (.inl 50)), .inl v3, .inl (w32 (v4 - 4))]) (rest := []) (y2 := 140) rfl rfl rfl (Or.inl rfl) rfl rfl (Nat.le_of_ble_eq_true rfl) rfl rfl (Nat.le_of_ble_eq_true rfl) (Nat.le_of_ble_eq_true rfl) (s_Rolling_missed rfl) ?_
        rintro _ _ ⟨rfl, rfl⟩
        obtain rfl := Option.some.inj hf
        refine ok_ireturn (L := [some (.inr (.inr (.inl 1))), some (.inl v1), some (.inl v2), some (.inl v3), some (.inl v4)]) (M := mm q8 (q3.1.2)) (x := f_Rolling_missed q8 v3 (w32 (v4 - 4))) rfl rfl ?_
        exact ⟨rfl, hh, rfl⟩
      ·
        replace hf := (if_pos c7).symm.trans hf
        obtain rfl := Option.some.inj hf
        refine ok_ireturn (L := [some (.inr (.inr (.inl 1))), some (.inl v1), some (.inl v2), some (.inl v3), some (.inl v4)]) (M := mm q3.1.1 (q3.1.2)) (x := (-1)) rfl rfl ?_
        exact ⟨rfl, hh, rfl⟩
def f_Br_mean (V : VV) (h : HP) (v1 : Int) (v2 : Int) (v3 : Int) (v4 : Int) : Option ((VV × HP) × Int) := if (isFromV v4 0 600) = 0 then some ((V, h), (-1000)) else Option.bind (f_Br_isPaved V h v1 v2) (fun q3 => if q3.2 = 0 then some ((q3.1.1, (q3.1.2)), (-1000)) else if (isFromV v3 0 (w32 ((f_Road_jobs q3.1.1) - 1))) = 0 then some ((q3.1.1, (q3.1.2)), (-1000)) else Option.bind (f_Cooling_meanBehind q3.1.1 v3 v4) (fun q8 => some ((q8.1, (q3.1.2)), q8.2)))
set_option maxRecDepth 20000 in
set_option maxHeartbeats 4000000 in
theorem s_Br_mean {X : Xs} {d : Nat} {V : VV} {h : HP} {v1 : Int} {v2 : Int} {v3 : Int} {v4 : Int} {q : (VV × HP) × Int} (hh : HOK h) (hf : f_Br_mean V h v1 v2 v3 v4 = some q) : Ok X (d + 9) 141 0 ([some (.inr (.inr (.inl 1))), some (.inl v1), some (.inl v2), some (.inl v3), some (.inl v4)], [], mm V h) (fun M r => M = mm q.1.1 q.1.2 ∧ HOK q.1.2 ∧ r = some (.inl q.2)) := by
  let QQ : Mm → Option AV → Prop := fun M r => M = mm q.1.1 q.1.2 ∧ HOK q.1.2 ∧ r = some (.inl q.2)
  show Ok X (d + 9) 141 0 ([some (.inr (.inr (.inl 1))), some (.inl v1), some (.inl v2), some (.inl v3), some (.inl v4)], [], mm V h) QQ
  refine ok_callA (L := [some (.inr (.inr (.inl 1))), some (.inl v1), some (.inl v2), some (.inl v3), some (.inl v4)]) (M := mm V h) (args := [.inl v4, .inl 0, .inl 600]) (rest := []) (y2 := 16) rfl rfl rfl (Or.inr (Or.inl rfl)) rfl rfl (Nat.le_of_ble_eq_true rfl) rfl rfl (Nat.le_of_ble_eq_true rfl) (Nat.le_of_ble_eq_true rfl) (w_isFrom rfl) ?_
  rintro _ _ ⟨rfl, rfl, hz1⟩
  refine ok_if_eq (x := isFromV v4 0 600) (L := [some (.inr (.inr (.inl 1))), some (.inl v1), some (.inl v2), some (.inl v3), some (.inl v4)]) (S := []) (M := mm V h) rfl rfl (fun c2 => ?_) (fun c2 => ?_)
  ·
    replace hf := (if_pos c2).symm.trans hf
    obtain rfl := Option.some.inj hf
    refine ok_ireturn (L := [some (.inr (.inr (.inl 1))), some (.inl v1), some (.inl v2), some (.inl v3), some (.inl v4)]) (M := mm V h) (x := (-1000)) rfl rfl ?_
    exact ⟨rfl, hh, rfl⟩
  ·
    replace hf := (if_neg c2).symm.trans hf
    obtain ⟨q3, e3, hf⟩ := obind hf
    refine ok_callA (L := [some (.inr (.inr (.inl 1))), some (.inl v1), some (.inl v2), some (.inl v3), some (.inl v4)]) (M := mm V h) (args := [.inr (.inr (.inl 1)), .inl v1, .inl v2]) (rest := []) (y2 := 93) rfl rfl rfl (Or.inl rfl) rfl rfl (Nat.le_of_ble_eq_true rfl) rfl rfl (Nat.le_of_ble_eq_true rfl) (Nat.le_of_ble_eq_true rfl) (s_Br_isPaved hh e3) ?_
    rintro _ _ ⟨rfl, hh, rfl, hz3⟩
    refine ok_if_eq (x := q3.2) (L := [some (.inr (.inr (.inl 1))), some (.inl v1), some (.inl v2), some (.inl v3), some (.inl v4)]) (S := []) (M := mm q3.1.1 (q3.1.2)) rfl rfl (fun c4 => ?_) (fun c4 => ?_)
    ·
      replace hf := (if_pos c4).symm.trans hf
      obtain rfl := Option.some.inj hf
      refine ok_ireturn (L := [some (.inr (.inr (.inl 1))), some (.inl v1), some (.inl v2), some (.inl v3), some (.inl v4)]) (M := mm q3.1.1 (q3.1.2)) (x := (-1000)) rfl rfl ?_
      exact ⟨rfl, hh, rfl⟩
    ·
      replace hf := (if_neg c4).symm.trans hf
      refine ok_callA (L := [some (.inr (.inr (.inl 1))), some (.inl v1), some (.inl v2), some (.inl v3), some (.inl v4)]) (M := mm q3.1.1 (q3.1.2)) (args := [.inr (.inr (.inl 2))]) (rest := [.inl 0, .inl v3]) (y2 := 25) rfl rfl rfl (Or.inl rfl) rfl rfl (Nat.le_of_ble_eq_true rfl) rfl rfl (Nat.le_of_ble_eq_true rfl) (Nat.le_of_ble_eq_true rfl) (s_Road_jobs rfl) ?_
      rintro _ _ ⟨rfl, rfl⟩
      refine ok_callA (L := [some (.inr (.inr (.inl 1))), some (.inl v1), some (.inl v2), some (.inl v3), some (.inl v4)]) (M := mm q3.1.1 (q3.1.2)) (args := [.inl v3, .inl 0, .inl (w32 ((f_Road_jobs q3.1.1) - 1))]) (rest := []) (y2 := 16) rfl rfl rfl (Or.inr (Or.inl rfl)) rfl rfl (Nat.le_of_ble_eq_true rfl) rfl rfl (Nat.le_of_ble_eq_true rfl) (Nat.le_of_ble_eq_true rfl) (w_isFrom rfl) ?_
      rintro _ _ ⟨rfl, rfl, hz6⟩
      refine ok_if_ne (x := isFromV v3 0 (w32 ((f_Road_jobs q3.1.1) - 1))) (L := [some (.inr (.inr (.inl 1))), some (.inl v1), some (.inl v2), some (.inl v3), some (.inl v4)]) (S := []) (M := mm q3.1.1 (q3.1.2)) rfl rfl (fun c7 => ?_) (fun c7 => ?_)
      ·
        replace hf := (if_neg c7).symm.trans hf
        obtain ⟨q8, e8, hf⟩ := obind hf
        refine ok_callA (L := [some (.inr (.inr (.inl 1))), some (.inl v1), some (.inl v2), some (.inl v3), some (.inl v4)]) (M := mm q3.1.1 (q3.1.2)) (args := [.inr (.inr (.inl 32)), .inl v3, .inl v4]) (rest := []) (y2 := 116) rfl rfl rfl (Or.inl rfl) rfl rfl (Nat.le_of_ble_eq_true rfl) rfl rfl (Nat.le_of_ble_eq_true rfl) (Nat.le_of_ble_eq_true rfl) (s_Cooling_meanBehind e8) ?_
        rintro _ _ ⟨rfl, rfl⟩
        obtain rfl := Option.some.inj hf
        refine ok_ireturn (L := [some (.inr (.inr (.inl 1))), some (.inl v1), some (.inl v2), some (.inl v3), some (.inl v4)]) (M := mm q8.1 (q3.1.2)) (x := q8.2) rfl rfl ?_
        exact ⟨rfl, hh, rfl⟩
      ·
        replace hf := (if_pos c7).symm.trans hf
        obtain rfl := Option.some.inj hf
        refine ok_ireturn (L := [some (.inr (.inr (.inl 1))), some (.inl v1), some (.inl v2), some (.inl v3), some (.inl v4)]) (M := mm q3.1.1 (q3.1.2)) (x := (-1000)) rfl rfl ?_
        exact ⟨rfl, hh, rfl⟩
