/-! the recursion of the rate (printed by wip/tools/gen21.py) -/
def f_Rate_one_39 (o : Nat) (ob : Nat) (on : Nat) (kS kO : VV → Int → Option (VV × Int)) (V : VV) (v5 : Int) : Option (VV × Int) := Option.bind (f_Tape_passSign o ob on V 41) (fun q1 => some (q1, v5))
def f_Rate_one_24 (o : Nat) (ob : Nat) (on : Nat) (kS kO : VV → Int → Option (VV × Int)) (V : VV) (v2 : Int) (v3 : Int) (v4 : Int) : Option (VV × Int) := Option.bind (f_Rate_opens o ob on V 40 v2) (fun q1 => if q1.2 = 0 then some (q1.1, 0) else Option.bind (kS q1.1 (w32 (v2 + 1))) (fun q3 => if v4 = 0 then f_Rate_one_39 o ob on kS kO q3.1 q3.2 else Option.bind (f_Tape_passSign o ob on q3.1 44) (fun q5 => if (f_Tape_isSound o ob on q5) = 0 then some (q5, 0) else Option.bind (kS q5 (w32 (v2 + 1))) (fun q8 => f_Rate_one_39 o ob on kS kO q8.1 (if v3 = 0 then max q3.2 q8.2 else min q3.2 q8.2 : Int)))))
def f_Rate_one_22 (o : Nat) (ob : Nat) (on : Nat) (kS kO : VV → Int → Option (VV × Int)) (V : VV) (v2 : Int) (v3 : Int) (v4 : Int) : Option (VV × Int) := if v4 = 0 then f_Rate_one_24 o ob on kS kO V v2 v3 v4 else Option.bind (f_Tape_next o ob on V) (fun q2 => f_Rate_one_24 o ob on kS kO q2 v2 v3 v4)
def f_Rate_one_17 (o : Nat) (ob : Nat) (on : Nat) (kS kO : VV → Int → Option (VV × Int)) (V : VV) (v2 : Int) (v3 : Int) (t0 : Int) : Option (VV × Int) := if t0 = 0 then if (f_Tape_isSign o ob on V 40) = 0 then Option.bind (f_Rate_letter o ob on V) (fun q4 => some (q4.1, q4.2)) else f_Rate_one_22 o ob on kS kO V v2 v3 t0 else f_Rate_one_22 o ob on kS kO V v2 v3 t0
def f_Rate_one_15 (o : Nat) (ob : Nat) (on : Nat) (kS kO : VV → Int → Option (VV × Int)) (V : VV) (v2 : Int) (v3 : Int) : Option (VV × Int) := f_Rate_one_17 o ob on kS kO V v2 v3 1
def f_Rate_one (o : Nat) (ob : Nat) (on : Nat) (kS kO : VV → Int → Option (VV × Int)) (V : VV) (v2 : Int) : Option (VV × Int) := if (V o 2) = 2 then Option.bind (f_Tape_passNumber o ob on V 0 9999) (fun q11 => some (q11.1, q11.2)) else if (f_Tape_isSign o ob on V 45) = 0 then Option.bind (f_Tape_isWord o ob on 7 V) (fun q4 => if q4 = 0 then Option.bind (f_Tape_isWord o ob on 8 V) (fun q6 => if q6 = 0 then f_Rate_one_17 o ob on kS kO V v2 q4 0 else f_Rate_one_15 o ob on kS kO V v2 q4) else f_Rate_one_15 o ob on kS kO V v2 q4) else Option.bind (f_Rate_opens o ob on V 45 v2) (fun q8 => if q8.2 = 0 then some (q8.1, 0) else Option.bind (kO q8.1 (w32 (v2 + 1))) (fun q10 => some (q10.1, w64 (-q10.2))))
set_option maxRecDepth 20000 in
set_option maxHeartbeats 4000000 in
theorem s_Rate_one_39_o16 {X : Xs} {d : Nat} {kS kO : VV → Int → Option (VV × Int)} (KS : ∀ {V : VV} {h : HP} {v : Int} {q : VV × Int}, kS V v = some q → Ok X (d + 7) 80 0 ([some (.inr (.inr (.inl 26))), some (.inr (.inr (.inl 17))), some (.inl v), none, none, none], [], mm V h) (fun M r => M = mm q.1 h ∧ r = some (.inr (.inl q.2)))) (KO : ∀ {V : VV} {h : HP} {v : Int} {q : VV × Int}, kO V v = some q → Ok X (d + 7) 82 0 ([some (.inr (.inr (.inl 26))), some (.inr (.inr (.inl 17))), some (.inl v), none, none, none, none, none, none], [], mm V h) (fun M r => M = mm q.1 h ∧ r = some (.inr (.inl q.2)))) {V : VV} {h : HP} {v5 : Int} {w2 : Int} {w3 : Int} {w4 : Int} {z7 : Option AV} {z8 : Option AV} {q : VV × Int} (hf : f_Rate_one_39 16 17 400 kS kO V v5 = some q) : Ok X (d + 8) 82 39 ([some (.inr (.inr (.inl 26))), some (.inr (.inr (.inl 17))), some (.inl w2), some (.inl w3), some (.inl w4), some (.inr (.inl v5)), none, z7, z8], [], mm V h) (fun M r => M = mm q.1 h ∧ r = some (.inr (.inl q.2))) := by
  let QQ : Mm → Option AV → Prop := fun M r => M = mm q.1 h ∧ r = some (.inr (.inl q.2))
  show Ok X (d + 8) 82 39 ([some (.inr (.inr (.inl 26))), some (.inr (.inr (.inl 17))), some (.inl w2), some (.inl w3), some (.inl w4), some (.inr (.inl v5)), none, z7, z8], [], mm V h) QQ
  obtain ⟨q1, e1, hf⟩ := obind hf
  refine ok_callA (L := [some (.inr (.inr (.inl 26))), some (.inr (.inr (.inl 17))), some (.inl w2), some (.inl w3), some (.inl w4), some (.inr (.inl v5)), none, z7, z8]) (M := mm V h) (args := [.inr (.inr (.inl 17)), .inl 41]) (rest := []) (y2 := 70) rfl rfl rfl (Or.inl rfl) rfl rfl (Nat.le_of_ble_eq_true rfl) rfl rfl (Nat.le_of_ble_eq_true rfl) (Nat.le_of_ble_eq_true rfl) (s_Tape_passSign_o16 e1) ?_
  rintro _ _ ⟨rfl, rfl⟩
  obtain rfl := Option.some.inj hf
  refine ok_lreturn (L := [some (.inr (.inr (.inl 26))), some (.inr (.inr (.inl 17))), some (.inl w2), some (.inl w3), some (.inl w4), some (.inr (.inl v5)), none, z7, z8]) (M := mm q1 h) (x := v5) rfl rfl ?_
  exact ⟨rfl, rfl⟩
set_option maxRecDepth 20000 in
set_option maxHeartbeats 4000000 in
theorem s_Rate_one_24_o16 {X : Xs} {d : Nat} {kS kO : VV → Int → Option (VV × Int)} (KS : ∀ {V : VV} {h : HP} {v : Int} {q : VV × Int}, kS V v = some q → Ok X (d + 7) 80 0 ([some (.inr (.inr (.inl 26))), some (.inr (.inr (.inl 17))), some (.inl v), none, none, none], [], mm V h) (fun M r => M = mm q.1 h ∧ r = some (.inr (.inl q.2)))) (KO : ∀ {V : VV} {h : HP} {v : Int} {q : VV × Int}, kO V v = some q → Ok X (d + 7) 82 0 ([some (.inr (.inr (.inl 26))), some (.inr (.inr (.inl 17))), some (.inl v), none, none, none, none, none, none], [], mm V h) (fun M r => M = mm q.1 h ∧ r = some (.inr (.inl q.2)))) {V : VV} {h : HP} {v2 : Int} {v3 : Int} {v4 : Int} {z5 : Option AV} {z6 : Option AV} {z7 : Option AV} {z8 : Option AV} {q : VV × Int} (hf : f_Rate_one_24 16 17 400 kS kO V v2 v3 v4 = some q) : Ok X (d + 8) 82 24 ([some (.inr (.inr (.inl 26))), some (.inr (.inr (.inl 17))), some (.inl v2), some (.inl v3), some (.inl v4), z5, z6, z7, z8], [], mm V h) (fun M r => M = mm q.1 h ∧ r = some (.inr (.inl q.2))) := by
  let QQ : Mm → Option AV → Prop := fun M r => M = mm q.1 h ∧ r = some (.inr (.inl q.2))
  show Ok X (d + 8) 82 24 ([some (.inr (.inr (.inl 26))), some (.inr (.inr (.inl 17))), some (.inl v2), some (.inl v3), some (.inl v4), z5, z6, z7, z8], [], mm V h) QQ
  obtain ⟨q1, e1, hf⟩ := obind hf
  refine ok_callA (L := [some (.inr (.inr (.inl 26))), some (.inr (.inr (.inl 17))), some (.inl v2), some (.inl v3), some (.inl v4), z5, z6, z7, z8]) (M := mm V h) (args := [.inr (.inr (.inl 26)), .inr (.inr (.inl 17)), .inl 40, .inl v2]) (rest := []) (y2 := 83) rfl rfl rfl (Or.inl rfl) rfl rfl (Nat.le_of_ble_eq_true rfl) rfl rfl (Nat.le_of_ble_eq_true rfl) (Nat.le_of_ble_eq_true rfl) (s_Rate_opens_o16 e1) ?_
  rintro _ _ ⟨rfl, rfl, hz1⟩
  refine ok_if_ne (x := q1.2) (L := [some (.inr (.inr (.inl 26))), some (.inr (.inr (.inl 17))), some (.inl v2), some (.inl v3), some (.inl v4), z5, z6, z7, z8]) (S := []) (M := mm q1.1 h) rfl rfl (fun c2 => ?_) (fun c2 => ?_)
  ·
    replace hf := (if_neg c2).symm.trans hf
    obtain ⟨q3, e3, hf⟩ := obind hf
    refine ok_callA (L := [some (.inr (.inr (.inl 26))), some (.inr (.inr (.inl 17))), some (.inl v2), some (.inl v3), some (.inl v4), z5, z6, z7, z8]) (M := mm q1.1 h) (args := [.inr (.inr (.inl 26)), .inr (.inr (.inl 17)), .inl (w32 (v2 + 1))]) (rest := []) (y2 := 80) rfl rfl rfl (Or.inl rfl) rfl rfl (Nat.le_of_ble_eq_true rfl) rfl rfl (Nat.le_of_ble_eq_true rfl) (Nat.le_of_ble_eq_true rfl) (KS e3) ?_
    rintro _ _ ⟨rfl, rfl⟩
    refine ok_if_eq (x := v4) (L := [some (.inr (.inr (.inl 26))), some (.inr (.inr (.inl 17))), some (.inl v2), some (.inl v3), some (.inl v4), some (.inr (.inl q3.2)), none, z7, z8]) (S := []) (M := mm q3.1 h) rfl rfl (fun c4 => ?_) (fun c4 => ?_)
    ·
      replace hf := (if_pos c4).symm.trans hf
      exact s_Rate_one_39_o16 KS KO hf
    ·
      replace hf := (if_neg c4).symm.trans hf
      obtain ⟨q5, e5, hf⟩ := obind hf
      refine ok_callA (L := [some (.inr (.inr (.inl 26))), some (.inr (.inr (.inl 17))), some (.inl v2), some (.inl v3), some (.inl v4), some (.inr (.inl q3.2)), none, z7, z8]) (M := mm q3.1 h) (args := [.inr (.inr (.inl 17)), .inl 44]) (rest := []) (y2 := 70) rfl rfl rfl (Or.inl rfl) rfl rfl (Nat.le_of_ble_eq_true rfl) rfl rfl (Nat.le_of_ble_eq_true rfl) (Nat.le_of_ble_eq_true rfl) (s_Tape_passSign_o16 e5) ?_
      rintro _ _ ⟨rfl, rfl⟩
      refine ok_callA (L := [some (.inr (.inr (.inl 26))), some (.inr (.inr (.inl 17))), some (.inl v2), some (.inl v3), some (.inl v4), some (.inr (.inl q3.2)), none, z7, z8]) (M := mm q5 h) (args := [.inr (.inr (.inl 17))]) (rest := []) (y2 := 56) rfl rfl rfl (Or.inl rfl) rfl rfl (Nat.le_of_ble_eq_true rfl) rfl rfl (Nat.le_of_ble_eq_true rfl) (Nat.le_of_ble_eq_true rfl) (s_Tape_isSound_o16 rfl) ?_
      rintro _ _ ⟨rfl, rfl, hz6⟩
      refine ok_if_ne (x := f_Tape_isSound 16 17 400 q5) (L := [some (.inr (.inr (.inl 26))), some (.inr (.inr (.inl 17))), some (.inl v2), some (.inl v3), some (.inl v4), some (.inr (.inl q3.2)), none, z7, z8]) (S := []) (M := mm q5 h) rfl rfl (fun c7 => ?_) (fun c7 => ?_)
      ·
        replace hf := (if_neg c7).symm.trans hf
        obtain ⟨q8, e8, hf⟩ := obind hf
        refine ok_callA (L := [some (.inr (.inr (.inl 26))), some (.inr (.inr (.inl 17))), some (.inl v2), some (.inl v3), some (.inl v4), some (.inr (.inl q3.2)), none, z7, z8]) (M := mm q5 h) (args := [.inr (.inr (.inl 26)), .inr (.inr (.inl 17)), .inl (w32 (v2 + 1))]) (rest := []) (y2 := 80) rfl rfl rfl (Or.inl rfl) rfl rfl (Nat.le_of_ble_eq_true rfl) rfl rfl (Nat.le_of_ble_eq_true rfl) (Nat.le_of_ble_eq_true rfl) (KS e8) ?_
        rintro _ _ ⟨rfl, rfl⟩
        have JN9 : Ok X (d + 8) 82 38 ([some (.inr (.inr (.inl 26))), some (.inr (.inr (.inl 17))), some (.inl v2), some (.inl v3), some (.inl v4), some (.inr (.inl q3.2)), none, some (.inr (.inl q8.2)), none], [.inr (.inl (if v3 = 0 then max q3.2 q8.2 else min q3.2 q8.2 : Int))], mm q8.1 h) QQ := by
          refine ok_thru (L := [some (.inr (.inr (.inl 26))), some (.inr (.inr (.inl 17))), some (.inl v2), some (.inl v3), some (.inl v4), some (.inr (.inl (if v3 = 0 then max q3.2 q8.2 else min q3.2 q8.2 : Int))), none, some (.inr (.inl q8.2)), none]) (S := []) (M := mm q8.1 h) rfl rfl ?_
          exact s_Rate_one_39_o16 KS KO hf
        clear hf
        refine ok_if_eq (x := v3) (L := [some (.inr (.inr (.inl 26))), some (.inr (.inr (.inl 17))), some (.inl v2), some (.inl v3), some (.inl v4), some (.inr (.inl q3.2)), none, some (.inr (.inl q8.2)), none]) (S := []) (M := mm q8.1 h) rfl rfl (fun c10 => ?_) (fun c10 => ?_)
        ·
          simp only [if_pos c10] at JN9
          refine ok_lmax (u := q3.2) (v := q8.2) (L := [some (.inr (.inr (.inl 26))), some (.inr (.inr (.inl 17))), some (.inl v2), some (.inl v3), some (.inl v4), some (.inr (.inl q3.2)), none, some (.inr (.inl q8.2)), none]) (S := []) (M := mm q8.1 h) rfl rfl rfl (Nat.le_of_ble_eq_true rfl) ?_
          first | exact JN9 | (simp only [if_pos c10]; exact JN9)
        ·
          simp only [if_neg c10] at JN9
          refine ok_lmin (u := q3.2) (v := q8.2) (L := [some (.inr (.inr (.inl 26))), some (.inr (.inr (.inl 17))), some (.inl v2), some (.inl v3), some (.inl v4), some (.inr (.inl q3.2)), none, some (.inr (.inl q8.2)), none]) (S := []) (M := mm q8.1 h) rfl rfl rfl (Nat.le_of_ble_eq_true rfl) ?_
          refine ok_goto (L := [some (.inr (.inr (.inl 26))), some (.inr (.inr (.inl 17))), some (.inl v2), some (.inl v3), some (.inl v4), some (.inr (.inl q3.2)), none, some (.inr (.inl q8.2)), none]) (S := [.inr (.inl (min q3.2 q8.2))]) (M := mm q8.1 h) rfl rfl ?_
          first | exact JN9 | (simp only [if_neg c10]; exact JN9)
      ·
        replace hf := (if_pos c7).symm.trans hf
        obtain rfl := Option.some.inj hf
        refine ok_lreturn (L := [some (.inr (.inr (.inl 26))), some (.inr (.inr (.inl 17))), some (.inl v2), some (.inl v3), some (.inl v4), some (.inr (.inl q3.2)), none, z7, z8]) (M := mm q5 h) (x := 0) rfl rfl ?_
        exact ⟨rfl, rfl⟩
  ·
    replace hf := (if_pos c2).symm.trans hf
    obtain rfl := Option.some.inj hf
    refine ok_lreturn (L := [some (.inr (.inr (.inl 26))), some (.inr (.inr (.inl 17))), some (.inl v2), some (.inl v3), some (.inl v4), z5, z6, z7, z8]) (M := mm q1.1 h) (x := 0) rfl rfl ?_
    exact ⟨rfl, rfl⟩
set_option maxRecDepth 20000 in
set_option maxHeartbeats 4000000 in
theorem s_Rate_one_22_o16 {X : Xs} {d : Nat} {kS kO : VV → Int → Option (VV × Int)} (KS : ∀ {V : VV} {h : HP} {v : Int} {q : VV × Int}, kS V v = some q → Ok X (d + 7) 80 0 ([some (.inr (.inr (.inl 26))), some (.inr (.inr (.inl 17))), some (.inl v), none, none, none], [], mm V h) (fun M r => M = mm q.1 h ∧ r = some (.inr (.inl q.2)))) (KO : ∀ {V : VV} {h : HP} {v : Int} {q : VV × Int}, kO V v = some q → Ok X (d + 7) 82 0 ([some (.inr (.inr (.inl 26))), some (.inr (.inr (.inl 17))), some (.inl v), none, none, none, none, none, none], [], mm V h) (fun M r => M = mm q.1 h ∧ r = some (.inr (.inl q.2)))) {V : VV} {h : HP} {v2 : Int} {v3 : Int} {v4 : Int} {z5 : Option AV} {z6 : Option AV} {z7 : Option AV} {z8 : Option AV} {q : VV × Int} (hf : f_Rate_one_22 16 17 400 kS kO V v2 v3 v4 = some q) : Ok X (d + 8) 82 22 ([some (.inr (.inr (.inl 26))), some (.inr (.inr (.inl 17))), some (.inl v2), some (.inl v3), some (.inl v4), z5, z6, z7, z8], [], mm V h) (fun M r => M = mm q.1 h ∧ r = some (.inr (.inl q.2))) := by
  let QQ : Mm → Option AV → Prop := fun M r => M = mm q.1 h ∧ r = some (.inr (.inl q.2))
  show Ok X (d + 8) 82 22 ([some (.inr (.inr (.inl 26))), some (.inr (.inr (.inl 17))), some (.inl v2), some (.inl v3), some (.inl v4), z5, z6, z7, z8], [], mm V h) QQ
  refine ok_if_eq (x := v4) (L := [some (.inr (.inr (.inl 26))), some (.inr (.inr (.inl 17))), some (.inl v2), some (.inl v3), some (.inl v4), z5, z6, z7, z8]) (S := []) (M := mm V h) rfl rfl (fun c1 => ?_) (fun c1 => ?_)
  ·
    replace hf := (if_pos c1).symm.trans hf
    exact s_Rate_one_24_o16 KS KO hf
  ·
    replace hf := (if_neg c1).symm.trans hf
    obtain ⟨q2, e2, hf⟩ := obind hf
    refine ok_callA (L := [some (.inr (.inr (.inl 26))), some (.inr (.inr (.inl 17))), some (.inl v2), some (.inl v3), some (.inl v4), z5, z6, z7, z8]) (M := mm V h) (args := [.inr (.inr (.inl 17))]) (rest := []) (y2 := 52) rfl rfl rfl (Or.inl rfl) rfl rfl (Nat.le_of_ble_eq_true rfl) rfl rfl (Nat.le_of_ble_eq_true rfl) (Nat.le_of_ble_eq_true rfl) (s_Tape_next_o16 e2) ?_
    rintro _ _ ⟨rfl, rfl⟩
    exact s_Rate_one_24_o16 KS KO hf
set_option maxRecDepth 20000 in
set_option maxHeartbeats 4000000 in
theorem s_Rate_one_17_o16 {X : Xs} {d : Nat} {kS kO : VV → Int → Option (VV × Int)} (KS : ∀ {V : VV} {h : HP} {v : Int} {q : VV × Int}, kS V v = some q → Ok X (d + 7) 80 0 ([some (.inr (.inr (.inl 26))), some (.inr (.inr (.inl 17))), some (.inl v), none, none, none], [], mm V h) (fun M r => M = mm q.1 h ∧ r = some (.inr (.inl q.2)))) (KO : ∀ {V : VV} {h : HP} {v : Int} {q : VV × Int}, kO V v = some q → Ok X (d + 7) 82 0 ([some (.inr (.inr (.inl 26))), some (.inr (.inr (.inl 17))), some (.inl v), none, none, none, none, none, none], [], mm V h) (fun M r => M = mm q.1 h ∧ r = some (.inr (.inl q.2)))) {V : VV} {h : HP} {v2 : Int} {v3 : Int} {t0 : Int} {z4 : Option AV} {z5 : Option AV} {z6 : Option AV} {z7 : Option AV} {z8 : Option AV} {q : VV × Int} (hf : f_Rate_one_17 16 17 400 kS kO V v2 v3 t0 = some q) : Ok X (d + 8) 82 17 ([some (.inr (.inr (.inl 26))), some (.inr (.inr (.inl 17))), some (.inl v2), some (.inl v3), z4, z5, z6, z7, z8], [.inl t0], mm V h) (fun M r => M = mm q.1 h ∧ r = some (.inr (.inl q.2))) := by
  let QQ : Mm → Option AV → Prop := fun M r => M = mm q.1 h ∧ r = some (.inr (.inl q.2))
  show Ok X (d + 8) 82 17 ([some (.inr (.inr (.inl 26))), some (.inr (.inr (.inl 17))), some (.inl v2), some (.inl v3), z4, z5, z6, z7, z8], [.inl t0], mm V h) QQ
  refine ok_if_ne (x := t0) (L := [some (.inr (.inr (.inl 26))), some (.inr (.inr (.inl 17))), some (.inl v2), some (.inl v3), some (.inl t0), z5, z6, z7, z8]) (S := []) (M := mm V h) rfl rfl (fun c1 => ?_) (fun c1 => ?_)
  ·
    replace hf := (if_neg c1).symm.trans hf
    exact s_Rate_one_22_o16 KS KO hf
  ·
    replace hf := (if_pos c1).symm.trans hf
    refine ok_callA (L := [some (.inr (.inr (.inl 26))), some (.inr (.inr (.inl 17))), some (.inl v2), some (.inl v3), some (.inl t0), z5, z6, z7, z8]) (M := mm V h) (args := [.inr (.inr (.inl 17)), .inl 40]) (rest := []) (y2 := 71) rfl rfl rfl (Or.inl rfl) rfl rfl (Nat.le_of_ble_eq_true rfl) rfl rfl (Nat.le_of_ble_eq_true rfl) (Nat.le_of_ble_eq_true rfl) (s_Tape_isSign_o16 rfl) ?_
    rintro _ _ ⟨rfl, rfl, hz2⟩
    refine ok_if_ne (x := f_Tape_isSign 16 17 400 V 40) (L := [some (.inr (.inr (.inl 26))), some (.inr (.inr (.inl 17))), some (.inl v2), some (.inl v3), some (.inl t0), z5, z6, z7, z8]) (S := []) (M := mm V h) rfl rfl (fun c3 => ?_) (fun c3 => ?_)
    ·
      replace hf := (if_neg c3).symm.trans hf
      exact s_Rate_one_22_o16 KS KO hf
    ·
      replace hf := (if_pos c3).symm.trans hf
      obtain ⟨q4, e4, hf⟩ := obind hf
      refine ok_callA (L := [some (.inr (.inr (.inl 26))), some (.inr (.inr (.inl 17))), some (.inl v2), some (.inl v3), some (.inl t0), z5, z6, z7, z8]) (M := mm V h) (args := [.inr (.inr (.inl 26)), .inr (.inr (.inl 17))]) (rest := []) (y2 := 84) rfl rfl rfl (Or.inl rfl) rfl rfl (Nat.le_of_ble_eq_true rfl) rfl rfl (Nat.le_of_ble_eq_true rfl) (Nat.le_of_ble_eq_true rfl) (s_Rate_letter_o16 e4) ?_
      rintro _ _ ⟨rfl, rfl⟩
      obtain rfl := Option.some.inj hf
      refine ok_lreturn (L := [some (.inr (.inr (.inl 26))), some (.inr (.inr (.inl 17))), some (.inl v2), some (.inl v3), some (.inl t0), z5, z6, z7, z8]) (M := mm q4.1 h) (x := q4.2) rfl rfl ?_
      exact ⟨rfl, rfl⟩
set_option maxRecDepth 20000 in
set_option maxHeartbeats 4000000 in
theorem s_Rate_one_15_o16 {X : Xs} {d : Nat} {kS kO : VV → Int → Option (VV × Int)} (KS : ∀ {V : VV} {h : HP} {v : Int} {q : VV × Int}, kS V v = some q → Ok X (d + 7) 80 0 ([some (.inr (.inr (.inl 26))), some (.inr (.inr (.inl 17))), some (.inl v), none, none, none], [], mm V h) (fun M r => M = mm q.1 h ∧ r = some (.inr (.inl q.2)))) (KO : ∀ {V : VV} {h : HP} {v : Int} {q : VV × Int}, kO V v = some q → Ok X (d + 7) 82 0 ([some (.inr (.inr (.inl 26))), some (.inr (.inr (.inl 17))), some (.inl v), none, none, none, none, none, none], [], mm V h) (fun M r => M = mm q.1 h ∧ r = some (.inr (.inl q.2)))) {V : VV} {h : HP} {v2 : Int} {v3 : Int} {z4 : Option AV} {z5 : Option AV} {z6 : Option AV} {z7 : Option AV} {z8 : Option AV} {q : VV × Int} (hf : f_Rate_one_15 16 17 400 kS kO V v2 v3 = some q) : Ok X (d + 8) 82 15 ([some (.inr (.inr (.inl 26))), some (.inr (.inr (.inl 17))), some (.inl v2), some (.inl v3), z4, z5, z6, z7, z8], [], mm V h) (fun M r => M = mm q.1 h ∧ r = some (.inr (.inl q.2))) := by
  let QQ : Mm → Option AV → Prop := fun M r => M = mm q.1 h ∧ r = some (.inr (.inl q.2))
  show Ok X (d + 8) 82 15 ([some (.inr (.inr (.inl 26))), some (.inr (.inr (.inl 17))), some (.inl v2), some (.inl v3), z4, z5, z6, z7, z8], [], mm V h) QQ
  refine ok_goto (L := [some (.inr (.inr (.inl 26))), some (.inr (.inr (.inl 17))), some (.inl v2), some (.inl v3), z4, z5, z6, z7, z8]) (S := [.inl 1]) (M := mm V h) rfl rfl ?_
  exact s_Rate_one_17_o16 KS KO hf
set_option maxRecDepth 20000 in
set_option maxHeartbeats 4000000 in
theorem s_Rate_one_o16 {X : Xs} {d : Nat} {kS kO : VV → Int → Option (VV × Int)} (KS : ∀ {V : VV} {h : HP} {v : Int} {q : VV × Int}, kS V v = some q → Ok X (d + 7) 80 0 ([some (.inr (.inr (.inl 26))), some (.inr (.inr (.inl 17))), some (.inl v), none, none, none], [], mm V h) (fun M r => M = mm q.1 h ∧ r = some (.inr (.inl q.2)))) (KO : ∀ {V : VV} {h : HP} {v : Int} {q : VV × Int}, kO V v = some q → Ok X (d + 7) 82 0 ([some (.inr (.inr (.inl 26))), some (.inr (.inr (.inl 17))), some (.inl v), none, none, none, none, none, none], [], mm V h) (fun M r => M = mm q.1 h ∧ r = some (.inr (.inl q.2)))) {V : VV} {h : HP} {v2 : Int} {q : VV × Int} (hf : f_Rate_one 16 17 400 kS kO V v2 = some q) : Ok X (d + 8) 82 0 ([some (.inr (.inr (.inl 26))), some (.inr (.inr (.inl 17))), some (.inl v2), none, none, none, none, none, none], [], mm V h) (fun M r => M = mm q.1 h ∧ r = some (.inr (.inl q.2))) := by
  let QQ : Mm → Option AV → Prop := fun M r => M = mm q.1 h ∧ r = some (.inr (.inl q.2))
  show Ok X (d + 8) 82 0 ([some (.inr (.inr (.inl 26))), some (.inr (.inr (.inl 17))), some (.inl v2), none, none, none, none, none, none], [], mm V h) QQ
  refine ok_ic_ne (x := V 16 2) (u := 2) (L := [some (.inr (.inr (.inl 26))), some (.inr (.inr (.inl 17))), some (.inl v2), none, none, none, none, none, none]) (S := []) (M := mm V h) rfl rfl (fun c1 => ?_) (fun c1 => ?_)
  ·
    replace hf := (if_neg c1).symm.trans hf
    refine ok_callA (L := [some (.inr (.inr (.inl 26))), some (.inr (.inr (.inl 17))), some (.inl v2), none, none, none, none, none, none]) (M := mm V h) (args := [.inr (.inr (.inl 17)), .inl 45]) (rest := []) (y2 := 71) rfl rfl rfl (Or.inl rfl) rfl rfl (Nat.le_of_ble_eq_true rfl) rfl rfl (Nat.le_of_ble_eq_true rfl) (Nat.le_of_ble_eq_true rfl) (s_Tape_isSign_o16 rfl) ?_
    rintro _ _ ⟨rfl, rfl, hz2⟩
    refine ok_if_eq (x := f_Tape_isSign 16 17 400 V 45) (L := [some (.inr (.inr (.inl 26))), some (.inr (.inr (.inl 17))), some (.inl v2), none, none, none, none, none, none]) (S := []) (M := mm V h) rfl rfl (fun c3 => ?_) (fun c3 => ?_)
    ·
      replace hf := (if_pos c3).symm.trans hf
      obtain ⟨q4, e4, hf⟩ := obind hf
      refine ok_callA (L := [some (.inr (.inr (.inl 26))), some (.inr (.inr (.inl 17))), some (.inl v2), none, none, none, none, none, none]) (M := mm V h) (args := [.inr (.inr (.inl 17)), .inr (.inr (.inr 17))]) (rest := []) (y2 := 59) rfl rfl rfl (Or.inl rfl) rfl rfl (Nat.le_of_ble_eq_true rfl) rfl rfl (Nat.le_of_ble_eq_true rfl) (Nat.le_of_ble_eq_true rfl) (s_Tape_isWord_o16w7 e4) ?_
      rintro _ _ ⟨rfl, rfl, hz4⟩
      refine ok_if_ne (x := q4) (L := [some (.inr (.inr (.inl 26))), some (.inr (.inr (.inl 17))), some (.inl v2), some (.inl q4), none, none, none, none, none]) (S := []) (M := mm V h) rfl rfl (fun c5 => ?_) (fun c5 => ?_)
      ·
        replace hf := (if_neg c5).symm.trans hf
        exact s_Rate_one_15_o16 KS KO hf
      ·
        replace hf := (if_pos c5).symm.trans hf
        obtain ⟨q6, e6, hf⟩ := obind hf
        refine ok_callA (L := [some (.inr (.inr (.inl 26))), some (.inr (.inr (.inl 17))), some (.inl v2), some (.inl q4), none, none, none, none, none]) (M := mm V h) (args := [.inr (.inr (.inl 17)), .inr (.inr (.inr 18))]) (rest := []) (y2 := 59) rfl rfl rfl (Or.inl rfl) rfl rfl (Nat.le_of_ble_eq_true rfl) rfl rfl (Nat.le_of_ble_eq_true rfl) (Nat.le_of_ble_eq_true rfl) (s_Tape_isWord_o16w8 e6) ?_
        rintro _ _ ⟨rfl, rfl, hz6⟩
        refine ok_if_eq (x := q6) (L := [some (.inr (.inr (.inl 26))), some (.inr (.inr (.inl 17))), some (.inl v2), some (.inl q4), none, none, none, none, none]) (S := []) (M := mm V h) rfl rfl (fun c7 => ?_) (fun c7 => ?_)
        ·
          replace hf := (if_pos c7).symm.trans hf
          refine ok_thru (L := [some (.inr (.inr (.inl 26))), some (.inr (.inr (.inl 17))), some (.inl v2), some (.inl q4), none, none, none, none, none]) (S := [.inl 0]) (M := mm V h) rfl rfl ?_
          exact s_Rate_one_17_o16 KS KO hf
        ·
          replace hf := (if_neg c7).symm.trans hf
          exact s_Rate_one_15_o16 KS KO hf
    ·
      replace hf := (if_neg c3).symm.trans hf
      obtain ⟨q8, e8, hf⟩ := obind hf
      refine ok_callA (L := [some (.inr (.inr (.inl 26))), some (.inr (.inr (.inl 17))), some (.inl v2), none, none, none, none, none, none]) (M := mm V h) (args := [.inr (.inr (.inl 26)), .inr (.inr (.inl 17)), .inl 45, .inl v2]) (rest := []) (y2 := 83) rfl rfl rfl (Or.inl rfl) rfl rfl (Nat.le_of_ble_eq_true rfl) rfl rfl (Nat.le_of_ble_eq_true rfl) (Nat.le_of_ble_eq_true rfl) (s_Rate_opens_o16 e8) ?_
      rintro _ _ ⟨rfl, rfl, hz8⟩
      refine ok_if_eq (x := q8.2) (L := [some (.inr (.inr (.inl 26))), some (.inr (.inr (.inl 17))), some (.inl v2), none, none, none, none, none, none]) (S := []) (M := mm q8.1 h) rfl rfl (fun c9 => ?_) (fun c9 => ?_)
      ·
        replace hf := (if_pos c9).symm.trans hf
        refine ok_thru (L := [some (.inr (.inr (.inl 26))), some (.inr (.inr (.inl 17))), some (.inl v2), none, none, none, none, none, none]) (S := [.inr (.inl 0)]) (M := mm q8.1 h) rfl rfl ?_
        obtain rfl := Option.some.inj hf
        refine ok_lreturn (L := [some (.inr (.inr (.inl 26))), some (.inr (.inr (.inl 17))), some (.inl v2), none, none, none, none, none, none]) (M := mm q8.1 h) (x := 0) rfl rfl ?_
        exact ⟨rfl, rfl⟩
      ·
        replace hf := (if_neg c9).symm.trans hf
        obtain ⟨q10, e10, hf⟩ := obind hf
        refine ok_callA (L := [some (.inr (.inr (.inl 26))), some (.inr (.inr (.inl 17))), some (.inl v2), none, none, none, none, none, none]) (M := mm q8.1 h) (args := [.inr (.inr (.inl 26)), .inr (.inr (.inl 17)), .inl (w32 (v2 + 1))]) (rest := []) (y2 := 82) rfl rfl rfl (Or.inl rfl) rfl rfl (Nat.le_of_ble_eq_true rfl) rfl rfl (Nat.le_of_ble_eq_true rfl) (Nat.le_of_ble_eq_true rfl) (KO e10) ?_
        rintro _ _ ⟨rfl, rfl⟩
        refine ok_goto (L := [some (.inr (.inr (.inl 26))), some (.inr (.inr (.inl 17))), some (.inl v2), none, none, none, none, none, none]) (S := [.inr (.inl (w64 (-q10.2)))]) (M := mm q10.1 h) rfl rfl ?_
        obtain rfl := Option.some.inj hf
        refine ok_lreturn (L := [some (.inr (.inr (.inl 26))), some (.inr (.inr (.inl 17))), some (.inl v2), none, none, none, none, none, none]) (M := mm q10.1 h) (x := w64 (-q10.2)) rfl rfl ?_
        exact ⟨rfl, rfl⟩
  ·
    replace hf := (if_pos c1).symm.trans hf
    obtain ⟨q11, e11, hf⟩ := obind hf
    refine ok_callA (L := [some (.inr (.inr (.inl 26))), some (.inr (.inr (.inl 17))), some (.inl v2), none, none, none, none, none, none]) (M := mm V h) (args := [.inr (.inr (.inl 17)), .inl 0, .inl 9999]) (rest := []) (y2 := 68) rfl rfl rfl (Or.inl rfl) rfl rfl (Nat.le_of_ble_eq_true rfl) rfl rfl (Nat.le_of_ble_eq_true rfl) (Nat.le_of_ble_eq_true rfl) (s_Tape_passNumber_o16 e11) ?_
    rintro _ _ ⟨rfl, rfl⟩
    obtain rfl := Option.some.inj hf
    refine ok_lreturn (L := [some (.inr (.inr (.inl 26))), some (.inr (.inr (.inl 17))), some (.inl v2), none, none, none, none, none, none]) (M := mm q11.1 h) (x := q11.2) rfl rfl ?_
    exact ⟨rfl, rfl⟩
set_option maxRecDepth 20000 in
set_option maxHeartbeats 4000000 in
theorem s_Rate_one_39_o26 {X : Xs} {d : Nat} {kS kO : VV → Int → Option (VV × Int)} (KS : ∀ {V : VV} {h : HP} {v : Int} {q : VV × Int}, kS V v = some q → Ok X (d + 7) 80 0 ([some (.inr (.inr (.inl 26))), some (.inr (.inr (.inl 27))), some (.inl v), none, none, none], [], mm V h) (fun M r => M = mm q.1 h ∧ r = some (.inr (.inl q.2)))) (KO : ∀ {V : VV} {h : HP} {v : Int} {q : VV × Int}, kO V v = some q → Ok X (d + 7) 82 0 ([some (.inr (.inr (.inl 26))), some (.inr (.inr (.inl 27))), some (.inl v), none, none, none, none, none, none], [], mm V h) (fun M r => M = mm q.1 h ∧ r = some (.inr (.inl q.2)))) {V : VV} {h : HP} {v5 : Int} {w2 : Int} {w3 : Int} {w4 : Int} {z7 : Option AV} {z8 : Option AV} {q : VV × Int} (hf : f_Rate_one_39 26 27 100 kS kO V v5 = some q) : Ok X (d + 8) 82 39 ([some (.inr (.inr (.inl 26))), some (.inr (.inr (.inl 27))), some (.inl w2), some (.inl w3), some (.inl w4), some (.inr (.inl v5)), none, z7, z8], [], mm V h) (fun M r => M = mm q.1 h ∧ r = some (.inr (.inl q.2))) := by
  let QQ : Mm → Option AV → Prop := fun M r => M = mm q.1 h ∧ r = some (.inr (.inl q.2))
  show Ok X (d + 8) 82 39 ([some (.inr (.inr (.inl 26))), some (.inr (.inr (.inl 27))), some (.inl w2), some (.inl w3), some (.inl w4), some (.inr (.inl v5)), none, z7, z8], [], mm V h) QQ
  obtain ⟨q1, e1, hf⟩ := obind hf
  refine ok_callA (L := [some (.inr (.inr (.inl 26))), some (.inr (.inr (.inl 27))), some (.inl w2), some (.inl w3), some (.inl w4), some (.inr (.inl v5)), none, z7, z8]) (M := mm V h) (args := [.inr (.inr (.inl 27)), .inl 41]) (rest := []) (y2 := 70) rfl rfl rfl (Or.inl rfl) rfl rfl (Nat.le_of_ble_eq_true rfl) rfl rfl (Nat.le_of_ble_eq_true rfl) (Nat.le_of_ble_eq_true rfl) (s_Tape_passSign_o26 e1) ?_
  rintro _ _ ⟨rfl, rfl⟩
  obtain rfl := Option.some.inj hf
  refine ok_lreturn (L := [some (.inr (.inr (.inl 26))), some (.inr (.inr (.inl 27))), some (.inl w2), some (.inl w3), some (.inl w4), some (.inr (.inl v5)), none, z7, z8]) (M := mm q1 h) (x := v5) rfl rfl ?_
  exact ⟨rfl, rfl⟩
set_option maxRecDepth 20000 in
set_option maxHeartbeats 4000000 in
theorem s_Rate_one_24_o26 {X : Xs} {d : Nat} {kS kO : VV → Int → Option (VV × Int)} (KS : ∀ {V : VV} {h : HP} {v : Int} {q : VV × Int}, kS V v = some q → Ok X (d + 7) 80 0 ([some (.inr (.inr (.inl 26))), some (.inr (.inr (.inl 27))), some (.inl v), none, none, none], [], mm V h) (fun M r => M = mm q.1 h ∧ r = some (.inr (.inl q.2)))) (KO : ∀ {V : VV} {h : HP} {v : Int} {q : VV × Int}, kO V v = some q → Ok X (d + 7) 82 0 ([some (.inr (.inr (.inl 26))), some (.inr (.inr (.inl 27))), some (.inl v), none, none, none, none, none, none], [], mm V h) (fun M r => M = mm q.1 h ∧ r = some (.inr (.inl q.2)))) {V : VV} {h : HP} {v2 : Int} {v3 : Int} {v4 : Int} {z5 : Option AV} {z6 : Option AV} {z7 : Option AV} {z8 : Option AV} {q : VV × Int} (hf : f_Rate_one_24 26 27 100 kS kO V v2 v3 v4 = some q) : Ok X (d + 8) 82 24 ([some (.inr (.inr (.inl 26))), some (.inr (.inr (.inl 27))), some (.inl v2), some (.inl v3), some (.inl v4), z5, z6, z7, z8], [], mm V h) (fun M r => M = mm q.1 h ∧ r = some (.inr (.inl q.2))) := by
  let QQ : Mm → Option AV → Prop := fun M r => M = mm q.1 h ∧ r = some (.inr (.inl q.2))
  show Ok X (d + 8) 82 24 ([some (.inr (.inr (.inl 26))), some (.inr (.inr (.inl 27))), some (.inl v2), some (.inl v3), some (.inl v4), z5, z6, z7, z8], [], mm V h) QQ
  obtain ⟨q1, e1, hf⟩ := obind hf
  refine ok_callA (L := [some (.inr (.inr (.inl 26))), some (.inr (.inr (.inl 27))), some (.inl v2), some (.inl v3), some (.inl v4), z5, z6, z7, z8]) (M := mm V h) (args := [.inr (.inr (.inl 26)), .inr (.inr (.inl 27)), .inl 40, .inl v2]) (rest := []) (y2 := 83) rfl rfl rfl (Or.inl rfl) rfl rfl (Nat.le_of_ble_eq_true rfl) rfl rfl (Nat.le_of_ble_eq_true rfl) (Nat.le_of_ble_eq_true rfl) (s_Rate_opens_o26 e1) ?_
  rintro _ _ ⟨rfl, rfl, hz1⟩
  refine ok_if_ne (x := q1.2) (L := [some (.inr (.inr (.inl 26))), some (.inr (.inr (.inl 27))), some (.inl v2), some (.inl v3), some (.inl v4), z5, z6, z7, z8]) (S := []) (M := mm q1.1 h) rfl rfl (fun c2 => ?_) (fun c2 => ?_)
  ·
    replace hf := (if_neg c2).symm.trans hf
    obtain ⟨q3, e3, hf⟩ := obind hf
    refine ok_callA (L := [some (.inr (.inr (.inl 26))), some (.inr (.inr (.inl 27))), some (.inl v2), some (.inl v3), some (.inl v4), z5, z6, z7, z8]) (M := mm q1.1 h) (args := [.inr (.inr (.inl 26)), .inr (.inr (.inl 27)), .inl (w32 (v2 + 1))]) (rest := []) (y2 := 80) rfl rfl rfl (Or.inl rfl) rfl rfl (Nat.le_of_ble_eq_true rfl) rfl rfl (Nat.le_of_ble_eq_true rfl) (Nat.le_of_ble_eq_true rfl) (KS e3) ?_
    rintro _ _ ⟨rfl, rfl⟩
    refine ok_if_eq (x := v4) (L := [some (.inr (.inr (.inl 26))), some (.inr (.inr (.inl 27))), some (.inl v2), some (.inl v3), some (.inl v4), some (.inr (.inl q3.2)), none, z7, z8]) (S := []) (M := mm q3.1 h) rfl rfl (fun c4 => ?_) (fun c4 => ?_)
    ·
      replace hf := (if_pos c4).symm.trans hf
      exact s_Rate_one_39_o26 KS KO hf
    ·
      replace hf := (if_neg c4).symm.trans hf
      obtain ⟨q5, e5, hf⟩ := obind hf
      refine ok_callA (L := [some (.inr (.inr (.inl 26))), some (.inr (.inr (.inl 27))), some (.inl v2), some (.inl v3), some (.inl v4), some (.inr (.inl q3.2)), none, z7, z8]) (M := mm q3.1 h) (args := [.inr (.inr (.inl 27)), .inl 44]) (rest := []) (y2 := 70) rfl rfl rfl (Or.inl rfl) rfl rfl (Nat.le_of_ble_eq_true rfl) rfl rfl (Nat.le_of_ble_eq_true rfl) (Nat.le_of_ble_eq_true rfl) (s_Tape_passSign_o26 e5) ?_
      rintro _ _ ⟨rfl, rfl⟩
      refine ok_callA (L := [some (.inr (.inr (.inl 26))), some (.inr (.inr (.inl 27))), some (.inl v2), some (.inl v3), some (.inl v4), some (.inr (.inl q3.2)), none, z7, z8]) (M := mm q5 h) (args := [.inr (.inr (.inl 27))]) (rest := []) (y2 := 56) rfl rfl rfl (Or.inl rfl) rfl rfl (Nat.le_of_ble_eq_true rfl) rfl rfl (Nat.le_of_ble_eq_true rfl) (Nat.le_of_ble_eq_true rfl) (s_Tape_isSound_o26 rfl) ?_
      rintro _ _ ⟨rfl, rfl, hz6⟩
      refine ok_if_ne (x := f_Tape_isSound 26 27 100 q5) (L := [some (.inr (.inr (.inl 26))), some (.inr (.inr (.inl 27))), some (.inl v2), some (.inl v3), some (.inl v4), some (.inr (.inl q3.2)), none, z7, z8]) (S := []) (M := mm q5 h) rfl rfl (fun c7 => ?_) (fun c7 => ?_)
      ·
        replace hf := (if_neg c7).symm.trans hf
        obtain ⟨q8, e8, hf⟩ := obind hf
        refine ok_callA (L := [some (.inr (.inr (.inl 26))), some (.inr (.inr (.inl 27))), some (.inl v2), some (.inl v3), some (.inl v4), some (.inr (.inl q3.2)), none, z7, z8]) (M := mm q5 h) (args := [.inr (.inr (.inl 26)), .inr (.inr (.inl 27)), .inl (w32 (v2 + 1))]) (rest := []) (y2 := 80) rfl rfl rfl (Or.inl rfl) rfl rfl (Nat.le_of_ble_eq_true rfl) rfl rfl (Nat.le_of_ble_eq_true rfl) (Nat.le_of_ble_eq_true rfl) (KS e8) ?_
        rintro _ _ ⟨rfl, rfl⟩
        have JN9 : Ok X (d + 8) 82 38 ([some (.inr (.inr (.inl 26))), some (.inr (.inr (.inl 27))), some (.inl v2), some (.inl v3), some (.inl v4), some (.inr (.inl q3.2)), none, some (.inr (.inl q8.2)), none], [.inr (.inl (if v3 = 0 then max q3.2 q8.2 else min q3.2 q8.2 : Int))], mm q8.1 h) QQ := by
          refine ok_thru (L := [some (.inr (.inr (.inl 26))), some (.inr (.inr (.inl 27))), some (.inl v2), some (.inl v3), some (.inl v4), some (.inr (.inl (if v3 = 0 then max q3.2 q8.2 else min q3.2 q8.2 : Int))), none, some (.inr (.inl q8.2)), none]) (S := []) (M := mm q8.1 h) rfl rfl ?_
          exact s_Rate_one_39_o26 KS KO hf
        clear hf
        refine ok_if_eq (x := v3) (L := [some (.inr (.inr (.inl 26))), some (.inr (.inr (.inl 27))), some (.inl v2), some (.inl v3), some (.inl v4), some (.inr (.inl q3.2)), none, some (.inr (.inl q8.2)), none]) (S := []) (M := mm q8.1 h) rfl rfl (fun c10 => ?_) (fun c10 => ?_)
        ·
          simp only [if_pos c10] at JN9
          refine ok_lmax (u := q3.2) (v := q8.2) (L := [some (.inr (.inr (.inl 26))), some (.inr (.inr (.inl 27))), some (.inl v2), some (.inl v3), some (.inl v4), some (.inr (.inl q3.2)), none, some (.inr (.inl q8.2)), none]) (S := []) (M := mm q8.1 h) rfl rfl rfl (Nat.le_of_ble_eq_true rfl) ?_
          first | exact JN9 | (simp only [if_pos c10]; exact JN9)
        ·
          simp only [if_neg c10] at JN9
          refine ok_lmin (u := q3.2) (v := q8.2) (L := [some (.inr (.inr (.inl 26))), some (.inr (.inr (.inl 27))), some (.inl v2), some (.inl v3), some (.inl v4), some (.inr (.inl q3.2)), none, some (.inr (.inl q8.2)), none]) (S := []) (M := mm q8.1 h) rfl rfl rfl (Nat.le_of_ble_eq_true rfl) ?_
          refine ok_goto (L := [some (.inr (.inr (.inl 26))), some (.inr (.inr (.inl 27))), some (.inl v2), some (.inl v3), some (.inl v4), some (.inr (.inl q3.2)), none, some (.inr (.inl q8.2)), none]) (S := [.inr (.inl (min q3.2 q8.2))]) (M := mm q8.1 h) rfl rfl ?_
          first | exact JN9 | (simp only [if_neg c10]; exact JN9)
      ·
        replace hf := (if_pos c7).symm.trans hf
        obtain rfl := Option.some.inj hf
        refine ok_lreturn (L := [some (.inr (.inr (.inl 26))), some (.inr (.inr (.inl 27))), some (.inl v2), some (.inl v3), some (.inl v4), some (.inr (.inl q3.2)), none, z7, z8]) (M := mm q5 h) (x := 0) rfl rfl ?_
        exact ⟨rfl, rfl⟩
  ·
    replace hf := (if_pos c2).symm.trans hf
    obtain rfl := Option.some.inj hf
    refine ok_lreturn (L := [some (.inr (.inr (.inl 26))), some (.inr (.inr (.inl 27))), some (.inl v2), some (.inl v3), some (.inl v4), z5, z6, z7, z8]) (M := mm q1.1 h) (x := 0) rfl rfl ?_
    exact ⟨rfl, rfl⟩
set_option maxRecDepth 20000 in
set_option maxHeartbeats 4000000 in
theorem s_Rate_one_22_o26 {X : Xs} {d : Nat} {kS kO : VV → Int → Option (VV × Int)} (KS : ∀ {V : VV} {h : HP} {v : Int} {q : VV × Int}, kS V v = some q → Ok X (d + 7) 80 0 ([some (.inr (.inr (.inl 26))), some (.inr (.inr (.inl 27))), some (.inl v), none, none, none], [], mm V h) (fun M r => M = mm q.1 h ∧ r = some (.inr (.inl q.2)))) (KO : ∀ {V : VV} {h : HP} {v : Int} {q : VV × Int}, kO V v = some q → Ok X (d + 7) 82 0 ([some (.inr (.inr (.inl 26))), some (.inr (.inr (.inl 27))), some (.inl v), none, none, none, none, none, none], [], mm V h) (fun M r => M = mm q.1 h ∧ r = some (.inr (.inl q.2)))) {V : VV} {h : HP} {v2 : Int} {v3 : Int} {v4 : Int} {z5 : Option AV} {z6 : Option AV} {z7 : Option AV} {z8 : Option AV} {q : VV × Int} (hf : f_Rate_one_22 26 27 100 kS kO V v2 v3 v4 = some q) : Ok X (d + 8) 82 22 ([some (.inr (.inr (.inl 26))), some (.inr (.inr (.inl 27))), some (.inl v2), some (.inl v3), some (.inl v4), z5, z6, z7, z8], [], mm V h) (fun M r => M = mm q.1 h ∧ r = some (.inr (.inl q.2))) := by
  let QQ : Mm → Option AV → Prop := fun M r => M = mm q.1 h ∧ r = some (.inr (.inl q.2))
  show Ok X (d + 8) 82 22 ([some (.inr (.inr (.inl 26))), some (.inr (.inr (.inl 27))), some (.inl v2), some (.inl v3), some (.inl v4), z5, z6, z7, z8], [], mm V h) QQ
  refine ok_if_eq (x := v4) (L := [some (.inr (.inr (.inl 26))), some (.inr (.inr (.inl 27))), some (.inl v2), some (.inl v3), some (.inl v4), z5, z6, z7, z8]) (S := []) (M := mm V h) rfl rfl (fun c1 => ?_) (fun c1 => ?_)
  ·
    replace hf := (if_pos c1).symm.trans hf
    exact s_Rate_one_24_o26 KS KO hf
  ·
    replace hf := (if_neg c1).symm.trans hf
    obtain ⟨q2, e2, hf⟩ := obind hf
    refine ok_callA (L := [some (.inr (.inr (.inl 26))), some (.inr (.inr (.inl 27))), some (.inl v2), some (.inl v3), some (.inl v4), z5, z6, z7, z8]) (M := mm V h) (args := [.inr (.inr (.inl 27))]) (rest := []) (y2 := 52) rfl rfl rfl (Or.inl rfl) rfl rfl (Nat.le_of_ble_eq_true rfl) rfl rfl (Nat.le_of_ble_eq_true rfl) (Nat.le_of_ble_eq_true rfl) (s_Tape_next_o26 e2) ?_
    rintro _ _ ⟨rfl, rfl⟩
    exact s_Rate_one_24_o26 KS KO hf
set_option maxRecDepth 20000 in
set_option maxHeartbeats 4000000 in
theorem s_Rate_one_17_o26 {X : Xs} {d : Nat} {kS kO : VV → Int → Option (VV × Int)} (KS : ∀ {V : VV} {h : HP} {v : Int} {q : VV × Int}, kS V v = some q → Ok X (d + 7) 80 0 ([some (.inr (.inr (.inl 26))), some (.inr (.inr (.inl 27))), some (.inl v), none, none, none], [], mm V h) (fun M r => M = mm q.1 h ∧ r = some (.inr (.inl q.2)))) (KO : ∀ {V : VV} {h : HP} {v : Int} {q : VV × Int}, kO V v = some q → Ok X (d + 7) 82 0 ([some (.inr (.inr (.inl 26))), some (.inr (.inr (.inl 27))), some (.inl v), none, none, none, none, none, none], [], mm V h) (fun M r => M = mm q.1 h ∧ r = some (.inr (.inl q.2)))) {V : VV} {h : HP} {v2 : Int} {v3 : Int} {t0 : Int} {z4 : Option AV} {z5 : Option AV} {z6 : Option AV} {z7 : Option AV} {z8 : Option AV} {q : VV × Int} (hf : f_Rate_one_17 26 27 100 kS kO V v2 v3 t0 = some q) : Ok X (d + 8) 82 17 ([some (.inr (.inr (.inl 26))), some (.inr (.inr (.inl 27))), some (.inl v2), some (.inl v3), z4, z5, z6, z7, z8], [.inl t0], mm V h) (fun M r => M = mm q.1 h ∧ r = some (.inr (.inl q.2))) := by
  let QQ : Mm → Option AV → Prop := fun M r => M = mm q.1 h ∧ r = some (.inr (.inl q.2))
  show Ok X (d + 8) 82 17 ([some (.inr (.inr (.inl 26))), some (.inr (.inr (.inl 27))), some (.inl v2), some (.inl v3), z4, z5, z6, z7, z8], [.inl t0], mm V h) QQ
  refine ok_if_ne (x := t0) (L := [some (.inr (.inr (.inl 26))), some (.inr (.inr (.inl 27))), some (.inl v2), some (.inl v3), some (.inl t0), z5, z6, z7, z8]) (S := []) (M := mm V h) rfl rfl (fun c1 => ?_) (fun c1 => ?_)
  ·
    replace hf := (if_neg c1).symm.trans hf
    exact s_Rate_one_22_o26 KS KO hf
  ·
    replace hf := (if_pos c1).symm.trans hf
    refine ok_callA (L := [some (.inr (.inr (.inl 26))), some (.inr (.inr (.inl 27))), some (.inl v2), some (.inl v3), some (.inl t0), z5, z6, z7, z8]) (M := mm V h) (args := [.inr (.inr (.inl 27)), .inl 40]) (rest := []) (y2 := 71) rfl rfl rfl (Or.inl rfl) rfl rfl (Nat.le_of_ble_eq_true rfl) rfl rfl (Nat.le_of_ble_eq_true rfl) (Nat.le_of_ble_eq_true rfl) (s_Tape_isSign_o26 rfl) ?_
    rintro _ _ ⟨rfl, rfl, hz2⟩
    refine ok_if_ne (x := f_Tape_isSign 26 27 100 V 40) (L := [some (.inr (.inr (.inl 26))), some (.inr (.inr (.inl 27))), some (.inl v2), some (.inl v3), some (.inl t0), z5, z6, z7, z8]) (S := []) (M := mm V h) rfl rfl (fun c3 => ?_) (fun c3 => ?_)
    ·
      replace hf := (if_neg c3).symm.trans hf
      exact s_Rate_one_22_o26 KS KO hf
    ·
      replace hf := (if_pos c3).symm.trans hf
      obtain ⟨q4, e4, hf⟩ := obind hf
      refine ok_callA (L := [some (.inr (.inr (.inl 26))), some (.inr (.inr (.inl 27))), some (.inl v2), some (.inl v3), some (.inl t0), z5, z6, z7, z8]) (M := mm V h) (args := [.inr (.inr (.inl 26)), .inr (.inr (.inl 27))]) (rest := []) (y2 := 84) rfl rfl rfl (Or.inl rfl) rfl rfl (Nat.le_of_ble_eq_true rfl) rfl rfl (Nat.le_of_ble_eq_true rfl) (Nat.le_of_ble_eq_true rfl) (s_Rate_letter_o26 e4) ?_
      rintro _ _ ⟨rfl, rfl⟩
      obtain rfl := Option.some.inj hf
      refine ok_lreturn (L := [some (.inr (.inr (.inl 26))), some (.inr (.inr (.inl 27))), some (.inl v2), some (.inl v3), some (.inl t0), z5, z6, z7, z8]) (M := mm q4.1 h) (x := q4.2) rfl rfl ?_
      exact ⟨rfl, rfl⟩
set_option maxRecDepth 20000 in
set_option maxHeartbeats 4000000 in
theorem s_Rate_one_15_o26 {X : Xs} {d : Nat} {kS kO : VV → Int → Option (VV × Int)} (KS : ∀ {V : VV} {h : HP} {v : Int} {q : VV × Int}, kS V v = some q → Ok X (d + 7) 80 0 ([some (.inr (.inr (.inl 26))), some (.inr (.inr (.inl 27))), some (.inl v), none, none, none], [], mm V h) (fun M r => M = mm q.1 h ∧ r = some (.inr (.inl q.2)))) (KO : ∀ {V : VV} {h : HP} {v : Int} {q : VV × Int}, kO V v = some q → Ok X (d + 7) 82 0 ([some (.inr (.inr (.inl 26))), some (.inr (.inr (.inl 27))), some (.inl v), none, none, none, none, none, none], [], mm V h) (fun M r => M = mm q.1 h ∧ r = some (.inr (.inl q.2)))) {V : VV} {h : HP} {v2 : Int} {v3 : Int} {z4 : Option AV} {z5 : Option AV} {z6 : Option AV} {z7 : Option AV} {z8 : Option AV} {q : VV × Int} (hf : f_Rate_one_15 26 27 100 kS kO V v2 v3 = some q) : Ok X (d + 8) 82 15 ([some (.inr (.inr (.inl 26))), some (.inr (.inr (.inl 27))), some (.inl v2), some (.inl v3), z4, z5, z6, z7, z8], [], mm V h) (fun M r => M = mm q.1 h ∧ r = some (.inr (.inl q.2))) := by
  let QQ : Mm → Option AV → Prop := fun M r => M = mm q.1 h ∧ r = some (.inr (.inl q.2))
  show Ok X (d + 8) 82 15 ([some (.inr (.inr (.inl 26))), some (.inr (.inr (.inl 27))), some (.inl v2), some (.inl v3), z4, z5, z6, z7, z8], [], mm V h) QQ
  refine ok_goto (L := [some (.inr (.inr (.inl 26))), some (.inr (.inr (.inl 27))), some (.inl v2), some (.inl v3), z4, z5, z6, z7, z8]) (S := [.inl 1]) (M := mm V h) rfl rfl ?_
  exact s_Rate_one_17_o26 KS KO hf
set_option maxRecDepth 20000 in
set_option maxHeartbeats 4000000 in
theorem s_Rate_one_o26 {X : Xs} {d : Nat} {kS kO : VV → Int → Option (VV × Int)} (KS : ∀ {V : VV} {h : HP} {v : Int} {q : VV × Int}, kS V v = some q → Ok X (d + 7) 80 0 ([some (.inr (.inr (.inl 26))), some (.inr (.inr (.inl 27))), some (.inl v), none, none, none], [], mm V h) (fun M r => M = mm q.1 h ∧ r = some (.inr (.inl q.2)))) (KO : ∀ {V : VV} {h : HP} {v : Int} {q : VV × Int}, kO V v = some q → Ok X (d + 7) 82 0 ([some (.inr (.inr (.inl 26))), some (.inr (.inr (.inl 27))), some (.inl v), none, none, none, none, none, none], [], mm V h) (fun M r => M = mm q.1 h ∧ r = some (.inr (.inl q.2)))) {V : VV} {h : HP} {v2 : Int} {q : VV × Int} (hf : f_Rate_one 26 27 100 kS kO V v2 = some q) : Ok X (d + 8) 82 0 ([some (.inr (.inr (.inl 26))), some (.inr (.inr (.inl 27))), some (.inl v2), none, none, none, none, none, none], [], mm V h) (fun M r => M = mm q.1 h ∧ r = some (.inr (.inl q.2))) := by
  let QQ : Mm → Option AV → Prop := fun M r => M = mm q.1 h ∧ r = some (.inr (.inl q.2))
  show Ok X (d + 8) 82 0 ([some (.inr (.inr (.inl 26))), some (.inr (.inr (.inl 27))), some (.inl v2), none, none, none, none, none, none], [], mm V h) QQ
  refine ok_ic_ne (x := V 26 2) (u := 2) (L := [some (.inr (.inr (.inl 26))), some (.inr (.inr (.inl 27))), some (.inl v2), none, none, none, none, none, none]) (S := []) (M := mm V h) rfl rfl (fun c1 => ?_) (fun c1 => ?_)
  ·
    replace hf := (if_neg c1).symm.trans hf
    refine ok_callA (L := [some (.inr (.inr (.inl 26))), some (.inr (.inr (.inl 27))), some (.inl v2), none, none, none, none, none, none]) (M := mm V h) (args := [.inr (.inr (.inl 27)), .inl 45]) (rest := []) (y2 := 71) rfl rfl rfl (Or.inl rfl) rfl rfl (Nat.le_of_ble_eq_true rfl) rfl rfl (Nat.le_of_ble_eq_true rfl) (Nat.le_of_ble_eq_true rfl) (s_Tape_isSign_o26 rfl) ?_
    rintro _ _ ⟨rfl, rfl, hz2⟩
    refine ok_if_eq (x := f_Tape_isSign 26 27 100 V 45) (L := [some (.inr (.inr (.inl 26))), some (.inr (.inr (.inl 27))), some (.inl v2), none, none, none, none, none, none]) (S := []) (M := mm V h) rfl rfl (fun c3 => ?_) (fun c3 => ?_)
    ·
      replace hf := (if_pos c3).symm.trans hf
      obtain ⟨q4, e4, hf⟩ := obind hf
      refine ok_callA (L := [some (.inr (.inr (.inl 26))), some (.inr (.inr (.inl 27))), some (.inl v2), none, none, none, none, none, none]) (M := mm V h) (args := [.inr (.inr (.inl 27)), .inr (.inr (.inr 17))]) (rest := []) (y2 := 59) rfl rfl rfl (Or.inl rfl) rfl rfl (Nat.le_of_ble_eq_true rfl) rfl rfl (Nat.le_of_ble_eq_true rfl) (Nat.le_of_ble_eq_true rfl) (s_Tape_isWord_o26w7 e4) ?_
      rintro _ _ ⟨rfl, rfl, hz4⟩
      refine ok_if_ne (x := q4) (L := [some (.inr (.inr (.inl 26))), some (.inr (.inr (.inl 27))), some (.inl v2), some (.inl q4), none, none, none, none, none]) (S := []) (M := mm V h) rfl rfl (fun c5 => ?_) (fun c5 => ?_)
      ·
        replace hf := (if_neg c5).symm.trans hf
        exact s_Rate_one_15_o26 KS KO hf
      ·
        replace hf := (if_pos c5).symm.trans hf
        obtain ⟨q6, e6, hf⟩ := obind hf
        refine ok_callA (L := [some (.inr (.inr (.inl 26))), some (.inr (.inr (.inl 27))), some (.inl v2), some (.inl q4), none, none, none, none, none]) (M := mm V h) (args := [.inr (.inr (.inl 27)), .inr (.inr (.inr 18))]) (rest := []) (y2 := 59) rfl rfl rfl (Or.inl rfl) rfl rfl (Nat.le_of_ble_eq_true rfl) rfl rfl (Nat.le_of_ble_eq_true rfl) (Nat.le_of_ble_eq_true rfl) (s_Tape_isWord_o26w8 e6) ?_
        rintro _ _ ⟨rfl, rfl, hz6⟩
        refine ok_if_eq (x := q6) (L := [some (.inr (.inr (.inl 26))), some (.inr (.inr (.inl 27))), some (.inl v2), some (.inl q4), none, none, none, none, none]) (S := []) (M := mm V h) rfl rfl (fun c7 => ?_) (fun c7 => ?_)
        ·
          replace hf := (if_pos c7).symm.trans hf
          refine ok_thru (L := [some (.inr (.inr (.inl 26))), some (.inr (.inr (.inl 27))), some (.inl v2), some (.inl q4), none, none, none, none, none]) (S := [.inl 0]) (M := mm V h) rfl rfl ?_
          exact s_Rate_one_17_o26 KS KO hf
        ·
          replace hf := (if_neg c7).symm.trans hf
          exact s_Rate_one_15_o26 KS KO hf
    ·
      replace hf := (if_neg c3).symm.trans hf
      obtain ⟨q8, e8, hf⟩ := obind hf
      refine ok_callA (L := [some (.inr (.inr (.inl 26))), some (.inr (.inr (.inl 27))), some (.inl v2), none, none, none, none, none, none]) (M := mm V h) (args := [.inr (.inr (.inl 26)), .inr (.inr (.inl 27)), .inl 45, .inl v2]) (rest := []) (y2 := 83) rfl rfl rfl (Or.inl rfl) rfl rfl (Nat.le_of_ble_eq_true rfl) rfl rfl (Nat.le_of_ble_eq_true rfl) (Nat.le_of_ble_eq_true rfl) (s_Rate_opens_o26 e8) ?_
      rintro _ _ ⟨rfl, rfl, hz8⟩
      refine ok_if_eq (x := q8.2) (L := [some (.inr (.inr (.inl 26))), some (.inr (.inr (.inl 27))), some (.inl v2), none, none, none, none, none, none]) (S := []) (M := mm q8.1 h) rfl rfl (fun c9 => ?_) (fun c9 => ?_)
      ·
        replace hf := (if_pos c9).symm.trans hf
        refine ok_thru (L := [some (.inr (.inr (.inl 26))), some (.inr (.inr (.inl 27))), some (.inl v2), none, none, none, none, none, none]) (S := [.inr (.inl 0)]) (M := mm q8.1 h) rfl rfl ?_
        obtain rfl := Option.some.inj hf
        refine ok_lreturn (L := [some (.inr (.inr (.inl 26))), some (.inr (.inr (.inl 27))), some (.inl v2), none, none, none, none, none, none]) (M := mm q8.1 h) (x := 0) rfl rfl ?_
        exact ⟨rfl, rfl⟩
      ·
        replace hf := (if_neg c9).symm.trans hf
        obtain ⟨q10, e10, hf⟩ := obind hf
        refine ok_callA (L := [some (.inr (.inr (.inl 26))), some (.inr (.inr (.inl 27))), some (.inl v2), none, none, none, none, none, none]) (M := mm q8.1 h) (args := [.inr (.inr (.inl 26)), .inr (.inr (.inl 27)), .inl (w32 (v2 + 1))]) (rest := []) (y2 := 82) rfl rfl rfl (Or.inl rfl) rfl rfl (Nat.le_of_ble_eq_true rfl) rfl rfl (Nat.le_of_ble_eq_true rfl) (Nat.le_of_ble_eq_true rfl) (KO e10) ?_
        rintro _ _ ⟨rfl, rfl⟩
        refine ok_goto (L := [some (.inr (.inr (.inl 26))), some (.inr (.inr (.inl 27))), some (.inl v2), none, none, none, none, none, none]) (S := [.inr (.inl (w64 (-q10.2)))]) (M := mm q10.1 h) rfl rfl ?_
        obtain rfl := Option.some.inj hf
        refine ok_lreturn (L := [some (.inr (.inr (.inl 26))), some (.inr (.inr (.inl 27))), some (.inl v2), none, none, none, none, none, none]) (M := mm q10.1 h) (x := w64 (-q10.2)) rfl rfl ?_
        exact ⟨rfl, rfl⟩
  ·
    replace hf := (if_pos c1).symm.trans hf
    obtain ⟨q11, e11, hf⟩ := obind hf
    refine ok_callA (L := [some (.inr (.inr (.inl 26))), some (.inr (.inr (.inl 27))), some (.inl v2), none, none, none, none, none, none]) (M := mm V h) (args := [.inr (.inr (.inl 27)), .inl 0, .inl 9999]) (rest := []) (y2 := 68) rfl rfl rfl (Or.inl rfl) rfl rfl (Nat.le_of_ble_eq_true rfl) rfl rfl (Nat.le_of_ble_eq_true rfl) (Nat.le_of_ble_eq_true rfl) (s_Tape_passNumber_o26 e11) ?_
    rintro _ _ ⟨rfl, rfl⟩
    obtain rfl := Option.some.inj hf
    refine ok_lreturn (L := [some (.inr (.inr (.inl 26))), some (.inr (.inr (.inl 27))), some (.inl v2), none, none, none, none, none, none]) (M := mm q11.1 h) (x := q11.2) rfl rfl ?_
    exact ⟨rfl, rfl⟩
def f_Rate_product_21 (o : Nat) (ob : Nat) (on : Nat) (kS kO : VV → Int → Option (VV × Int)) (V : VV) (v3 : Int) : Option (VV × Int) := some (V, v3)
def f_Rate_product_20 (o : Nat) (ob : Nat) (on : Nat) (kS kO : VV → Int → Option (VV × Int)) (k2 : VV → Int → Int → Int → (Option (VV × Int))) (V : VV) (v2 : Int) (v3 : Int) (v5 : Int) : Option (VV × Int) := k2 V v2 v3 (w32 (v5 + 1))
def f_Rate_product_18 (o : Nat) (ob : Nat) (on : Nat) (kS kO : VV → Int → Option (VV × Int)) (k2 : VV → Int → Int → Int → (Option (VV × Int))) (V : VV) (v2 : Int) (v5 : Int) (t0 : Int) : Option (VV × Int) := f_Rate_product_20 o ob on kS kO k2 V v2 t0 v5
def f_Rate_product_2 (o : Nat) (ob : Nat) (on : Nat) (kS kO : VV → Int → Option (VV × Int)) : Nat → VV → Int → Int → Int → (Option (VV × Int))
  | 0, _, _, _, _ => none
  | n + 1, V, v2, v3, v5 => if v5 < 100 then if (f_Tape_isSound o ob on V) = 0 then f_Rate_product_21 o ob on kS kO V v3 else if (f_Tape_isSign o ob on V 42) = 0 then if (f_Tape_isSign o ob on V 47) = 0 then some (V, v3) else Option.bind (f_Tape_next o ob on V) (fun q8 => Option.bind (f_Rate_one o ob on kS kO q8 v2) (fun q9 => if (lcmpI q9.2 0) = 0 then f_Rate_product_18 o ob on kS kO (f_Rate_product_2 o ob on kS kO n) q9.1 v2 v5 0 else if q9.2 = 0 then none else f_Rate_product_18 o ob on kS kO (f_Rate_product_2 o ob on kS kO n) q9.1 v2 v5 (w64 (Int.tdiv v3 q9.2)))) else Option.bind (f_Tape_next o ob on V) (fun q12 => Option.bind (f_Rate_one o ob on kS kO q12 v2) (fun q13 => f_Rate_product_20 o ob on kS kO (f_Rate_product_2 o ob on kS kO n) q13.1 v2 (f_Rate_held q13.1 (w64 (v3 * q13.2))) v5)) else f_Rate_product_21 o ob on kS kO V v3
def f_Rate_product (o : Nat) (ob : Nat) (on : Nat) (kS kO : VV → Int → Option (VV × Int)) (V : VV) (v2 : Int) : Option (VV × Int) := Option.bind (f_Rate_one o ob on kS kO V v2) (fun q1 => f_Rate_product_2 o ob on kS kO FU q1.1 v2 q1.2 0)
set_option maxRecDepth 20000 in
set_option maxHeartbeats 4000000 in
theorem s_Rate_product_21_o16 {X : Xs} {d : Nat} {kS kO : VV → Int → Option (VV × Int)} (KS : ∀ {V : VV} {h : HP} {v : Int} {q : VV × Int}, kS V v = some q → Ok X (d + 7) 80 0 ([some (.inr (.inr (.inl 26))), some (.inr (.inr (.inl 17))), some (.inl v), none, none, none], [], mm V h) (fun M r => M = mm q.1 h ∧ r = some (.inr (.inl q.2)))) (KO : ∀ {V : VV} {h : HP} {v : Int} {q : VV × Int}, kO V v = some q → Ok X (d + 7) 82 0 ([some (.inr (.inr (.inl 26))), some (.inr (.inr (.inl 17))), some (.inl v), none, none, none, none, none, none], [], mm V h) (fun M r => M = mm q.1 h ∧ r = some (.inr (.inl q.2)))) {V : VV} {h : HP} {v3 : Int} {w2 : Int} {w5 : Int} {z6 : Option AV} {z7 : Option AV} {q : VV × Int} (hf : f_Rate_product_21 16 17 400 kS kO V v3 = some q) : Ok X (d + 9) 81 21 ([some (.inr (.inr (.inl 26))), some (.inr (.inr (.inl 17))), some (.inl w2), some (.inr (.inl v3)), none, some (.inl w5), z6, z7], [], mm V h) (fun M r => M = mm q.1 h ∧ r = some (.inr (.inl q.2))) := by
  let QQ : Mm → Option AV → Prop := fun M r => M = mm q.1 h ∧ r = some (.inr (.inl q.2))
  show Ok X (d + 9) 81 21 ([some (.inr (.inr (.inl 26))), some (.inr (.inr (.inl 17))), some (.inl w2), some (.inr (.inl v3)), none, some (.inl w5), z6, z7], [], mm V h) QQ
  obtain rfl := Option.some.inj hf
  refine ok_lreturn (L := [some (.inr (.inr (.inl 26))), some (.inr (.inr (.inl 17))), some (.inl w2), some (.inr (.inl v3)), none, some (.inl w5), z6, z7]) (M := mm V h) (x := v3) rfl rfl ?_
  exact ⟨rfl, rfl⟩
set_option maxRecDepth 20000 in
set_option maxHeartbeats 4000000 in
theorem s_Rate_product_20_o16 {X : Xs} {d : Nat} {kS kO : VV → Int → Option (VV × Int)} (KS : ∀ {V : VV} {h : HP} {v : Int} {q : VV × Int}, kS V v = some q → Ok X (d + 7) 80 0 ([some (.inr (.inr (.inl 26))), some (.inr (.inr (.inl 17))), some (.inl v), none, none, none], [], mm V h) (fun M r => M = mm q.1 h ∧ r = some (.inr (.inl q.2)))) (KO : ∀ {V : VV} {h : HP} {v : Int} {q : VV × Int}, kO V v = some q → Ok X (d + 7) 82 0 ([some (.inr (.inr (.inl 26))), some (.inr (.inr (.inl 17))), some (.inl v), none, none, none, none, none, none], [], mm V h) (fun M r => M = mm q.1 h ∧ r = some (.inr (.inl q.2)))) {k2 : VV → Int → Int → Int → (Option (VV × Int))} {V : VV} {h : HP} {v2 : Int} {v3 : Int} {v5 : Int} {z6 : Option AV} {z7 : Option AV} {q : VV × Int} (hf : f_Rate_product_20 16 17 400 kS kO k2 V v2 v3 v5 = some q) (K2 : ∀ (V : VV) (v2 : Int) (v3 : Int) (v5 : Int) (z6 : Option AV) (z7 : Option AV), k2 V v2 v3 v5 = some q → Ok X (d + 9) 81 2 ([some (.inr (.inr (.inl 26))), some (.inr (.inr (.inl 17))), some (.inl v2), some (.inr (.inl v3)), none, some (.inl v5), z6, z7], [], mm V h) (fun M r => M = mm q.1 h ∧ r = some (.inr (.inl q.2)))) : Ok X (d + 9) 81 20 ([some (.inr (.inr (.inl 26))), some (.inr (.inr (.inl 17))), some (.inl v2), some (.inr (.inl v3)), none, some (.inl v5), z6, z7], [], mm V h) (fun M r => M = mm q.1 h ∧ r = some (.inr (.inl q.2))) := by
  let QQ : Mm → Option AV → Prop := fun M r => M = mm q.1 h ∧ r = some (.inr (.inl q.2))
  show Ok X (d + 9) 81 20 ([some (.inr (.inr (.inl 26))), some (.inr (.inr (.inl 17))), some (.inl v2), some (.inr (.inl v3)), none, some (.inl v5), z6, z7], [], mm V h) QQ
  refine ok_goto (L := [some (.inr (.inr (.inl 26))), some (.inr (.inr (.inl 17))), some (.inl v2), some (.inr (.inl v3)), none, some (.inl (w32 (v5 + 1))), z6, z7]) (S := []) (M := mm V h) rfl rfl ?_
  exact K2 V v2 v3 (w32 (v5 + 1)) z6 z7 hf
set_option maxRecDepth 20000 in
set_option maxHeartbeats 4000000 in
theorem s_Rate_product_18_o16 {X : Xs} {d : Nat} {kS kO : VV → Int → Option (VV × Int)} (KS : ∀ {V : VV} {h : HP} {v : Int} {q : VV × Int}, kS V v = some q → Ok X (d + 7) 80 0 ([some (.inr (.inr (.inl 26))), some (.inr (.inr (.inl 17))), some (.inl v), none, none, none], [], mm V h) (fun M r => M = mm q.1 h ∧ r = some (.inr (.inl q.2)))) (KO : ∀ {V : VV} {h : HP} {v : Int} {q : VV × Int}, kO V v = some q → Ok X (d + 7) 82 0 ([some (.inr (.inr (.inl 26))), some (.inr (.inr (.inl 17))), some (.inl v), none, none, none, none, none, none], [], mm V h) (fun M r => M = mm q.1 h ∧ r = some (.inr (.inl q.2)))) {k2 : VV → Int → Int → Int → (Option (VV × Int))} {V : VV} {h : HP} {v2 : Int} {v5 : Int} {t0 : Int} {w3 : Int} {w6 : Int} {q : VV × Int} (hf : f_Rate_product_18 16 17 400 kS kO k2 V v2 v5 t0 = some q) (K2 : ∀ (V : VV) (v2 : Int) (v3 : Int) (v5 : Int) (z6 : Option AV) (z7 : Option AV), k2 V v2 v3 v5 = some q → Ok X (d + 9) 81 2 ([some (.inr (.inr (.inl 26))), some (.inr (.inr (.inl 17))), some (.inl v2), some (.inr (.inl v3)), none, some (.inl v5), z6, z7], [], mm V h) (fun M r => M = mm q.1 h ∧ r = some (.inr (.inl q.2)))) : Ok X (d + 9) 81 18 ([some (.inr (.inr (.inl 26))), some (.inr (.inr (.inl 17))), some (.inl v2), some (.inr (.inl w3)), none, some (.inl v5), some (.inr (.inl w6)), none], [.inr (.inl t0)], mm V h) (fun M r => M = mm q.1 h ∧ r = some (.inr (.inl q.2))) := by
  let QQ : Mm → Option AV → Prop := fun M r => M = mm q.1 h ∧ r = some (.inr (.inl q.2))
  show Ok X (d + 9) 81 18 ([some (.inr (.inr (.inl 26))), some (.inr (.inr (.inl 17))), some (.inl v2), some (.inr (.inl w3)), none, some (.inl v5), some (.inr (.inl w6)), none], [.inr (.inl t0)], mm V h) QQ
  refine ok_goto (L := [some (.inr (.inr (.inl 26))), some (.inr (.inr (.inl 17))), some (.inl v2), some (.inr (.inl t0)), none, some (.inl v5), some (.inr (.inl w6)), none]) (S := []) (M := mm V h) rfl rfl ?_
  exact s_Rate_product_20_o16 KS KO hf K2
set_option maxRecDepth 20000 in
set_option maxHeartbeats 4000000 in
theorem s_Rate_product_2_o16_n {X : Xs} {d : Nat} {kS kO : VV → Int → Option (VV × Int)} (KS : ∀ {V : VV} {h : HP} {v : Int} {q : VV × Int}, kS V v = some q → Ok X (d + 7) 80 0 ([some (.inr (.inr (.inl 26))), some (.inr (.inr (.inl 17))), some (.inl v), none, none, none], [], mm V h) (fun M r => M = mm q.1 h ∧ r = some (.inr (.inl q.2)))) (KO : ∀ {V : VV} {h : HP} {v : Int} {q : VV × Int}, kO V v = some q → Ok X (d + 7) 82 0 ([some (.inr (.inr (.inl 26))), some (.inr (.inr (.inl 17))), some (.inl v), none, none, none, none, none, none], [], mm V h) (fun M r => M = mm q.1 h ∧ r = some (.inr (.inl q.2)))) {h : HP} {q : VV × Int} : ∀ (n : Nat) (V : VV) (v2 : Int) (v3 : Int) (v5 : Int) (z6 : Option AV) (z7 : Option AV), f_Rate_product_2 16 17 400 kS kO n V v2 v3 v5 = some q → Ok X (d + 9) 81 2 ([some (.inr (.inr (.inl 26))), some (.inr (.inr (.inl 17))), some (.inl v2), some (.inr (.inl v3)), none, some (.inl v5), z6, z7], [], mm V h) (fun M r => M = mm q.1 h ∧ r = some (.inr (.inl q.2))) := by
  intro n
  induction n with
  | zero => intro V v2 v3 v5 z6 z7 hf; cases hf
  | succ n ih =>
    intro V v2 v3 v5 z6 z7 hf
    let QQ : Mm → Option AV → Prop := fun M r => M = mm q.1 h ∧ r = some (.inr (.inl q.2))
    show Ok X (d + 9) 81 2 ([some (.inr (.inr (.inl 26))), some (.inr (.inr (.inl 17))), some (.inl v2), some (.inr (.inl v3)), none, some (.inl v5), z6, z7], [], mm V h) QQ
    refine ok_ic_ge (x := v5) (u := 100) (L := [some (.inr (.inr (.inl 26))), some (.inr (.inr (.inl 17))), some (.inl v2), some (.inr (.inl v3)), none, some (.inl v5), z6, z7]) (S := []) (M := mm V h) rfl rfl (fun c1 => ?_) (fun c1 => ?_)
    ·
      replace hf := (if_neg (Int.not_lt.mpr c1)).symm.trans hf
      exact s_Rate_product_21_o16 KS KO hf
    ·
      replace hf := (if_pos c1).symm.trans hf
      refine ok_callA (L := [some (.inr (.inr (.inl 26))), some (.inr (.inr (.inl 17))), some (.inl v2), some (.inr (.inl v3)), none, some (.inl v5), z6, z7]) (M := mm V h) (args := [.inr (.inr (.inl 17))]) (rest := []) (y2 := 56) rfl rfl rfl (Or.inl rfl) rfl rfl (Nat.le_of_ble_eq_true rfl) rfl rfl (Nat.le_of_ble_eq_true rfl) (Nat.le_of_ble_eq_true rfl) (s_Tape_isSound_o16 rfl) ?_
      rintro _ _ ⟨rfl, rfl, hz2⟩
      refine ok_if_eq (x := f_Tape_isSound 16 17 400 V) (L := [some (.inr (.inr (.inl 26))), some (.inr (.inr (.inl 17))), some (.inl v2), some (.inr (.inl v3)), none, some (.inl v5), z6, z7]) (S := []) (M := mm V h) rfl rfl (fun c3 => ?_) (fun c3 => ?_)
      ·
        replace hf := (if_pos c3).symm.trans hf
        exact s_Rate_product_21_o16 KS KO hf
      ·
        replace hf := (if_neg c3).symm.trans hf
        refine ok_callA (L := [some (.inr (.inr (.inl 26))), some (.inr (.inr (.inl 17))), some (.inl v2), some (.inr (.inl v3)), none, some (.inl v5), z6, z7]) (M := mm V h) (args := [.inr (.inr (.inl 17)), .inl 42]) (rest := []) (y2 := 71) rfl rfl rfl (Or.inl rfl) rfl rfl (Nat.le_of_ble_eq_true rfl) rfl rfl (Nat.le_of_ble_eq_true rfl) (Nat.le_of_ble_eq_true rfl) (s_Tape_isSign_o16 rfl) ?_
        rintro _ _ ⟨rfl, rfl, hz4⟩
        refine ok_if_eq (x := f_Tape_isSign 16 17 400 V 42) (L := [some (.inr (.inr (.inl 26))), some (.inr (.inr (.inl 17))), some (.inl v2), some (.inr (.inl v3)), none, some (.inl v5), z6, z7]) (S := []) (M := mm V h) rfl rfl (fun c5 => ?_) (fun c5 => ?_)
        ·
          replace hf := (if_pos c5).symm.trans hf
          refine ok_callA (L := [some (.inr (.inr (.inl 26))), some (.inr (.inr (.inl 17))), some (.inl v2), some (.inr (.inl v3)), none, some (.inl v5), z6, z7]) (M := mm V h) (args := [.inr (.inr (.inl 17)), .inl 47]) (rest := []) (y2 := 71) rfl rfl rfl (Or.inl rfl) rfl rfl (Nat.le_of_ble_eq_true rfl) rfl rfl (Nat.le_of_ble_eq_true rfl) (Nat.le_of_ble_eq_true rfl) (s_Tape_isSign_o16 rfl) ?_
          rintro _ _ ⟨rfl, rfl, hz6⟩
          refine ok_if_eq (x := f_Tape_isSign 16 17 400 V 47) (L := [some (.inr (.inr (.inl 26))), some (.inr (.inr (.inl 17))), some (.inl v2), some (.inr (.inl v3)), none, some (.inl v5), z6, z7]) (S := []) (M := mm V h) rfl rfl (fun c7 => ?_) (fun c7 => ?_)
          ·
            replace hf := (if_pos c7).symm.trans hf
            obtain rfl := Option.some.inj hf
            refine ok_lreturn (L := [some (.inr (.inr (.inl 26))), some (.inr (.inr (.inl 17))), some (.inl v2), some (.inr (.inl v3)), none, some (.inl v5), z6, z7]) (M := mm V h) (x := v3) rfl rfl ?_
            exact ⟨rfl, rfl⟩
          ·
            replace hf := (if_neg c7).symm.trans hf
            obtain ⟨q8, e8, hf⟩ := obind hf
            refine ok_callA (L := [some (.inr (.inr (.inl 26))), some (.inr (.inr (.inl 17))), some (.inl v2), some (.inr (.inl v3)), none, some (.inl v5), z6, z7]) (M := mm V h) (args := [.inr (.inr (.inl 17))]) (rest := []) (y2 := 52) rfl rfl rfl (Or.inl rfl) rfl rfl (Nat.le_of_ble_eq_true rfl) rfl rfl (Nat.le_of_ble_eq_true rfl) (Nat.le_of_ble_eq_true rfl) (s_Tape_next_o16 e8) ?_
            rintro _ _ ⟨rfl, rfl⟩
            obtain ⟨q9, e9, hf⟩ := obind hf
            refine ok_callA (L := [some (.inr (.inr (.inl 26))), some (.inr (.inr (.inl 17))), some (.inl v2), some (.inr (.inl v3)), none, some (.inl v5), z6, z7]) (M := mm q8 h) (args := [.inr (.inr (.inl 26)), .inr (.inr (.inl 17)), .inl v2]) (rest := []) (y2 := 82) rfl rfl rfl (Or.inl rfl) rfl rfl (Nat.le_of_ble_eq_true rfl) rfl rfl (Nat.le_of_ble_eq_true rfl) (Nat.le_of_ble_eq_true rfl) (s_Rate_one_o16 KS KO e9) ?_
            rintro _ _ ⟨rfl, rfl⟩
            refine ok_if_ne (x := lcmpI q9.2 0) (L := [some (.inr (.inr (.inl 26))), some (.inr (.inr (.inl 17))), some (.inl v2), some (.inr (.inl v3)), none, some (.inl v5), some (.inr (.inl q9.2)), none]) (S := []) (M := mm q9.1 h) rfl rfl (fun c10 => ?_) (fun c10 => ?_)
            ·
              replace hf := (if_neg c10).symm.trans hf
              by_cases c11 : q9.2 = 0
              case pos => replace hf := (if_pos c11).symm.trans hf; cases hf
              replace hf := (if_neg c11).symm.trans hf
              refine ok_ldiv (u := v3) (v := q9.2) (L := [some (.inr (.inr (.inl 26))), some (.inr (.inr (.inl 17))), some (.inl v2), some (.inr (.inl v3)), none, some (.inl v5), some (.inr (.inl q9.2)), none]) (S := []) (M := mm q9.1 h) rfl rfl c11 ?_
              exact s_Rate_product_18_o16 KS KO hf ih
            ·
              replace hf := (if_pos c10).symm.trans hf
              refine ok_goto (L := [some (.inr (.inr (.inl 26))), some (.inr (.inr (.inl 17))), some (.inl v2), some (.inr (.inl v3)), none, some (.inl v5), some (.inr (.inl q9.2)), none]) (S := [.inr (.inl 0)]) (M := mm q9.1 h) rfl rfl ?_
              exact s_Rate_product_18_o16 KS KO hf ih
        ·
          replace hf := (if_neg c5).symm.trans hf
          obtain ⟨q12, e12, hf⟩ := obind hf
          refine ok_callA (L := [some (.inr (.inr (.inl 26))), some (.inr (.inr (.inl 17))), some (.inl v2), some (.inr (.inl v3)), none, some (.inl v5), z6, z7]) (M := mm V h) (args := [.inr (.inr (.inl 17))]) (rest := []) (y2 := 52) rfl rfl rfl (Or.inl rfl) rfl rfl (Nat.le_of_ble_eq_true rfl) rfl rfl (Nat.le_of_ble_eq_true rfl) (Nat.le_of_ble_eq_true rfl) (s_Tape_next_o16 e12) ?_
          rintro _ _ ⟨rfl, rfl⟩
          obtain ⟨q13, e13, hf⟩ := obind hf
          refine ok_callA (L := [some (.inr (.inr (.inl 26))), some (.inr (.inr (.inl 17))), some (.inl v2), some (.inr (.inl v3)), none, some (.inl v5), z6, z7]) (M := mm q12 h) (args := [.inr (.inr (.inl 26)), .inr (.inr (.inl 17)), .inl v2]) (rest := [.inr (.inl v3)]) (y2 := 82) rfl rfl rfl (Or.inl rfl) rfl rfl (Nat.le_of_ble_eq_true rfl) rfl rfl (Nat.le_of_ble_eq_true rfl) (Nat.le_of_ble_eq_true rfl) (s_Rate_one_o16 KS KO e13) ?_
          rintro _ _ ⟨rfl, rfl⟩
          refine ok_callA (L := [some (.inr (.inr (.inl 26))), some (.inr (.inr (.inl 17))), some (.inl v2), some (.inr (.inl v3)), none, some (.inl v5), z6, z7]) (M := mm q13.1 h) (args := [.inr (.inl (w64 (v3 * q13.2)))]) (rest := []) (y2 := 85) rfl rfl rfl (Or.inr (Or.inl rfl)) rfl rfl (Nat.le_of_ble_eq_true rfl) rfl rfl (Nat.le_of_ble_eq_true rfl) (Nat.le_of_ble_eq_true rfl) (s_Rate_held rfl) ?_
          rintro _ _ ⟨rfl, rfl⟩
          refine ok_goto (L := [some (.inr (.inr (.inl 26))), some (.inr (.inr (.inl 17))), some (.inl v2), some (.inr (.inl (f_Rate_held q13.1 (w64 (v3 * q13.2))))), none, some (.inl v5), z6, z7]) (S := []) (M := mm q13.1 h) rfl rfl ?_
          exact s_Rate_product_20_o16 KS KO hf ih
theorem s_Rate_product_2_o16 {X : Xs} {d : Nat} {kS kO : VV → Int → Option (VV × Int)} (KS : ∀ {V : VV} {h : HP} {v : Int} {q : VV × Int}, kS V v = some q → Ok X (d + 7) 80 0 ([some (.inr (.inr (.inl 26))), some (.inr (.inr (.inl 17))), some (.inl v), none, none, none], [], mm V h) (fun M r => M = mm q.1 h ∧ r = some (.inr (.inl q.2)))) (KO : ∀ {V : VV} {h : HP} {v : Int} {q : VV × Int}, kO V v = some q → Ok X (d + 7) 82 0 ([some (.inr (.inr (.inl 26))), some (.inr (.inr (.inl 17))), some (.inl v), none, none, none, none, none, none], [], mm V h) (fun M r => M = mm q.1 h ∧ r = some (.inr (.inl q.2)))) {h : HP} {V : VV} {v2 : Int} {v3 : Int} {v5 : Int} {z6 : Option AV} {z7 : Option AV} {n : Nat} {q : VV × Int} (hf : f_Rate_product_2 16 17 400 kS kO n V v2 v3 v5 = some q) : Ok X (d + 9) 81 2 ([some (.inr (.inr (.inl 26))), some (.inr (.inr (.inl 17))), some (.inl v2), some (.inr (.inl v3)), none, some (.inl v5), z6, z7], [], mm V h) (fun M r => M = mm q.1 h ∧ r = some (.inr (.inl q.2))) :=
  s_Rate_product_2_o16_n KS KO n V v2 v3 v5 z6 z7 hf
set_option maxRecDepth 20000 in
set_option maxHeartbeats 4000000 in
theorem s_Rate_product_o16 {X : Xs} {d : Nat} {kS kO : VV → Int → Option (VV × Int)} (KS : ∀ {V : VV} {h : HP} {v : Int} {q : VV × Int}, kS V v = some q → Ok X (d + 7) 80 0 ([some (.inr (.inr (.inl 26))), some (.inr (.inr (.inl 17))), some (.inl v), none, none, none], [], mm V h) (fun M r => M = mm q.1 h ∧ r = some (.inr (.inl q.2)))) (KO : ∀ {V : VV} {h : HP} {v : Int} {q : VV × Int}, kO V v = some q → Ok X (d + 7) 82 0 ([some (.inr (.inr (.inl 26))), some (.inr (.inr (.inl 17))), some (.inl v), none, none, none, none, none, none], [], mm V h) (fun M r => M = mm q.1 h ∧ r = some (.inr (.inl q.2)))) {V : VV} {h : HP} {v2 : Int} {q : VV × Int} (hf : f_Rate_product 16 17 400 kS kO V v2 = some q) : Ok X (d + 9) 81 0 ([some (.inr (.inr (.inl 26))), some (.inr (.inr (.inl 17))), some (.inl v2), none, none, none, none, none], [], mm V h) (fun M r => M = mm q.1 h ∧ r = some (.inr (.inl q.2))) := by
  let QQ : Mm → Option AV → Prop := fun M r => M = mm q.1 h ∧ r = some (.inr (.inl q.2))
  show Ok X (d + 9) 81 0 ([some (.inr (.inr (.inl 26))), some (.inr (.inr (.inl 17))), some (.inl v2), none, none, none, none, none], [], mm V h) QQ
  obtain ⟨q1, e1, hf⟩ := obind hf
  refine ok_callA (L := [some (.inr (.inr (.inl 26))), some (.inr (.inr (.inl 17))), some (.inl v2), none, none, none, none, none]) (M := mm V h) (args := [.inr (.inr (.inl 26)), .inr (.inr (.inl 17)), .inl v2]) (rest := []) (y2 := 82) rfl rfl rfl (Or.inl rfl) rfl rfl (Nat.le_of_ble_eq_true rfl) rfl rfl (Nat.le_of_ble_eq_true rfl) (Nat.le_of_ble_eq_true rfl) (s_Rate_one_o16 KS KO e1) ?_
  rintro _ _ ⟨rfl, rfl⟩
  refine ok_thru (L := [some (.inr (.inr (.inl 26))), some (.inr (.inr (.inl 17))), some (.inl v2), some (.inr (.inl q1.2)), none, some (.inl 0), none, none]) (S := []) (M := mm q1.1 h) rfl rfl ?_
  exact s_Rate_product_2_o16 KS KO hf
set_option maxRecDepth 20000 in
set_option maxHeartbeats 4000000 in
theorem s_Rate_product_21_o26 {X : Xs} {d : Nat} {kS kO : VV → Int → Option (VV × Int)} (KS : ∀ {V : VV} {h : HP} {v : Int} {q : VV × Int}, kS V v = some q → Ok X (d + 7) 80 0 ([some (.inr (.inr (.inl 26))), some (.inr (.inr (.inl 27))), some (.inl v), none, none, none], [], mm V h) (fun M r => M = mm q.1 h ∧ r = some (.inr (.inl q.2)))) (KO : ∀ {V : VV} {h : HP} {v : Int} {q : VV × Int}, kO V v = some q → Ok X (d + 7) 82 0 ([some (.inr (.inr (.inl 26))), some (.inr (.inr (.inl 27))), some (.inl v), none, none, none, none, none, none], [], mm V h) (fun M r => M = mm q.1 h ∧ r = some (.inr (.inl q.2)))) {V : VV} {h : HP} {v3 : Int} {w2 : Int} {w5 : Int} {z6 : Option AV} {z7 : Option AV} {q : VV × Int} (hf : f_Rate_product_21 26 27 100 kS kO V v3 = some q) : Ok X (d + 9) 81 21 ([some (.inr (.inr (.inl 26))), some (.inr (.inr (.inl 27))), some (.inl w2), some (.inr (.inl v3)), none, some (.inl w5), z6, z7], [], mm V h) (fun M r => M = mm q.1 h ∧ r = some (.inr (.inl q.2))) := by
  let QQ : Mm → Option AV → Prop := fun M r => M = mm q.1 h ∧ r = some (.inr (.inl q.2))
  show Ok X (d + 9) 81 21 ([some (.inr (.inr (.inl 26))), some (.inr (.inr (.inl 27))), some (.inl w2), some (.inr (.inl v3)), none, some (.inl w5), z6, z7], [], mm V h) QQ
  obtain rfl := Option.some.inj hf
  refine ok_lreturn (L := [some (.inr (.inr (.inl 26))), some (.inr (.inr (.inl 27))), some (.inl w2), some (.inr (.inl v3)), none, some (.inl w5), z6, z7]) (M := mm V h) (x := v3) rfl rfl ?_
  exact ⟨rfl, rfl⟩
set_option maxRecDepth 20000 in
set_option maxHeartbeats 4000000 in
theorem s_Rate_product_20_o26 {X : Xs} {d : Nat} {kS kO : VV → Int → Option (VV × Int)} (KS : ∀ {V : VV} {h : HP} {v : Int} {q : VV × Int}, kS V v = some q → Ok X (d + 7) 80 0 ([some (.inr (.inr (.inl 26))), some (.inr (.inr (.inl 27))), some (.inl v), none, none, none], [], mm V h) (fun M r => M = mm q.1 h ∧ r = some (.inr (.inl q.2)))) (KO : ∀ {V : VV} {h : HP} {v : Int} {q : VV × Int}, kO V v = some q → Ok X (d + 7) 82 0 ([some (.inr (.inr (.inl 26))), some (.inr (.inr (.inl 27))), some (.inl v), none, none, none, none, none, none], [], mm V h) (fun M r => M = mm q.1 h ∧ r = some (.inr (.inl q.2)))) {k2 : VV → Int → Int → Int → (Option (VV × Int))} {V : VV} {h : HP} {v2 : Int} {v3 : Int} {v5 : Int} {z6 : Option AV} {z7 : Option AV} {q : VV × Int} (hf : f_Rate_product_20 26 27 100 kS kO k2 V v2 v3 v5 = some q) (K2 : ∀ (V : VV) (v2 : Int) (v3 : Int) (v5 : Int) (z6 : Option AV) (z7 : Option AV), k2 V v2 v3 v5 = some q → Ok X (d + 9) 81 2 ([some (.inr (.inr (.inl 26))), some (.inr (.inr (.inl 27))), some (.inl v2), some (.inr (.inl v3)), none, some (.inl v5), z6, z7], [], mm V h) (fun M r => M = mm q.1 h ∧ r = some (.inr (.inl q.2)))) : Ok X (d + 9) 81 20 ([some (.inr (.inr (.inl 26))), some (.inr (.inr (.inl 27))), some (.inl v2), some (.inr (.inl v3)), none, some (.inl v5), z6, z7], [], mm V h) (fun M r => M = mm q.1 h ∧ r = some (.inr (.inl q.2))) := by
  let QQ : Mm → Option AV → Prop := fun M r => M = mm q.1 h ∧ r = some (.inr (.inl q.2))
  show Ok X (d + 9) 81 20 ([some (.inr (.inr (.inl 26))), some (.inr (.inr (.inl 27))), some (.inl v2), some (.inr (.inl v3)), none, some (.inl v5), z6, z7], [], mm V h) QQ
  refine ok_goto (L := [some (.inr (.inr (.inl 26))), some (.inr (.inr (.inl 27))), some (.inl v2), some (.inr (.inl v3)), none, some (.inl (w32 (v5 + 1))), z6, z7]) (S := []) (M := mm V h) rfl rfl ?_
  exact K2 V v2 v3 (w32 (v5 + 1)) z6 z7 hf
set_option maxRecDepth 20000 in
set_option maxHeartbeats 4000000 in
theorem s_Rate_product_18_o26 {X : Xs} {d : Nat} {kS kO : VV → Int → Option (VV × Int)} (KS : ∀ {V : VV} {h : HP} {v : Int} {q : VV × Int}, kS V v = some q → Ok X (d + 7) 80 0 ([some (.inr (.inr (.inl 26))), some (.inr (.inr (.inl 27))), some (.inl v), none, none, none], [], mm V h) (fun M r => M = mm q.1 h ∧ r = some (.inr (.inl q.2)))) (KO : ∀ {V : VV} {h : HP} {v : Int} {q : VV × Int}, kO V v = some q → Ok X (d + 7) 82 0 ([some (.inr (.inr (.inl 26))), some (.inr (.inr (.inl 27))), some (.inl v), none, none, none, none, none, none], [], mm V h) (fun M r => M = mm q.1 h ∧ r = some (.inr (.inl q.2)))) {k2 : VV → Int → Int → Int → (Option (VV × Int))} {V : VV} {h : HP} {v2 : Int} {v5 : Int} {t0 : Int} {w3 : Int} {w6 : Int} {q : VV × Int} (hf : f_Rate_product_18 26 27 100 kS kO k2 V v2 v5 t0 = some q) (K2 : ∀ (V : VV) (v2 : Int) (v3 : Int) (v5 : Int) (z6 : Option AV) (z7 : Option AV), k2 V v2 v3 v5 = some q → Ok X (d + 9) 81 2 ([some (.inr (.inr (.inl 26))), some (.inr (.inr (.inl 27))), some (.inl v2), some (.inr (.inl v3)), none, some (.inl v5), z6, z7], [], mm V h) (fun M r => M = mm q.1 h ∧ r = some (.inr (.inl q.2)))) : Ok X (d + 9) 81 18 ([some (.inr (.inr (.inl 26))), some (.inr (.inr (.inl 27))), some (.inl v2), some (.inr (.inl w3)), none, some (.inl v5), some (.inr (.inl w6)), none], [.inr (.inl t0)], mm V h) (fun M r => M = mm q.1 h ∧ r = some (.inr (.inl q.2))) := by
  let QQ : Mm → Option AV → Prop := fun M r => M = mm q.1 h ∧ r = some (.inr (.inl q.2))
  show Ok X (d + 9) 81 18 ([some (.inr (.inr (.inl 26))), some (.inr (.inr (.inl 27))), some (.inl v2), some (.inr (.inl w3)), none, some (.inl v5), some (.inr (.inl w6)), none], [.inr (.inl t0)], mm V h) QQ
  refine ok_goto (L := [some (.inr (.inr (.inl 26))), some (.inr (.inr (.inl 27))), some (.inl v2), some (.inr (.inl t0)), none, some (.inl v5), some (.inr (.inl w6)), none]) (S := []) (M := mm V h) rfl rfl ?_
  exact s_Rate_product_20_o26 KS KO hf K2
set_option maxRecDepth 20000 in
set_option maxHeartbeats 4000000 in
theorem s_Rate_product_2_o26_n {X : Xs} {d : Nat} {kS kO : VV → Int → Option (VV × Int)} (KS : ∀ {V : VV} {h : HP} {v : Int} {q : VV × Int}, kS V v = some q → Ok X (d + 7) 80 0 ([some (.inr (.inr (.inl 26))), some (.inr (.inr (.inl 27))), some (.inl v), none, none, none], [], mm V h) (fun M r => M = mm q.1 h ∧ r = some (.inr (.inl q.2)))) (KO : ∀ {V : VV} {h : HP} {v : Int} {q : VV × Int}, kO V v = some q → Ok X (d + 7) 82 0 ([some (.inr (.inr (.inl 26))), some (.inr (.inr (.inl 27))), some (.inl v), none, none, none, none, none, none], [], mm V h) (fun M r => M = mm q.1 h ∧ r = some (.inr (.inl q.2)))) {h : HP} {q : VV × Int} : ∀ (n : Nat) (V : VV) (v2 : Int) (v3 : Int) (v5 : Int) (z6 : Option AV) (z7 : Option AV), f_Rate_product_2 26 27 100 kS kO n V v2 v3 v5 = some q → Ok X (d + 9) 81 2 ([some (.inr (.inr (.inl 26))), some (.inr (.inr (.inl 27))), some (.inl v2), some (.inr (.inl v3)), none, some (.inl v5), z6, z7], [], mm V h) (fun M r => M = mm q.1 h ∧ r = some (.inr (.inl q.2))) := by
  intro n
  induction n with
  | zero => intro V v2 v3 v5 z6 z7 hf; cases hf
  | succ n ih =>
    intro V v2 v3 v5 z6 z7 hf
    let QQ : Mm → Option AV → Prop := fun M r => M = mm q.1 h ∧ r = some (.inr (.inl q.2))
    show Ok X (d + 9) 81 2 ([some (.inr (.inr (.inl 26))), some (.inr (.inr (.inl 27))), some (.inl v2), some (.inr (.inl v3)), none, some (.inl v5), z6, z7], [], mm V h) QQ
    refine ok_ic_ge (x := v5) (u := 100) (L := [some (.inr (.inr (.inl 26))), some (.inr (.inr (.inl 27))), some (.inl v2), some (.inr (.inl v3)), none, some (.inl v5), z6, z7]) (S := []) (M := mm V h) rfl rfl (fun c1 => ?_) (fun c1 => ?_)
    ·
      replace hf := (if_neg (Int.not_lt.mpr c1)).symm.trans hf
      exact s_Rate_product_21_o26 KS KO hf
    ·
      replace hf := (if_pos c1).symm.trans hf
      refine ok_callA (L := [some (.inr (.inr (.inl 26))), some (.inr (.inr (.inl 27))), some (.inl v2), some (.inr (.inl v3)), none, some (.inl v5), z6, z7]) (M := mm V h) (args := [.inr (.inr (.inl 27))]) (rest := []) (y2 := 56) rfl rfl rfl (Or.inl rfl) rfl rfl (Nat.le_of_ble_eq_true rfl) rfl rfl (Nat.le_of_ble_eq_true rfl) (Nat.le_of_ble_eq_true rfl) (s_Tape_isSound_o26 rfl) ?_
      rintro _ _ ⟨rfl, rfl, hz2⟩
      refine ok_if_eq (x := f_Tape_isSound 26 27 100 V) (L := [some (.inr (.inr (.inl 26))), some (.inr (.inr (.inl 27))), some (.inl v2), some (.inr (.inl v3)), none, some (.inl v5), z6, z7]) (S := []) (M := mm V h) rfl rfl (fun c3 => ?_) (fun c3 => ?_)
      ·
        replace hf := (if_pos c3).symm.trans hf
        exact s_Rate_product_21_o26 KS KO hf
      ·
        replace hf := (if_neg c3).symm.trans hf
        refine ok_callA (L := [some (.inr (.inr (.inl 26))), some (.inr (.inr (.inl 27))), some (.inl v2), some (.inr (.inl v3)), none, some (.inl v5), z6, z7]) (M := mm V h) (args := [.inr (.inr (.inl 27)), .inl 42]) (rest := []) (y2 := 71) rfl rfl rfl (Or.inl rfl) rfl rfl (Nat.le_of_ble_eq_true rfl) rfl rfl (Nat.le_of_ble_eq_true rfl) (Nat.le_of_ble_eq_true rfl) (s_Tape_isSign_o26 rfl) ?_
        rintro _ _ ⟨rfl, rfl, hz4⟩
        refine ok_if_eq (x := f_Tape_isSign 26 27 100 V 42) (L := [some (.inr (.inr (.inl 26))), some (.inr (.inr (.inl 27))), some (.inl v2), some (.inr (.inl v3)), none, some (.inl v5), z6, z7]) (S := []) (M := mm V h) rfl rfl (fun c5 => ?_) (fun c5 => ?_)
        ·
          replace hf := (if_pos c5).symm.trans hf
          refine ok_callA (L := [some (.inr (.inr (.inl 26))), some (.inr (.inr (.inl 27))), some (.inl v2), some (.inr (.inl v3)), none, some (.inl v5), z6, z7]) (M := mm V h) (args := [.inr (.inr (.inl 27)), .inl 47]) (rest := []) (y2 := 71) rfl rfl rfl (Or.inl rfl) rfl rfl (Nat.le_of_ble_eq_true rfl) rfl rfl (Nat.le_of_ble_eq_true rfl) (Nat.le_of_ble_eq_true rfl) (s_Tape_isSign_o26 rfl) ?_
          rintro _ _ ⟨rfl, rfl, hz6⟩
          refine ok_if_eq (x := f_Tape_isSign 26 27 100 V 47) (L := [some (.inr (.inr (.inl 26))), some (.inr (.inr (.inl 27))), some (.inl v2), some (.inr (.inl v3)), none, some (.inl v5), z6, z7]) (S := []) (M := mm V h) rfl rfl (fun c7 => ?_) (fun c7 => ?_)
          ·
            replace hf := (if_pos c7).symm.trans hf
            obtain rfl := Option.some.inj hf
            refine ok_lreturn (L := [some (.inr (.inr (.inl 26))), some (.inr (.inr (.inl 27))), some (.inl v2), some (.inr (.inl v3)), none, some (.inl v5), z6, z7]) (M := mm V h) (x := v3) rfl rfl ?_
            exact ⟨rfl, rfl⟩
          ·
            replace hf := (if_neg c7).symm.trans hf
            obtain ⟨q8, e8, hf⟩ := obind hf
            refine ok_callA (L := [some (.inr (.inr (.inl 26))), some (.inr (.inr (.inl 27))), some (.inl v2), some (.inr (.inl v3)), none, some (.inl v5), z6, z7]) (M := mm V h) (args := [.inr (.inr (.inl 27))]) (rest := []) (y2 := 52) rfl rfl rfl (Or.inl rfl) rfl rfl (Nat.le_of_ble_eq_true rfl) rfl rfl (Nat.le_of_ble_eq_true rfl) (Nat.le_of_ble_eq_true rfl) (s_Tape_next_o26 e8) ?_
            rintro _ _ ⟨rfl, rfl⟩
            obtain ⟨q9, e9, hf⟩ := obind hf
            refine ok_callA (L := [some (.inr (.inr (.inl 26))), some (.inr (.inr (.inl 27))), some (.inl v2), some (.inr (.inl v3)), none, some (.inl v5), z6, z7]) (M := mm q8 h) (args := [.inr (.inr (.inl 26)), .inr (.inr (.inl 27)), .inl v2]) (rest := []) (y2 := 82) rfl rfl rfl (Or.inl rfl) rfl rfl (Nat.le_of_ble_eq_true rfl) rfl rfl (Nat.le_of_ble_eq_true rfl) (Nat.le_of_ble_eq_true rfl) (s_Rate_one_o26 KS KO e9) ?_
            rintro _ _ ⟨rfl, rfl⟩
            refine ok_if_ne (x := lcmpI q9.2 0) (L := [some (.inr (.inr (.inl 26))), some (.inr (.inr (.inl 27))), some (.inl v2), some (.inr (.inl v3)), none, some (.inl v5), some (.inr (.inl q9.2)), none]) (S := []) (M := mm q9.1 h) rfl rfl (fun c10 => ?_) (fun c10 => ?_)
            ·
              replace hf := (if_neg c10).symm.trans hf
              by_cases c11 : q9.2 = 0
              case pos => replace hf := (if_pos c11).symm.trans hf; cases hf
              replace hf := (if_neg c11).symm.trans hf
              refine ok_ldiv (u := v3) (v := q9.2) (L := [some (.inr (.inr (.inl 26))), some (.inr (.inr (.inl 27))), some (.inl v2), some (.inr (.inl v3)), none, some (.inl v5), some (.inr (.inl q9.2)), none]) (S := []) (M := mm q9.1 h) rfl rfl c11 ?_
              exact s_Rate_product_18_o26 KS KO hf ih
            ·
              replace hf := (if_pos c10).symm.trans hf
              refine ok_goto (L := [some (.inr (.inr (.inl 26))), some (.inr (.inr (.inl 27))), some (.inl v2), some (.inr (.inl v3)), none, some (.inl v5), some (.inr (.inl q9.2)), none]) (S := [.inr (.inl 0)]) (M := mm q9.1 h) rfl rfl ?_
              exact s_Rate_product_18_o26 KS KO hf ih
        ·
          replace hf := (if_neg c5).symm.trans hf
          obtain ⟨q12, e12, hf⟩ := obind hf
          refine ok_callA (L := [some (.inr (.inr (.inl 26))), some (.inr (.inr (.inl 27))), some (.inl v2), some (.inr (.inl v3)), none, some (.inl v5), z6, z7]) (M := mm V h) (args := [.inr (.inr (.inl 27))]) (rest := []) (y2 := 52) rfl rfl rfl (Or.inl rfl) rfl rfl (Nat.le_of_ble_eq_true rfl) rfl rfl (Nat.le_of_ble_eq_true rfl) (Nat.le_of_ble_eq_true rfl) (s_Tape_next_o26 e12) ?_
          rintro _ _ ⟨rfl, rfl⟩
          obtain ⟨q13, e13, hf⟩ := obind hf
          refine ok_callA (L := [some (.inr (.inr (.inl 26))), some (.inr (.inr (.inl 27))), some (.inl v2), some (.inr (.inl v3)), none, some (.inl v5), z6, z7]) (M := mm q12 h) (args := [.inr (.inr (.inl 26)), .inr (.inr (.inl 27)), .inl v2]) (rest := [.inr (.inl v3)]) (y2 := 82) rfl rfl rfl (Or.inl rfl) rfl rfl (Nat.le_of_ble_eq_true rfl) rfl rfl (Nat.le_of_ble_eq_true rfl) (Nat.le_of_ble_eq_true rfl) (s_Rate_one_o26 KS KO e13) ?_
          rintro _ _ ⟨rfl, rfl⟩
          refine ok_callA (L := [some (.inr (.inr (.inl 26))), some (.inr (.inr (.inl 27))), some (.inl v2), some (.inr (.inl v3)), none, some (.inl v5), z6, z7]) (M := mm q13.1 h) (args := [.inr (.inl (w64 (v3 * q13.2)))]) (rest := []) (y2 := 85) rfl rfl rfl (Or.inr (Or.inl rfl)) rfl rfl (Nat.le_of_ble_eq_true rfl) rfl rfl (Nat.le_of_ble_eq_true rfl) (Nat.le_of_ble_eq_true rfl) (s_Rate_held rfl) ?_
          rintro _ _ ⟨rfl, rfl⟩
          refine ok_goto (L := [some (.inr (.inr (.inl 26))), some (.inr (.inr (.inl 27))), some (.inl v2), some (.inr (.inl (f_Rate_held q13.1 (w64 (v3 * q13.2))))), none, some (.inl v5), z6, z7]) (S := []) (M := mm q13.1 h) rfl rfl ?_
          exact s_Rate_product_20_o26 KS KO hf ih
theorem s_Rate_product_2_o26 {X : Xs} {d : Nat} {kS kO : VV → Int → Option (VV × Int)} (KS : ∀ {V : VV} {h : HP} {v : Int} {q : VV × Int}, kS V v = some q → Ok X (d + 7) 80 0 ([some (.inr (.inr (.inl 26))), some (.inr (.inr (.inl 27))), some (.inl v), none, none, none], [], mm V h) (fun M r => M = mm q.1 h ∧ r = some (.inr (.inl q.2)))) (KO : ∀ {V : VV} {h : HP} {v : Int} {q : VV × Int}, kO V v = some q → Ok X (d + 7) 82 0 ([some (.inr (.inr (.inl 26))), some (.inr (.inr (.inl 27))), some (.inl v), none, none, none, none, none, none], [], mm V h) (fun M r => M = mm q.1 h ∧ r = some (.inr (.inl q.2)))) {h : HP} {V : VV} {v2 : Int} {v3 : Int} {v5 : Int} {z6 : Option AV} {z7 : Option AV} {n : Nat} {q : VV × Int} (hf : f_Rate_product_2 26 27 100 kS kO n V v2 v3 v5 = some q) : Ok X (d + 9) 81 2 ([some (.inr (.inr (.inl 26))), some (.inr (.inr (.inl 27))), some (.inl v2), some (.inr (.inl v3)), none, some (.inl v5), z6, z7], [], mm V h) (fun M r => M = mm q.1 h ∧ r = some (.inr (.inl q.2))) :=
  s_Rate_product_2_o26_n KS KO n V v2 v3 v5 z6 z7 hf
set_option maxRecDepth 20000 in
set_option maxHeartbeats 4000000 in
theorem s_Rate_product_o26 {X : Xs} {d : Nat} {kS kO : VV → Int → Option (VV × Int)} (KS : ∀ {V : VV} {h : HP} {v : Int} {q : VV × Int}, kS V v = some q → Ok X (d + 7) 80 0 ([some (.inr (.inr (.inl 26))), some (.inr (.inr (.inl 27))), some (.inl v), none, none, none], [], mm V h) (fun M r => M = mm q.1 h ∧ r = some (.inr (.inl q.2)))) (KO : ∀ {V : VV} {h : HP} {v : Int} {q : VV × Int}, kO V v = some q → Ok X (d + 7) 82 0 ([some (.inr (.inr (.inl 26))), some (.inr (.inr (.inl 27))), some (.inl v), none, none, none, none, none, none], [], mm V h) (fun M r => M = mm q.1 h ∧ r = some (.inr (.inl q.2)))) {V : VV} {h : HP} {v2 : Int} {q : VV × Int} (hf : f_Rate_product 26 27 100 kS kO V v2 = some q) : Ok X (d + 9) 81 0 ([some (.inr (.inr (.inl 26))), some (.inr (.inr (.inl 27))), some (.inl v2), none, none, none, none, none], [], mm V h) (fun M r => M = mm q.1 h ∧ r = some (.inr (.inl q.2))) := by
  let QQ : Mm → Option AV → Prop := fun M r => M = mm q.1 h ∧ r = some (.inr (.inl q.2))
  show Ok X (d + 9) 81 0 ([some (.inr (.inr (.inl 26))), some (.inr (.inr (.inl 27))), some (.inl v2), none, none, none, none, none], [], mm V h) QQ
  obtain ⟨q1, e1, hf⟩ := obind hf
  refine ok_callA (L := [some (.inr (.inr (.inl 26))), some (.inr (.inr (.inl 27))), some (.inl v2), none, none, none, none, none]) (M := mm V h) (args := [.inr (.inr (.inl 26)), .inr (.inr (.inl 27)), .inl v2]) (rest := []) (y2 := 82) rfl rfl rfl (Or.inl rfl) rfl rfl (Nat.le_of_ble_eq_true rfl) rfl rfl (Nat.le_of_ble_eq_true rfl) (Nat.le_of_ble_eq_true rfl) (s_Rate_one_o26 KS KO e1) ?_
  rintro _ _ ⟨rfl, rfl⟩
  refine ok_thru (L := [some (.inr (.inr (.inl 26))), some (.inr (.inr (.inl 27))), some (.inl v2), some (.inr (.inl q1.2)), none, some (.inl 0), none, none]) (S := []) (M := mm q1.1 h) rfl rfl ?_
  exact s_Rate_product_2_o26 KS KO hf
def f_Rate_sum_19 (o : Nat) (ob : Nat) (on : Nat) (kS kO : VV → Int → Option (VV × Int)) (V : VV) (v3 : Int) : Option (VV × Int) := some (V, v3)
def f_Rate_sum_18 (o : Nat) (ob : Nat) (on : Nat) (kS kO : VV → Int → Option (VV × Int)) (k2 : VV → Int → Int → Int → (Option (VV × Int))) (V : VV) (v2 : Int) (v3 : Int) (v5 : Int) : Option (VV × Int) := k2 V v2 v3 (w32 (v5 + 1))
def f_Rate_sum_2 (o : Nat) (ob : Nat) (on : Nat) (kS kO : VV → Int → Option (VV × Int)) : Nat → VV → Int → Int → Int → (Option (VV × Int))
  | 0, _, _, _, _ => none
  | n + 1, V, v2, v3, v5 => if v5 < 100 then if (f_Tape_isSound o ob on V) = 0 then f_Rate_sum_19 o ob on kS kO V v3 else if (f_Tape_isSign o ob on V 43) = 0 then if (f_Tape_isSign o ob on V 45) = 0 then some (V, v3) else Option.bind (f_Tape_next o ob on V) (fun q8 => Option.bind (f_Rate_product o ob on kS kO q8 v2) (fun q9 => f_Rate_sum_18 o ob on kS kO (f_Rate_sum_2 o ob on kS kO n) q9.1 v2 (f_Rate_held q9.1 (w64 (v3 - q9.2))) v5)) else Option.bind (f_Tape_next o ob on V) (fun q11 => Option.bind (f_Rate_product o ob on kS kO q11 v2) (fun q12 => f_Rate_sum_18 o ob on kS kO (f_Rate_sum_2 o ob on kS kO n) q12.1 v2 (f_Rate_held q12.1 (w64 (v3 + q12.2))) v5)) else f_Rate_sum_19 o ob on kS kO V v3
def f_Rate_sum (o : Nat) (ob : Nat) (on : Nat) (kS kO : VV → Int → Option (VV × Int)) (V : VV) (v2 : Int) : Option (VV × Int) := Option.bind (f_Rate_product o ob on kS kO V v2) (fun q1 => f_Rate_sum_2 o ob on kS kO FU q1.1 v2 q1.2 0)
set_option maxRecDepth 20000 in
set_option maxHeartbeats 4000000 in
theorem s_Rate_sum_19_o16 {X : Xs} {d : Nat} {kS kO : VV → Int → Option (VV × Int)} (KS : ∀ {V : VV} {h : HP} {v : Int} {q : VV × Int}, kS V v = some q → Ok X (d + 7) 80 0 ([some (.inr (.inr (.inl 26))), some (.inr (.inr (.inl 17))), some (.inl v), none, none, none], [], mm V h) (fun M r => M = mm q.1 h ∧ r = some (.inr (.inl q.2)))) (KO : ∀ {V : VV} {h : HP} {v : Int} {q : VV × Int}, kO V v = some q → Ok X (d + 7) 82 0 ([some (.inr (.inr (.inl 26))), some (.inr (.inr (.inl 17))), some (.inl v), none, none, none, none, none, none], [], mm V h) (fun M r => M = mm q.1 h ∧ r = some (.inr (.inl q.2)))) {V : VV} {h : HP} {v3 : Int} {w2 : Int} {w5 : Int} {q : VV × Int} (hf : f_Rate_sum_19 16 17 400 kS kO V v3 = some q) : Ok X (d + 10) 80 19 ([some (.inr (.inr (.inl 26))), some (.inr (.inr (.inl 17))), some (.inl w2), some (.inr (.inl v3)), none, some (.inl w5)], [], mm V h) (fun M r => M = mm q.1 h ∧ r = some (.inr (.inl q.2))) := by
  let QQ : Mm → Option AV → Prop := fun M r => M = mm q.1 h ∧ r = some (.inr (.inl q.2))
  show Ok X (d + 10) 80 19 ([some (.inr (.inr (.inl 26))), some (.inr (.inr (.inl 17))), some (.inl w2), some (.inr (.inl v3)), none, some (.inl w5)], [], mm V h) QQ
  obtain rfl := Option.some.inj hf
  refine ok_lreturn (L := [some (.inr (.inr (.inl 26))), some (.inr (.inr (.inl 17))), some (.inl w2), some (.inr (.inl v3)), none, some (.inl w5)]) (M := mm V h) (x := v3) rfl rfl ?_
  exact ⟨rfl, rfl⟩
set_option maxRecDepth 20000 in
set_option maxHeartbeats 4000000 in
theorem s_Rate_sum_18_o16 {X : Xs} {d : Nat} {kS kO : VV → Int → Option (VV × Int)} (KS : ∀ {V : VV} {h : HP} {v : Int} {q : VV × Int}, kS V v = some q → Ok X (d + 7) 80 0 ([some (.inr (.inr (.inl 26))), some (.inr (.inr (.inl 17))), some (.inl v), none, none, none], [], mm V h) (fun M r => M = mm q.1 h ∧ r = some (.inr (.inl q.2)))) (KO : ∀ {V : VV} {h : HP} {v : Int} {q : VV × Int}, kO V v = some q → Ok X (d + 7) 82 0 ([some (.inr (.inr (.inl 26))), some (.inr (.inr (.inl 17))), some (.inl v), none, none, none, none, none, none], [], mm V h) (fun M r => M = mm q.1 h ∧ r = some (.inr (.inl q.2)))) {k2 : VV → Int → Int → Int → (Option (VV × Int))} {V : VV} {h : HP} {v2 : Int} {v3 : Int} {v5 : Int} {q : VV × Int} (hf : f_Rate_sum_18 16 17 400 kS kO k2 V v2 v3 v5 = some q) (K2 : ∀ (V : VV) (v2 : Int) (v3 : Int) (v5 : Int), k2 V v2 v3 v5 = some q → Ok X (d + 10) 80 2 ([some (.inr (.inr (.inl 26))), some (.inr (.inr (.inl 17))), some (.inl v2), some (.inr (.inl v3)), none, some (.inl v5)], [], mm V h) (fun M r => M = mm q.1 h ∧ r = some (.inr (.inl q.2)))) : Ok X (d + 10) 80 18 ([some (.inr (.inr (.inl 26))), some (.inr (.inr (.inl 17))), some (.inl v2), some (.inr (.inl v3)), none, some (.inl v5)], [], mm V h) (fun M r => M = mm q.1 h ∧ r = some (.inr (.inl q.2))) := by
  let QQ : Mm → Option AV → Prop := fun M r => M = mm q.1 h ∧ r = some (.inr (.inl q.2))
  show Ok X (d + 10) 80 18 ([some (.inr (.inr (.inl 26))), some (.inr (.inr (.inl 17))), some (.inl v2), some (.inr (.inl v3)), none, some (.inl v5)], [], mm V h) QQ
  refine ok_goto (L := [some (.inr (.inr (.inl 26))), some (.inr (.inr (.inl 17))), some (.inl v2), some (.inr (.inl v3)), none, some (.inl (w32 (v5 + 1)))]) (S := []) (M := mm V h) rfl rfl ?_
  exact K2 V v2 v3 (w32 (v5 + 1)) hf
set_option maxRecDepth 20000 in
set_option maxHeartbeats 4000000 in
theorem s_Rate_sum_2_o16_n {X : Xs} {d : Nat} {kS kO : VV → Int → Option (VV × Int)} (KS : ∀ {V : VV} {h : HP} {v : Int} {q : VV × Int}, kS V v = some q → Ok X (d + 7) 80 0 ([some (.inr (.inr (.inl 26))), some (.inr (.inr (.inl 17))), some (.inl v), none, none, none], [], mm V h) (fun M r => M = mm q.1 h ∧ r = some (.inr (.inl q.2)))) (KO : ∀ {V : VV} {h : HP} {v : Int} {q : VV × Int}, kO V v = some q → Ok X (d + 7) 82 0 ([some (.inr (.inr (.inl 26))), some (.inr (.inr (.inl 17))), some (.inl v), none, none, none, none, none, none], [], mm V h) (fun M r => M = mm q.1 h ∧ r = some (.inr (.inl q.2)))) {h : HP} {q : VV × Int} : ∀ (n : Nat) (V : VV) (v2 : Int) (v3 : Int) (v5 : Int), f_Rate_sum_2 16 17 400 kS kO n V v2 v3 v5 = some q → Ok X (d + 10) 80 2 ([some (.inr (.inr (.inl 26))), some (.inr (.inr (.inl 17))), some (.inl v2), some (.inr (.inl v3)), none, some (.inl v5)], [], mm V h) (fun M r => M = mm q.1 h ∧ r = some (.inr (.inl q.2))) := by
  intro n
  induction n with
  | zero => intro V v2 v3 v5 hf; cases hf
  | succ n ih =>
    intro V v2 v3 v5 hf
    let QQ : Mm → Option AV → Prop := fun M r => M = mm q.1 h ∧ r = some (.inr (.inl q.2))
    show Ok X (d + 10) 80 2 ([some (.inr (.inr (.inl 26))), some (.inr (.inr (.inl 17))), some (.inl v2), some (.inr (.inl v3)), none, some (.inl v5)], [], mm V h) QQ
    refine ok_ic_ge (x := v5) (u := 100) (L := [some (.inr (.inr (.inl 26))), some (.inr (.inr (.inl 17))), some (.inl v2), some (.inr (.inl v3)), none, some (.inl v5)]) (S := []) (M := mm V h) rfl rfl (fun c1 => ?_) (fun c1 => ?_)
    ·
      replace hf := (if_neg (Int.not_lt.mpr c1)).symm.trans hf
      exact s_Rate_sum_19_o16 KS KO hf
    ·
      replace hf := (if_pos c1).symm.trans hf
      refine ok_callA (L := [some (.inr (.inr (.inl 26))), some (.inr (.inr (.inl 17))), some (.inl v2), some (.inr (.inl v3)), none, some (.inl v5)]) (M := mm V h) (args := [.inr (.inr (.inl 17))]) (rest := []) (y2 := 56) rfl rfl rfl (Or.inl rfl) rfl rfl (Nat.le_of_ble_eq_true rfl) rfl rfl (Nat.le_of_ble_eq_true rfl) (Nat.le_of_ble_eq_true rfl) (s_Tape_isSound_o16 rfl) ?_
      rintro _ _ ⟨rfl, rfl, hz2⟩
      refine ok_if_eq (x := f_Tape_isSound 16 17 400 V) (L := [some (.inr (.inr (.inl 26))), some (.inr (.inr (.inl 17))), some (.inl v2), some (.inr (.inl v3)), none, some (.inl v5)]) (S := []) (M := mm V h) rfl rfl (fun c3 => ?_) (fun c3 => ?_)
      ·
        replace hf := (if_pos c3).symm.trans hf
        exact s_Rate_sum_19_o16 KS KO hf
      ·
        replace hf := (if_neg c3).symm.trans hf
        refine ok_callA (L := [some (.inr (.inr (.inl 26))), some (.inr (.inr (.inl 17))), some (.inl v2), some (.inr (.inl v3)), none, some (.inl v5)]) (M := mm V h) (args := [.inr (.inr (.inl 17)), .inl 43]) (rest := []) (y2 := 71) rfl rfl rfl (Or.inl rfl) rfl rfl (Nat.le_of_ble_eq_true rfl) rfl rfl (Nat.le_of_ble_eq_true rfl) (Nat.le_of_ble_eq_true rfl) (s_Tape_isSign_o16 rfl) ?_
        rintro _ _ ⟨rfl, rfl, hz4⟩
        refine ok_if_eq (x := f_Tape_isSign 16 17 400 V 43) (L := [some (.inr (.inr (.inl 26))), some (.inr (.inr (.inl 17))), some (.inl v2), some (.inr (.inl v3)), none, some (.inl v5)]) (S := []) (M := mm V h) rfl rfl (fun c5 => ?_) (fun c5 => ?_)
        ·
          replace hf := (if_pos c5).symm.trans hf
          refine ok_callA (L := [some (.inr (.inr (.inl 26))), some (.inr (.inr (.inl 17))), some (.inl v2), some (.inr (.inl v3)), none, some (.inl v5)]) (M := mm V h) (args := [.inr (.inr (.inl 17)), .inl 45]) (rest := []) (y2 := 71) rfl rfl rfl (Or.inl rfl) rfl rfl (Nat.le_of_ble_eq_true rfl) rfl rfl (Nat.le_of_ble_eq_true rfl) (Nat.le_of_ble_eq_true rfl) (s_Tape_isSign_o16 rfl) ?_
          rintro _ _ ⟨rfl, rfl, hz6⟩
          refine ok_if_eq (x := f_Tape_isSign 16 17 400 V 45) (L := [some (.inr (.inr (.inl 26))), some (.inr (.inr (.inl 17))), some (.inl v2), some (.inr (.inl v3)), none, some (.inl v5)]) (S := []) (M := mm V h) rfl rfl (fun c7 => ?_) (fun c7 => ?_)
          ·
            replace hf := (if_pos c7).symm.trans hf
            obtain rfl := Option.some.inj hf
            refine ok_lreturn (L := [some (.inr (.inr (.inl 26))), some (.inr (.inr (.inl 17))), some (.inl v2), some (.inr (.inl v3)), none, some (.inl v5)]) (M := mm V h) (x := v3) rfl rfl ?_
            exact ⟨rfl, rfl⟩
          ·
            replace hf := (if_neg c7).symm.trans hf
            obtain ⟨q8, e8, hf⟩ := obind hf
            refine ok_callA (L := [some (.inr (.inr (.inl 26))), some (.inr (.inr (.inl 17))), some (.inl v2), some (.inr (.inl v3)), none, some (.inl v5)]) (M := mm V h) (args := [.inr (.inr (.inl 17))]) (rest := []) (y2 := 52) rfl rfl rfl (Or.inl rfl) rfl rfl (Nat.le_of_ble_eq_true rfl) rfl rfl (Nat.le_of_ble_eq_true rfl) (Nat.le_of_ble_eq_true rfl) (s_Tape_next_o16 e8) ?_
            rintro _ _ ⟨rfl, rfl⟩
            obtain ⟨q9, e9, hf⟩ := obind hf
            refine ok_callA (L := [some (.inr (.inr (.inl 26))), some (.inr (.inr (.inl 17))), some (.inl v2), some (.inr (.inl v3)), none, some (.inl v5)]) (M := mm q8 h) (args := [.inr (.inr (.inl 26)), .inr (.inr (.inl 17)), .inl v2]) (rest := [.inr (.inl v3)]) (y2 := 81) rfl rfl rfl (Or.inl rfl) rfl rfl (Nat.le_of_ble_eq_true rfl) rfl rfl (Nat.le_of_ble_eq_true rfl) (Nat.le_of_ble_eq_true rfl) (s_Rate_product_o16 KS KO e9) ?_
            rintro _ _ ⟨rfl, rfl⟩
            refine ok_callA (L := [some (.inr (.inr (.inl 26))), some (.inr (.inr (.inl 17))), some (.inl v2), some (.inr (.inl v3)), none, some (.inl v5)]) (M := mm q9.1 h) (args := [.inr (.inl (w64 (v3 - q9.2)))]) (rest := []) (y2 := 85) rfl rfl rfl (Or.inr (Or.inl rfl)) rfl rfl (Nat.le_of_ble_eq_true rfl) rfl rfl (Nat.le_of_ble_eq_true rfl) (Nat.le_of_ble_eq_true rfl) (s_Rate_held rfl) ?_
            rintro _ _ ⟨rfl, rfl⟩
            refine ok_goto (L := [some (.inr (.inr (.inl 26))), some (.inr (.inr (.inl 17))), some (.inl v2), some (.inr (.inl (f_Rate_held q9.1 (w64 (v3 - q9.2))))), none, some (.inl v5)]) (S := []) (M := mm q9.1 h) rfl rfl ?_
            exact s_Rate_sum_18_o16 KS KO hf ih
        ·
          replace hf := (if_neg c5).symm.trans hf
          obtain ⟨q11, e11, hf⟩ := obind hf
          refine ok_callA (L := [some (.inr (.inr (.inl 26))), some (.inr (.inr (.inl 17))), some (.inl v2), some (.inr (.inl v3)), none, some (.inl v5)]) (M := mm V h) (args := [.inr (.inr (.inl 17))]) (rest := []) (y2 := 52) rfl rfl rfl (Or.inl rfl) rfl rfl (Nat.le_of_ble_eq_true rfl) rfl rfl (Nat.le_of_ble_eq_true rfl) (Nat.le_of_ble_eq_true rfl) (s_Tape_next_o16 e11) ?_
          rintro _ _ ⟨rfl, rfl⟩
          obtain ⟨q12, e12, hf⟩ := obind hf
          refine ok_callA (L := [some (.inr (.inr (.inl 26))), some (.inr (.inr (.inl 17))), some (.inl v2), some (.inr (.inl v3)), none, some (.inl v5)]) (M := mm q11 h) (args := [.inr (.inr (.inl 26)), .inr (.inr (.inl 17)), .inl v2]) (rest := [.inr (.inl v3)]) (y2 := 81) rfl rfl rfl (Or.inl rfl) rfl rfl (Nat.le_of_ble_eq_true rfl) rfl rfl (Nat.le_of_ble_eq_true rfl) (Nat.le_of_ble_eq_true rfl) (s_Rate_product_o16 KS KO e12) ?_
          rintro _ _ ⟨rfl, rfl⟩
          refine ok_callA (L := [some (.inr (.inr (.inl 26))), some (.inr (.inr (.inl 17))), some (.inl v2), some (.inr (.inl v3)), none, some (.inl v5)]) (M := mm q12.1 h) (args := [.inr (.inl (w64 (v3 + q12.2)))]) (rest := []) (y2 := 85) rfl rfl rfl (Or.inr (Or.inl rfl)) rfl rfl (Nat.le_of_ble_eq_true rfl) rfl rfl (Nat.le_of_ble_eq_true rfl) (Nat.le_of_ble_eq_true rfl) (s_Rate_held rfl) ?_
          rintro _ _ ⟨rfl, rfl⟩
          refine ok_goto (L := [some (.inr (.inr (.inl 26))), some (.inr (.inr (.inl 17))), some (.inl v2), some (.inr (.inl (f_Rate_held q12.1 (w64 (v3 + q12.2))))), none, some (.inl v5)]) (S := []) (M := mm q12.1 h) rfl rfl ?_
          exact s_Rate_sum_18_o16 KS KO hf ih
theorem s_Rate_sum_2_o16 {X : Xs} {d : Nat} {kS kO : VV → Int → Option (VV × Int)} (KS : ∀ {V : VV} {h : HP} {v : Int} {q : VV × Int}, kS V v = some q → Ok X (d + 7) 80 0 ([some (.inr (.inr (.inl 26))), some (.inr (.inr (.inl 17))), some (.inl v), none, none, none], [], mm V h) (fun M r => M = mm q.1 h ∧ r = some (.inr (.inl q.2)))) (KO : ∀ {V : VV} {h : HP} {v : Int} {q : VV × Int}, kO V v = some q → Ok X (d + 7) 82 0 ([some (.inr (.inr (.inl 26))), some (.inr (.inr (.inl 17))), some (.inl v), none, none, none, none, none, none], [], mm V h) (fun M r => M = mm q.1 h ∧ r = some (.inr (.inl q.2)))) {h : HP} {V : VV} {v2 : Int} {v3 : Int} {v5 : Int} {n : Nat} {q : VV × Int} (hf : f_Rate_sum_2 16 17 400 kS kO n V v2 v3 v5 = some q) : Ok X (d + 10) 80 2 ([some (.inr (.inr (.inl 26))), some (.inr (.inr (.inl 17))), some (.inl v2), some (.inr (.inl v3)), none, some (.inl v5)], [], mm V h) (fun M r => M = mm q.1 h ∧ r = some (.inr (.inl q.2))) :=
  s_Rate_sum_2_o16_n KS KO n V v2 v3 v5 hf
set_option maxRecDepth 20000 in
set_option maxHeartbeats 4000000 in
theorem s_Rate_sum_o16 {X : Xs} {d : Nat} {kS kO : VV → Int → Option (VV × Int)} (KS : ∀ {V : VV} {h : HP} {v : Int} {q : VV × Int}, kS V v = some q → Ok X (d + 7) 80 0 ([some (.inr (.inr (.inl 26))), some (.inr (.inr (.inl 17))), some (.inl v), none, none, none], [], mm V h) (fun M r => M = mm q.1 h ∧ r = some (.inr (.inl q.2)))) (KO : ∀ {V : VV} {h : HP} {v : Int} {q : VV × Int}, kO V v = some q → Ok X (d + 7) 82 0 ([some (.inr (.inr (.inl 26))), some (.inr (.inr (.inl 17))), some (.inl v), none, none, none, none, none, none], [], mm V h) (fun M r => M = mm q.1 h ∧ r = some (.inr (.inl q.2)))) {V : VV} {h : HP} {v2 : Int} {q : VV × Int} (hf : f_Rate_sum 16 17 400 kS kO V v2 = some q) : Ok X (d + 10) 80 0 ([some (.inr (.inr (.inl 26))), some (.inr (.inr (.inl 17))), some (.inl v2), none, none, none], [], mm V h) (fun M r => M = mm q.1 h ∧ r = some (.inr (.inl q.2))) := by
  let QQ : Mm → Option AV → Prop := fun M r => M = mm q.1 h ∧ r = some (.inr (.inl q.2))
  show Ok X (d + 10) 80 0 ([some (.inr (.inr (.inl 26))), some (.inr (.inr (.inl 17))), some (.inl v2), none, none, none], [], mm V h) QQ
  obtain ⟨q1, e1, hf⟩ := obind hf
  refine ok_callA (L := [some (.inr (.inr (.inl 26))), some (.inr (.inr (.inl 17))), some (.inl v2), none, none, none]) (M := mm V h) (args := [.inr (.inr (.inl 26)), .inr (.inr (.inl 17)), .inl v2]) (rest := []) (y2 := 81) rfl rfl rfl (Or.inl rfl) rfl rfl (Nat.le_of_ble_eq_true rfl) rfl rfl (Nat.le_of_ble_eq_true rfl) (Nat.le_of_ble_eq_true rfl) (s_Rate_product_o16 KS KO e1) ?_
  rintro _ _ ⟨rfl, rfl⟩
  refine ok_thru (L := [some (.inr (.inr (.inl 26))), some (.inr (.inr (.inl 17))), some (.inl v2), some (.inr (.inl q1.2)), none, some (.inl 0)]) (S := []) (M := mm q1.1 h) rfl rfl ?_
  exact s_Rate_sum_2_o16 KS KO hf
set_option maxRecDepth 20000 in
set_option maxHeartbeats 4000000 in
theorem s_Rate_sum_19_o26 {X : Xs} {d : Nat} {kS kO : VV → Int → Option (VV × Int)} (KS : ∀ {V : VV} {h : HP} {v : Int} {q : VV × Int}, kS V v = some q → Ok X (d + 7) 80 0 ([some (.inr (.inr (.inl 26))), some (.inr (.inr (.inl 27))), some (.inl v), none, none, none], [], mm V h) (fun M r => M = mm q.1 h ∧ r = some (.inr (.inl q.2)))) (KO : ∀ {V : VV} {h : HP} {v : Int} {q : VV × Int}, kO V v = some q → Ok X (d + 7) 82 0 ([some (.inr (.inr (.inl 26))), some (.inr (.inr (.inl 27))), some (.inl v), none, none, none, none, none, none], [], mm V h) (fun M r => M = mm q.1 h ∧ r = some (.inr (.inl q.2)))) {V : VV} {h : HP} {v3 : Int} {w2 : Int} {w5 : Int} {q : VV × Int} (hf : f_Rate_sum_19 26 27 100 kS kO V v3 = some q) : Ok X (d + 10) 80 19 ([some (.inr (.inr (.inl 26))), some (.inr (.inr (.inl 27))), some (.inl w2), some (.inr (.inl v3)), none, some (.inl w5)], [], mm V h) (fun M r => M = mm q.1 h ∧ r = some (.inr (.inl q.2))) := by
  let QQ : Mm → Option AV → Prop := fun M r => M = mm q.1 h ∧ r = some (.inr (.inl q.2))
  show Ok X (d + 10) 80 19 ([some (.inr (.inr (.inl 26))), some (.inr (.inr (.inl 27))), some (.inl w2), some (.inr (.inl v3)), none, some (.inl w5)], [], mm V h) QQ
  obtain rfl := Option.some.inj hf
  refine ok_lreturn (L := [some (.inr (.inr (.inl 26))), some (.inr (.inr (.inl 27))), some (.inl w2), some (.inr (.inl v3)), none, some (.inl w5)]) (M := mm V h) (x := v3) rfl rfl ?_
  exact ⟨rfl, rfl⟩
set_option maxRecDepth 20000 in
set_option maxHeartbeats 4000000 in
theorem s_Rate_sum_18_o26 {X : Xs} {d : Nat} {kS kO : VV → Int → Option (VV × Int)} (KS : ∀ {V : VV} {h : HP} {v : Int} {q : VV × Int}, kS V v = some q → Ok X (d + 7) 80 0 ([some (.inr (.inr (.inl 26))), some (.inr (.inr (.inl 27))), some (.inl v), none, none, none], [], mm V h) (fun M r => M = mm q.1 h ∧ r = some (.inr (.inl q.2)))) (KO : ∀ {V : VV} {h : HP} {v : Int} {q : VV × Int}, kO V v = some q → Ok X (d + 7) 82 0 ([some (.inr (.inr (.inl 26))), some (.inr (.inr (.inl 27))), some (.inl v), none, none, none, none, none, none], [], mm V h) (fun M r => M = mm q.1 h ∧ r = some (.inr (.inl q.2)))) {k2 : VV → Int → Int → Int → (Option (VV × Int))} {V : VV} {h : HP} {v2 : Int} {v3 : Int} {v5 : Int} {q : VV × Int} (hf : f_Rate_sum_18 26 27 100 kS kO k2 V v2 v3 v5 = some q) (K2 : ∀ (V : VV) (v2 : Int) (v3 : Int) (v5 : Int), k2 V v2 v3 v5 = some q → Ok X (d + 10) 80 2 ([some (.inr (.inr (.inl 26))), some (.inr (.inr (.inl 27))), some (.inl v2), some (.inr (.inl v3)), none, some (.inl v5)], [], mm V h) (fun M r => M = mm q.1 h ∧ r = some (.inr (.inl q.2)))) : Ok X (d + 10) 80 18 ([some (.inr (.inr (.inl 26))), some (.inr (.inr (.inl 27))), some (.inl v2), some (.inr (.inl v3)), none, some (.inl v5)], [], mm V h) (fun M r => M = mm q.1 h ∧ r = some (.inr (.inl q.2))) := by
  let QQ : Mm → Option AV → Prop := fun M r => M = mm q.1 h ∧ r = some (.inr (.inl q.2))
  show Ok X (d + 10) 80 18 ([some (.inr (.inr (.inl 26))), some (.inr (.inr (.inl 27))), some (.inl v2), some (.inr (.inl v3)), none, some (.inl v5)], [], mm V h) QQ
  refine ok_goto (L := [some (.inr (.inr (.inl 26))), some (.inr (.inr (.inl 27))), some (.inl v2), some (.inr (.inl v3)), none, some (.inl (w32 (v5 + 1)))]) (S := []) (M := mm V h) rfl rfl ?_
  exact K2 V v2 v3 (w32 (v5 + 1)) hf
set_option maxRecDepth 20000 in
set_option maxHeartbeats 4000000 in
theorem s_Rate_sum_2_o26_n {X : Xs} {d : Nat} {kS kO : VV → Int → Option (VV × Int)} (KS : ∀ {V : VV} {h : HP} {v : Int} {q : VV × Int}, kS V v = some q → Ok X (d + 7) 80 0 ([some (.inr (.inr (.inl 26))), some (.inr (.inr (.inl 27))), some (.inl v), none, none, none], [], mm V h) (fun M r => M = mm q.1 h ∧ r = some (.inr (.inl q.2)))) (KO : ∀ {V : VV} {h : HP} {v : Int} {q : VV × Int}, kO V v = some q → Ok X (d + 7) 82 0 ([some (.inr (.inr (.inl 26))), some (.inr (.inr (.inl 27))), some (.inl v), none, none, none, none, none, none], [], mm V h) (fun M r => M = mm q.1 h ∧ r = some (.inr (.inl q.2)))) {h : HP} {q : VV × Int} : ∀ (n : Nat) (V : VV) (v2 : Int) (v3 : Int) (v5 : Int), f_Rate_sum_2 26 27 100 kS kO n V v2 v3 v5 = some q → Ok X (d + 10) 80 2 ([some (.inr (.inr (.inl 26))), some (.inr (.inr (.inl 27))), some (.inl v2), some (.inr (.inl v3)), none, some (.inl v5)], [], mm V h) (fun M r => M = mm q.1 h ∧ r = some (.inr (.inl q.2))) := by
  intro n
  induction n with
  | zero => intro V v2 v3 v5 hf; cases hf
  | succ n ih =>
    intro V v2 v3 v5 hf
    let QQ : Mm → Option AV → Prop := fun M r => M = mm q.1 h ∧ r = some (.inr (.inl q.2))
    show Ok X (d + 10) 80 2 ([some (.inr (.inr (.inl 26))), some (.inr (.inr (.inl 27))), some (.inl v2), some (.inr (.inl v3)), none, some (.inl v5)], [], mm V h) QQ
    refine ok_ic_ge (x := v5) (u := 100) (L := [some (.inr (.inr (.inl 26))), some (.inr (.inr (.inl 27))), some (.inl v2), some (.inr (.inl v3)), none, some (.inl v5)]) (S := []) (M := mm V h) rfl rfl (fun c1 => ?_) (fun c1 => ?_)
    ·
      replace hf := (if_neg (Int.not_lt.mpr c1)).symm.trans hf
      exact s_Rate_sum_19_o26 KS KO hf
    ·
      replace hf := (if_pos c1).symm.trans hf
      refine ok_callA (L := [some (.inr (.inr (.inl 26))), some (.inr (.inr (.inl 27))), some (.inl v2), some (.inr (.inl v3)), none, some (.inl v5)]) (M := mm V h) (args := [.inr (.inr (.inl 27))]) (rest := []) (y2 := 56) rfl rfl rfl (Or.inl rfl) rfl rfl (Nat.le_of_ble_eq_true rfl) rfl rfl (Nat.le_of_ble_eq_true rfl) (Nat.le_of_ble_eq_true rfl) (s_Tape_isSound_o26 rfl) ?_
      rintro _ _ ⟨rfl, rfl, hz2⟩
      refine ok_if_eq (x := f_Tape_isSound 26 27 100 V) (L := [some (.inr (.inr (.inl 26))), some (.inr (.inr (.inl 27))), some (.inl v2), some (.inr (.inl v3)), none, some (.inl v5)]) (S := []) (M := mm V h) rfl rfl (fun c3 => ?_) (fun c3 => ?_)
      ·
        replace hf := (if_pos c3).symm.trans hf
        exact s_Rate_sum_19_o26 KS KO hf
      ·
        replace hf := (if_neg c3).symm.trans hf
        refine ok_callA (L := [some (.inr (.inr (.inl 26))), some (.inr (.inr (.inl 27))), some (.inl v2), some (.inr (.inl v3)), none, some (.inl v5)]) (M := mm V h) (args := [.inr (.inr (.inl 27)), .inl 43]) (rest := []) (y2 := 71) rfl rfl rfl (Or.inl rfl) rfl rfl (Nat.le_of_ble_eq_true rfl) rfl rfl (Nat.le_of_ble_eq_true rfl) (Nat.le_of_ble_eq_true rfl) (s_Tape_isSign_o26 rfl) ?_
        rintro _ _ ⟨rfl, rfl, hz4⟩
        refine ok_if_eq (x := f_Tape_isSign 26 27 100 V 43) (L := [some (.inr (.inr (.inl 26))), some (.inr (.inr (.inl 27))), some (.inl v2), some (.inr (.inl v3)), none, some (.inl v5)]) (S := []) (M := mm V h) rfl rfl (fun c5 => ?_) (fun c5 => ?_)
        ·
          replace hf := (if_pos c5).symm.trans hf
          refine ok_callA (L := [some (.inr (.inr (.inl 26))), some (.inr (.inr (.inl 27))), some (.inl v2), some (.inr (.inl v3)), none, some (.inl v5)]) (M := mm V h) (args := [.inr (.inr (.inl 27)), .inl 45]) (rest := []) (y2 := 71) rfl rfl rfl (Or.inl rfl) rfl rfl (Nat.le_of_ble_eq_true rfl) rfl rfl (Nat.le_of_ble_eq_true rfl) (Nat.le_of_ble_eq_true rfl) (s_Tape_isSign_o26 rfl) ?_
          rintro _ _ ⟨rfl, rfl, hz6⟩
          refine ok_if_eq (x := f_Tape_isSign 26 27 100 V 45) (L := [some (.inr (.inr (.inl 26))), some (.inr (.inr (.inl 27))), some (.inl v2), some (.inr (.inl v3)), none, some (.inl v5)]) (S := []) (M := mm V h) rfl rfl (fun c7 => ?_) (fun c7 => ?_)
          ·
            replace hf := (if_pos c7).symm.trans hf
            obtain rfl := Option.some.inj hf
            refine ok_lreturn (L := [some (.inr (.inr (.inl 26))), some (.inr (.inr (.inl 27))), some (.inl v2), some (.inr (.inl v3)), none, some (.inl v5)]) (M := mm V h) (x := v3) rfl rfl ?_
            exact ⟨rfl, rfl⟩
          ·
            replace hf := (if_neg c7).symm.trans hf
            obtain ⟨q8, e8, hf⟩ := obind hf
            refine ok_callA (L := [some (.inr (.inr (.inl 26))), some (.inr (.inr (.inl 27))), some (.inl v2), some (.inr (.inl v3)), none, some (.inl v5)]) (M := mm V h) (args := [.inr (.inr (.inl 27))]) (rest := []) (y2 := 52) rfl rfl rfl (Or.inl rfl) rfl rfl (Nat.le_of_ble_eq_true rfl) rfl rfl (Nat.le_of_ble_eq_true rfl) (Nat.le_of_ble_eq_true rfl) (s_Tape_next_o26 e8) ?_
            rintro _ _ ⟨rfl, rfl⟩
            obtain ⟨q9, e9, hf⟩ := obind hf
            refine ok_callA (L := [some (.inr (.inr (.inl 26))), some (.inr (.inr (.inl 27))), some (.inl v2), some (.inr (.inl v3)), none, some (.inl v5)]) (M := mm q8 h) (args := [.inr (.inr (.inl 26)), .inr (.inr (.inl 27)), .inl v2]) (rest := [.inr (.inl v3)]) (y2 := 81) rfl rfl rfl (Or.inl rfl) rfl rfl (Nat.le_of_ble_eq_true rfl) rfl rfl (Nat.le_of_ble_eq_true rfl) (Nat.le_of_ble_eq_true rfl) (s_Rate_product_o26 KS KO e9) ?_
            rintro _ _ ⟨rfl, rfl⟩
            refine ok_callA (L := [some (.inr (.inr (.inl 26))), some (.inr (.inr (.inl 27))), some (.inl v2), some (.inr (.inl v3)), none, some (.inl v5)]) (M := mm q9.1 h) (args := [.inr (.inl (w64 (v3 - q9.2)))]) (rest := []) (y2 := 85) rfl rfl rfl (Or.inr (Or.inl rfl)) rfl rfl (Nat.le_of_ble_eq_true rfl) rfl rfl (Nat.le_of_ble_eq_true rfl) (Nat.le_of_ble_eq_true rfl) (s_Rate_held rfl) ?_
            rintro _ _ ⟨rfl, rfl⟩
            refine ok_goto (L := [some (.inr (.inr (.inl 26))), some (.inr (.inr (.inl 27))), some (.inl v2), some (.inr (.inl (f_Rate_held q9.1 (w64 (v3 - q9.2))))), none, some (.inl v5)]) (S := []) (M := mm q9.1 h) rfl rfl ?_
            exact s_Rate_sum_18_o26 KS KO hf ih
        ·
          replace hf := (if_neg c5).symm.trans hf
          obtain ⟨q11, e11, hf⟩ := obind hf
          refine ok_callA (L := [some (.inr (.inr (.inl 26))), some (.inr (.inr (.inl 27))), some (.inl v2), some (.inr (.inl v3)), none, some (.inl v5)]) (M := mm V h) (args := [.inr (.inr (.inl 27))]) (rest := []) (y2 := 52) rfl rfl rfl (Or.inl rfl) rfl rfl (Nat.le_of_ble_eq_true rfl) rfl rfl (Nat.le_of_ble_eq_true rfl) (Nat.le_of_ble_eq_true rfl) (s_Tape_next_o26 e11) ?_
          rintro _ _ ⟨rfl, rfl⟩
          obtain ⟨q12, e12, hf⟩ := obind hf
          refine ok_callA (L := [some (.inr (.inr (.inl 26))), some (.inr (.inr (.inl 27))), some (.inl v2), some (.inr (.inl v3)), none, some (.inl v5)]) (M := mm q11 h) (args := [.inr (.inr (.inl 26)), .inr (.inr (.inl 27)), .inl v2]) (rest := [.inr (.inl v3)]) (y2 := 81) rfl rfl rfl (Or.inl rfl) rfl rfl (Nat.le_of_ble_eq_true rfl) rfl rfl (Nat.le_of_ble_eq_true rfl) (Nat.le_of_ble_eq_true rfl) (s_Rate_product_o26 KS KO e12) ?_
          rintro _ _ ⟨rfl, rfl⟩
          refine ok_callA (L := [some (.inr (.inr (.inl 26))), some (.inr (.inr (.inl 27))), some (.inl v2), some (.inr (.inl v3)), none, some (.inl v5)]) (M := mm q12.1 h) (args := [.inr (.inl (w64 (v3 + q12.2)))]) (rest := []) (y2 := 85) rfl rfl rfl (Or.inr (Or.inl rfl)) rfl rfl (Nat.le_of_ble_eq_true rfl) rfl rfl (Nat.le_of_ble_eq_true rfl) (Nat.le_of_ble_eq_true rfl) (s_Rate_held rfl) ?_
          rintro _ _ ⟨rfl, rfl⟩
          refine ok_goto (L := [some (.inr (.inr (.inl 26))), some (.inr (.inr (.inl 27))), some (.inl v2), some (.inr (.inl (f_Rate_held q12.1 (w64 (v3 + q12.2))))), none, some (.inl v5)]) (S := []) (M := mm q12.1 h) rfl rfl ?_
          exact s_Rate_sum_18_o26 KS KO hf ih
theorem s_Rate_sum_2_o26 {X : Xs} {d : Nat} {kS kO : VV → Int → Option (VV × Int)} (KS : ∀ {V : VV} {h : HP} {v : Int} {q : VV × Int}, kS V v = some q → Ok X (d + 7) 80 0 ([some (.inr (.inr (.inl 26))), some (.inr (.inr (.inl 27))), some (.inl v), none, none, none], [], mm V h) (fun M r => M = mm q.1 h ∧ r = some (.inr (.inl q.2)))) (KO : ∀ {V : VV} {h : HP} {v : Int} {q : VV × Int}, kO V v = some q → Ok X (d + 7) 82 0 ([some (.inr (.inr (.inl 26))), some (.inr (.inr (.inl 27))), some (.inl v), none, none, none, none, none, none], [], mm V h) (fun M r => M = mm q.1 h ∧ r = some (.inr (.inl q.2)))) {h : HP} {V : VV} {v2 : Int} {v3 : Int} {v5 : Int} {n : Nat} {q : VV × Int} (hf : f_Rate_sum_2 26 27 100 kS kO n V v2 v3 v5 = some q) : Ok X (d + 10) 80 2 ([some (.inr (.inr (.inl 26))), some (.inr (.inr (.inl 27))), some (.inl v2), some (.inr (.inl v3)), none, some (.inl v5)], [], mm V h) (fun M r => M = mm q.1 h ∧ r = some (.inr (.inl q.2))) :=
  s_Rate_sum_2_o26_n KS KO n V v2 v3 v5 hf
set_option maxRecDepth 20000 in
set_option maxHeartbeats 4000000 in
theorem s_Rate_sum_o26 {X : Xs} {d : Nat} {kS kO : VV → Int → Option (VV × Int)} (KS : ∀ {V : VV} {h : HP} {v : Int} {q : VV × Int}, kS V v = some q → Ok X (d + 7) 80 0 ([some (.inr (.inr (.inl 26))), some (.inr (.inr (.inl 27))), some (.inl v), none, none, none], [], mm V h) (fun M r => M = mm q.1 h ∧ r = some (.inr (.inl q.2)))) (KO : ∀ {V : VV} {h : HP} {v : Int} {q : VV × Int}, kO V v = some q → Ok X (d + 7) 82 0 ([some (.inr (.inr (.inl 26))), some (.inr (.inr (.inl 27))), some (.inl v), none, none, none, none, none, none], [], mm V h) (fun M r => M = mm q.1 h ∧ r = some (.inr (.inl q.2)))) {V : VV} {h : HP} {v2 : Int} {q : VV × Int} (hf : f_Rate_sum 26 27 100 kS kO V v2 = some q) : Ok X (d + 10) 80 0 ([some (.inr (.inr (.inl 26))), some (.inr (.inr (.inl 27))), some (.inl v2), none, none, none], [], mm V h) (fun M r => M = mm q.1 h ∧ r = some (.inr (.inl q.2))) := by
  let QQ : Mm → Option AV → Prop := fun M r => M = mm q.1 h ∧ r = some (.inr (.inl q.2))
  show Ok X (d + 10) 80 0 ([some (.inr (.inr (.inl 26))), some (.inr (.inr (.inl 27))), some (.inl v2), none, none, none], [], mm V h) QQ
  obtain ⟨q1, e1, hf⟩ := obind hf
  refine ok_callA (L := [some (.inr (.inr (.inl 26))), some (.inr (.inr (.inl 27))), some (.inl v2), none, none, none]) (M := mm V h) (args := [.inr (.inr (.inl 26)), .inr (.inr (.inl 27)), .inl v2]) (rest := []) (y2 := 81) rfl rfl rfl (Or.inl rfl) rfl rfl (Nat.le_of_ble_eq_true rfl) rfl rfl (Nat.le_of_ble_eq_true rfl) (Nat.le_of_ble_eq_true rfl) (s_Rate_product_o26 KS KO e1) ?_
  rintro _ _ ⟨rfl, rfl⟩
  refine ok_thru (L := [some (.inr (.inr (.inl 26))), some (.inr (.inr (.inl 27))), some (.inl v2), some (.inr (.inl q1.2)), none, some (.inl 0)]) (S := []) (M := mm q1.1 h) rfl rfl ?_
  exact s_Rate_sum_2_o26 KS KO hf
def RR (o ob on : Nat) : Nat → (VV → Int → Option (VV × Int)) × (VV → Int → Option (VV × Int))
  | 0 => (fun _ _ => none, fun _ _ => none)
  | n + 1 => (f_Rate_sum o ob on (RR o ob on n).1 (RR o ob on n).2, f_Rate_one o ob on (RR o ob on n).1 (RR o ob on n).2)
theorem s_RR_o16 {X : Xs} : ∀ (n : Nat), (∀ {d : Nat} {V : VV} {h : HP} {v : Int} {q : VV × Int}, (RR 16 17 400 n).1 V v = some q → Ok X (d + 3 * n + 7) 80 0 ([some (.inr (.inr (.inl 26))), some (.inr (.inr (.inl 17))), some (.inl v), none, none, none], [], mm V h) (fun M r => M = mm q.1 h ∧ r = some (.inr (.inl q.2)))) ∧ (∀ {d : Nat} {V : VV} {h : HP} {v : Int} {q : VV × Int}, (RR 16 17 400 n).2 V v = some q → Ok X (d + 3 * n + 7) 82 0 ([some (.inr (.inr (.inl 26))), some (.inr (.inr (.inl 17))), some (.inl v), none, none, none, none, none, none], [], mm V h) (fun M r => M = mm q.1 h ∧ r = some (.inr (.inl q.2)))) := by
  intro n
  induction n with
  | zero => exact ⟨fun h => (by cases h), fun h => (by cases h)⟩
  | succ n ih =>
    refine ⟨fun {d V h v q} hf => ?_, fun {d V h v q} hf => ?_⟩
    · rw [show d + 3 * (n + 1) + 7 = (d + 3 * n) + 10 by omega]
      exact s_Rate_sum_o16 (d := d + 3 * n) (fun e => ih.1 e) (fun e => ih.2 e) hf
    · rw [show d + 3 * (n + 1) + 7 = (d + 2 + 3 * n) + 8 by omega]
      exact s_Rate_one_o16 (d := d + 2 + 3 * n) (fun e => ih.1 e) (fun e => ih.2 e) hf
theorem w_sum_o16 {X : Xs} {d : Nat} {V : VV} {h : HP} {v : Int} {q : VV × Int} (hf : (RR 16 17 400 12).1 V v = some q) : Ok X (d + 43) 80 0 ([some (.inr (.inr (.inl 26))), some (.inr (.inr (.inl 17))), some (.inl v), none, none, none], [], mm V h) (fun M r => M = mm q.1 h ∧ r = some (.inr (.inl q.2))) := (s_RR_o16 12).1 hf
theorem s_RR_o26 {X : Xs} : ∀ (n : Nat), (∀ {d : Nat} {V : VV} {h : HP} {v : Int} {q : VV × Int}, (RR 26 27 100 n).1 V v = some q → Ok X (d + 3 * n + 7) 80 0 ([some (.inr (.inr (.inl 26))), some (.inr (.inr (.inl 27))), some (.inl v), none, none, none], [], mm V h) (fun M r => M = mm q.1 h ∧ r = some (.inr (.inl q.2)))) ∧ (∀ {d : Nat} {V : VV} {h : HP} {v : Int} {q : VV × Int}, (RR 26 27 100 n).2 V v = some q → Ok X (d + 3 * n + 7) 82 0 ([some (.inr (.inr (.inl 26))), some (.inr (.inr (.inl 27))), some (.inl v), none, none, none, none, none, none], [], mm V h) (fun M r => M = mm q.1 h ∧ r = some (.inr (.inl q.2)))) := by
  intro n
  induction n with
  | zero => exact ⟨fun h => (by cases h), fun h => (by cases h)⟩
  | succ n ih =>
    refine ⟨fun {d V h v q} hf => ?_, fun {d V h v q} hf => ?_⟩
    · rw [show d + 3 * (n + 1) + 7 = (d + 3 * n) + 10 by omega]
      exact s_Rate_sum_o26 (d := d + 3 * n) (fun e => ih.1 e) (fun e => ih.2 e) hf
    · rw [show d + 3 * (n + 1) + 7 = (d + 2 + 3 * n) + 8 by omega]
      exact s_Rate_one_o26 (d := d + 2 + 3 * n) (fun e => ih.1 e) (fun e => ih.2 e) hf
theorem w_sum_o26 {X : Xs} {d : Nat} {V : VV} {h : HP} {v : Int} {q : VV × Int} (hf : (RR 26 27 100 12).1 V v = some q) : Ok X (d + 43) 80 0 ([some (.inr (.inr (.inl 26))), some (.inr (.inr (.inl 27))), some (.inl v), none, none, none], [], mm V h) (fun M r => M = mm q.1 h ∧ r = some (.inr (.inl q.2))) := (s_RR_o26 12).1 hf
def f_Rate_read_4 (V : VV)  : Option (VV × Int) := if (f_Tape_isSound 16 17 400 V) = 0 then some (V, 0) else Option.bind (f_Tape_copyFrom V) (fun q3 => some (q3, 1))
set_option maxRecDepth 20000 in
set_option maxHeartbeats 4000000 in
theorem s_Rate_read_4 {X : Xs} {d : Nat} {V : VV} {h : HP} {q : VV × Int} (hf : f_Rate_read_4 V = some q) : Ok X (d + 44) 79 4 ([some (.inr (.inr (.inl 26))), some (.inr (.inr (.inl 17)))], [], mm V h) (fun M r => M = mm q.1 h ∧ r = some (.inl q.2) ∧ (q.2 = 0 ∨ q.2 = 1)) := by
  let QQ : Mm → Option AV → Prop := fun M r => M = mm q.1 h ∧ r = some (.inl q.2) ∧ (q.2 = 0 ∨ q.2 = 1)
  show Ok X (d + 44) 79 4 ([some (.inr (.inr (.inl 26))), some (.inr (.inr (.inl 17)))], [], mm V h) QQ
  refine ok_callA (L := [some (.inr (.inr (.inl 26))), some (.inr (.inr (.inl 17)))]) (M := mm V h) (args := [.inr (.inr (.inl 17))]) (rest := []) (y2 := 56) rfl rfl rfl (Or.inl rfl) rfl rfl (Nat.le_of_ble_eq_true rfl) rfl rfl (Nat.le_of_ble_eq_true rfl) (Nat.le_of_ble_eq_true rfl) (s_Tape_isSound_o16 rfl) ?_
  rintro _ _ ⟨rfl, rfl, hz1⟩
  refine ok_if_ne (x := f_Tape_isSound 16 17 400 V) (L := [some (.inr (.inr (.inl 26))), some (.inr (.inr (.inl 17)))]) (S := []) (M := mm V h) rfl rfl (fun c2 => ?_) (fun c2 => ?_)
  ·
    replace hf := (if_neg c2).symm.trans hf
    obtain ⟨q3, e3, hf⟩ := obind hf
    refine ok_callA (L := [some (.inr (.inr (.inl 26))), some (.inr (.inr (.inl 17)))]) (M := mm V h) (args := [.inr (.inr (.inl 27)), .inr (.inr (.inl 17))]) (rest := []) (y2 := 86) rfl rfl rfl (Or.inl rfl) rfl rfl (Nat.le_of_ble_eq_true rfl) rfl rfl (Nat.le_of_ble_eq_true rfl) (Nat.le_of_ble_eq_true rfl) (s_Tape_copyFrom e3) ?_
    rintro _ _ ⟨rfl, rfl⟩
    obtain rfl := Option.some.inj hf
    have hz : (1 : Int) = 0 ∨ (1 : Int) = 1 := by
      first | exact Or.inl rfl | exact Or.inr rfl | assumption | (repeat' split) <;> first | exact Or.inl rfl | exact Or.inr rfl | assumption
    refine ok_zreturn (L := [some (.inr (.inr (.inl 26))), some (.inr (.inr (.inl 17)))]) (M := mm q3 h) (x := 1) rfl rfl hz ?_
    exact ⟨rfl, rfl, hz⟩
  ·
    replace hf := (if_pos c2).symm.trans hf
    obtain rfl := Option.some.inj hf
    have hz : (0 : Int) = 0 ∨ (0 : Int) = 1 := by
      first | exact Or.inl rfl | exact Or.inr rfl | assumption | (repeat' split) <;> first | exact Or.inl rfl | exact Or.inr rfl | assumption
    refine ok_zreturn (L := [some (.inr (.inr (.inl 26))), some (.inr (.inr (.inl 17)))]) (M := mm V h) (x := 0) rfl rfl hz ?_
    exact ⟨rfl, rfl, hz⟩
def f_Rate_read (V : VV)  : Option (VV × Int) := Option.bind (f_Tape_start 16 17 400 V) (fun q1 => Option.bind ((RR 16 17 400 12).1 q1 0) (fun q2 => if (q2.1 16 2) = 0 then f_Rate_read_4 q2.1 else lt_ (f_Tape_fail 16 17 400 q2.1 1) (fun q4 => f_Rate_read_4 q4)))
set_option maxRecDepth 20000 in
set_option maxHeartbeats 4000000 in
theorem s_Rate_read {X : Xs} {d : Nat} {V : VV} {h : HP} {q : VV × Int} (hf : f_Rate_read V = some q) : Ok X (d + 44) 79 0 ([some (.inr (.inr (.inl 26))), some (.inr (.inr (.inl 17)))], [], mm V h) (fun M r => M = mm q.1 h ∧ r = some (.inl q.2) ∧ (q.2 = 0 ∨ q.2 = 1)) := by
  let QQ : Mm → Option AV → Prop := fun M r => M = mm q.1 h ∧ r = some (.inl q.2) ∧ (q.2 = 0 ∨ q.2 = 1)
  show Ok X (d + 44) 79 0 ([some (.inr (.inr (.inl 26))), some (.inr (.inr (.inl 17)))], [], mm V h) QQ
  obtain ⟨q1, e1, hf⟩ := obind hf
  refine ok_callA (L := [some (.inr (.inr (.inl 26))), some (.inr (.inr (.inl 17)))]) (M := mm V h) (args := [.inr (.inr (.inl 17))]) (rest := []) (y2 := 51) rfl rfl rfl (Or.inl rfl) rfl rfl (Nat.le_of_ble_eq_true rfl) rfl rfl (Nat.le_of_ble_eq_true rfl) (Nat.le_of_ble_eq_true rfl) (s_Tape_start_o16 e1) ?_
  rintro _ _ ⟨rfl, rfl⟩
  obtain ⟨q2, e2, hf⟩ := obind hf
  refine ok_callA (L := [some (.inr (.inr (.inl 26))), some (.inr (.inr (.inl 17)))]) (M := mm q1 h) (args := [.inr (.inr (.inl 26)), .inr (.inr (.inl 17)), .inl 0]) (rest := []) (y2 := 80) rfl rfl rfl (Or.inl rfl) rfl rfl (Nat.le_of_ble_eq_true rfl) rfl rfl (Nat.le_of_ble_eq_true rfl) (Nat.le_of_ble_eq_true rfl) (w_sum_o16 e2) ?_
  rintro _ _ ⟨rfl, rfl⟩
  refine ok_if_eq (x := q2.1 16 2) (L := [some (.inr (.inr (.inl 26))), some (.inr (.inr (.inl 17)))]) (S := []) (M := mm q2.1 h) rfl rfl (fun c3 => ?_) (fun c3 => ?_)
  ·
    replace hf := (if_pos c3).symm.trans hf
    exact s_Rate_read_4 hf
  ·
    replace hf := (if_neg c3).symm.trans hf
    obtain ⟨q4, e4, hf⟩ := lt_x hf
    refine ok_callA (L := [some (.inr (.inr (.inl 26))), some (.inr (.inr (.inl 17)))]) (M := mm q2.1 h) (args := [.inr (.inr (.inl 17)), .inl 1]) (rest := []) (y2 := 67) rfl rfl rfl (Or.inl rfl) rfl rfl (Nat.le_of_ble_eq_true rfl) rfl rfl (Nat.le_of_ble_eq_true rfl) (Nat.le_of_ble_eq_true rfl) (s_Tape_fail_o16 e4) ?_
    rintro _ _ ⟨rfl, rfl⟩
    exact s_Rate_read_4 hf
def f_Rate_tell (V : VV) (v1 : Int) (v2 : Int) (v3 : Int) (v4 : Int) : Option (VV × Int) := Option.bind (f_Tape_start 26 27 100 (up (up (up (up V 25 1 v1) 25 2 v2) 25 3 v3) 25 4 v4)) (fun q1 => Option.bind ((RR 26 27 100 12).1 q1 0) (fun q2 => some (q2.1, q2.2)))
set_option maxRecDepth 20000 in
set_option maxHeartbeats 4000000 in
theorem s_Rate_tell {X : Xs} {d : Nat} {V : VV} {h : HP} {v1 : Int} {v2 : Int} {v3 : Int} {v4 : Int} {q : VV × Int} (hf : f_Rate_tell V v1 v2 v3 v4 = some q) : Ok X (d + 44) 144 0 ([some (.inr (.inr (.inl 26))), some (.inl v1), some (.inl v2), some (.inl v3), some (.inl v4)], [], mm V h) (fun M r => M = mm q.1 h ∧ r = some (.inr (.inl q.2))) := by
  let QQ : Mm → Option AV → Prop := fun M r => M = mm q.1 h ∧ r = some (.inr (.inl q.2))
  show Ok X (d + 44) 144 0 ([some (.inr (.inr (.inl 26))), some (.inl v1), some (.inl v2), some (.inl v3), some (.inl v4)], [], mm V h) QQ
  obtain ⟨q1, e1, hf⟩ := obind hf
  refine ok_callA (L := [some (.inr (.inr (.inl 26))), some (.inl v1), some (.inl v2), some (.inl v3), some (.inl v4)]) (M := mm (up (up (up (up V 25 1 v1) 25 2 v2) 25 3 v3) 25 4 v4) h) (args := [.inr (.inr (.inl 27))]) (rest := []) (y2 := 51) rfl rfl rfl (Or.inl rfl) rfl rfl (Nat.le_of_ble_eq_true rfl) rfl rfl (Nat.le_of_ble_eq_true rfl) (Nat.le_of_ble_eq_true rfl) (s_Tape_start_o26 e1) ?_
  rintro _ _ ⟨rfl, rfl⟩
  obtain ⟨q2, e2, hf⟩ := obind hf
  refine ok_callA (L := [some (.inr (.inr (.inl 26))), some (.inl v1), some (.inl v2), some (.inl v3), some (.inl v4)]) (M := mm q1 h) (args := [.inr (.inr (.inl 26)), .inr (.inr (.inl 27)), .inl 0]) (rest := []) (y2 := 80) rfl rfl rfl (Or.inl rfl) rfl rfl (Nat.le_of_ble_eq_true rfl) rfl rfl (Nat.le_of_ble_eq_true rfl) (Nat.le_of_ble_eq_true rfl) (w_sum_o26 e2) ?_
  rintro _ _ ⟨rfl, rfl⟩
  obtain rfl := Option.some.inj hf
  refine ok_lreturn (L := [some (.inr (.inr (.inl 26))), some (.inl v1), some (.inl v2), some (.inl v3), some (.inl v4)]) (M := mm q2.1 h) (x := q2.2) rfl rfl ?_
  exact ⟨rfl, rfl⟩
def f_Br_rate (V : VV)  : Option (VV × Int) := if 100 < (V 16 1) then some (V, 0) else Option.bind (f_Rate_read V) (fun q2 => lt_ (f_Br_tapeWasRead q2.1) (fun q3 => some (q3, q2.2)))
set_option maxRecDepth 20000 in
set_option maxHeartbeats 4000000 in
theorem s_Br_rate {X : Xs} {d : Nat} {V : VV} {h : HP} {q : VV × Int} (hf : f_Br_rate V = some q) : Ok X (d + 45) 78 0 ([some (.inr (.inr (.inl 1))), none], [], mm V h) (fun M r => M = mm q.1 h ∧ r = some (.inl q.2) ∧ (q.2 = 0 ∨ q.2 = 1)) := by
  let QQ : Mm → Option AV → Prop := fun M r => M = mm q.1 h ∧ r = some (.inl q.2) ∧ (q.2 = 0 ∨ q.2 = 1)
  show Ok X (d + 45) 78 0 ([some (.inr (.inr (.inl 1))), none], [], mm V h) QQ
  refine ok_ic_le (x := V 16 1) (u := 100) (L := [some (.inr (.inr (.inl 1))), none]) (S := []) (M := mm V h) rfl rfl (fun c1 => ?_) (fun c1 => ?_)
  ·
    replace hf := (if_neg (Int.not_lt.mpr c1)).symm.trans hf
    obtain ⟨q2, e2, hf⟩ := obind hf
    refine ok_callA (L := [some (.inr (.inr (.inl 1))), none]) (M := mm V h) (args := [.inr (.inr (.inl 26)), .inr (.inr (.inl 17))]) (rest := []) (y2 := 79) rfl rfl rfl (Or.inl rfl) rfl rfl (Nat.le_of_ble_eq_true rfl) rfl rfl (Nat.le_of_ble_eq_true rfl) (Nat.le_of_ble_eq_true rfl) (s_Rate_read e2) ?_
    rintro _ _ ⟨rfl, rfl, hz2⟩
    obtain ⟨q3, e3, hf⟩ := lt_x hf
    refine ok_callA (L := [some (.inr (.inr (.inl 1))), some (.inl q2.2)]) (M := mm q2.1 h) (args := [.inr (.inr (.inl 1))]) (rest := []) (y2 := 77) rfl rfl rfl (Or.inl rfl) rfl rfl (Nat.le_of_ble_eq_true rfl) rfl rfl (Nat.le_of_ble_eq_true rfl) (Nat.le_of_ble_eq_true rfl) (s_Br_tapeWasRead e3) ?_
    rintro _ _ ⟨rfl, rfl⟩
    obtain rfl := Option.some.inj hf
    have hz : (q2.2 : Int) = 0 ∨ (q2.2 : Int) = 1 := by
      first | exact Or.inl rfl | exact Or.inr rfl | assumption | (repeat' split) <;> first | exact Or.inl rfl | exact Or.inr rfl | assumption
    refine ok_zreturn (L := [some (.inr (.inr (.inl 1))), some (.inl q2.2)]) (M := mm q3 h) (x := q2.2) rfl rfl hz ?_
    exact ⟨rfl, rfl, hz⟩
  ·
    replace hf := (if_pos c1).symm.trans hf
    obtain rfl := Option.some.inj hf
    have hz : (0 : Int) = 0 ∨ (0 : Int) = 1 := by
      first | exact Or.inl rfl | exact Or.inr rfl | assumption | (repeat' split) <;> first | exact Or.inl rfl | exact Or.inr rfl | assumption
    refine ok_zreturn (L := [some (.inr (.inr (.inl 1))), none]) (M := mm V h) (x := 0) rfl rfl hz ?_
    exact ⟨rfl, rfl, hz⟩
def f_Br_tells (V : VV) (v1 : Int) (v2 : Int) (v3 : Int) (v4 : Int) : Option (VV × Int) := if (f_Br_isTold V v1) = 0 then some (V, (-2000000000)) else if (f_Br_isTold V v2) = 0 then some (V, (-2000000000)) else if (f_Br_isTold V v3) = 0 then some (V, (-2000000000)) else if (f_Br_isTold V v4) = 0 then some (V, (-2000000000)) else Option.bind (f_Rate_tell V v1 v2 v3 v4) (fun q9 => some (q9.1, w32 q9.2))
set_option maxRecDepth 20000 in
set_option maxHeartbeats 4000000 in
theorem s_Br_tells {X : Xs} {d : Nat} {V : VV} {h : HP} {v1 : Int} {v2 : Int} {v3 : Int} {v4 : Int} {q : VV × Int} (hf : f_Br_tells V v1 v2 v3 v4 = some q) : Ok X (d + 45) 142 0 ([some (.inr (.inr (.inl 1))), some (.inl v1), some (.inl v2), some (.inl v3), some (.inl v4)], [], mm V h) (fun M r => M = mm q.1 h ∧ r = some (.inl q.2)) := by
  let QQ : Mm → Option AV → Prop := fun M r => M = mm q.1 h ∧ r = some (.inl q.2)
  show Ok X (d + 45) 142 0 ([some (.inr (.inr (.inl 1))), some (.inl v1), some (.inl v2), some (.inl v3), some (.inl v4)], [], mm V h) QQ
  refine ok_callA (L := [some (.inr (.inr (.inl 1))), some (.inl v1), some (.inl v2), some (.inl v3), some (.inl v4)]) (M := mm V h) (args := [.inl v1]) (rest := []) (y2 := 143) rfl rfl rfl (Or.inr (Or.inl rfl)) rfl rfl (Nat.le_of_ble_eq_true rfl) rfl rfl (Nat.le_of_ble_eq_true rfl) (Nat.le_of_ble_eq_true rfl) (s_Br_isTold rfl) ?_
  rintro _ _ ⟨rfl, rfl, hz1⟩
  refine ok_if_eq (x := f_Br_isTold V v1) (L := [some (.inr (.inr (.inl 1))), some (.inl v1), some (.inl v2), some (.inl v3), some (.inl v4)]) (S := []) (M := mm V h) rfl rfl (fun c2 => ?_) (fun c2 => ?_)
  ·
    replace hf := (if_pos c2).symm.trans hf
    obtain rfl := Option.some.inj hf
    refine ok_ireturn (L := [some (.inr (.inr (.inl 1))), some (.inl v1), some (.inl v2), some (.inl v3), some (.inl v4)]) (M := mm V h) (x := (-2000000000)) rfl rfl ?_
    exact ⟨rfl, rfl⟩
  ·
    replace hf := (if_neg c2).symm.trans hf
    refine ok_callA (L := [some (.inr (.inr (.inl 1))), some (.inl v1), some (.inl v2), some (.inl v3), some (.inl v4)]) (M := mm V h) (args := [.inl v2]) (rest := []) (y2 := 143) rfl rfl rfl (Or.inr (Or.inl rfl)) rfl rfl (Nat.le_of_ble_eq_true rfl) rfl rfl (Nat.le_of_ble_eq_true rfl) (Nat.le_of_ble_eq_true rfl) (s_Br_isTold rfl) ?_
    rintro _ _ ⟨rfl, rfl, hz3⟩
    refine ok_if_eq (x := f_Br_isTold V v2) (L := [some (.inr (.inr (.inl 1))), some (.inl v1), some (.inl v2), some (.inl v3), some (.inl v4)]) (S := []) (M := mm V h) rfl rfl (fun c4 => ?_) (fun c4 => ?_)
    ·
      replace hf := (if_pos c4).symm.trans hf
      obtain rfl := Option.some.inj hf
      refine ok_ireturn (L := [some (.inr (.inr (.inl 1))), some (.inl v1), some (.inl v2), some (.inl v3), some (.inl v4)]) (M := mm V h) (x := (-2000000000)) rfl rfl ?_
      exact ⟨rfl, rfl⟩
    ·
      replace hf := (if_neg c4).symm.trans hf
      refine ok_callA (L := [some (.inr (.inr (.inl 1))), some (.inl v1), some (.inl v2), some (.inl v3), some (.inl v4)]) (M := mm V h) (args := [.inl v3]) (rest := []) (y2 := 143) rfl rfl rfl (Or.inr (Or.inl rfl)) rfl rfl (Nat.le_of_ble_eq_true rfl) rfl rfl (Nat.le_of_ble_eq_true rfl) (Nat.le_of_ble_eq_true rfl) (s_Br_isTold rfl) ?_
      rintro _ _ ⟨rfl, rfl, hz5⟩
      refine ok_if_eq (x := f_Br_isTold V v3) (L := [some (.inr (.inr (.inl 1))), some (.inl v1), some (.inl v2), some (.inl v3), some (.inl v4)]) (S := []) (M := mm V h) rfl rfl (fun c6 => ?_) (fun c6 => ?_)
      ·
        replace hf := (if_pos c6).symm.trans hf
        obtain rfl := Option.some.inj hf
        refine ok_ireturn (L := [some (.inr (.inr (.inl 1))), some (.inl v1), some (.inl v2), some (.inl v3), some (.inl v4)]) (M := mm V h) (x := (-2000000000)) rfl rfl ?_
        exact ⟨rfl, rfl⟩
      ·
        replace hf := (if_neg c6).symm.trans hf
        refine ok_callA (L := [some (.inr (.inr (.inl 1))), some (.inl v1), some (.inl v2), some (.inl v3), some (.inl v4)]) (M := mm V h) (args := [.inl v4]) (rest := []) (y2 := 143) rfl rfl rfl (Or.inr (Or.inl rfl)) rfl rfl (Nat.le_of_ble_eq_true rfl) rfl rfl (Nat.le_of_ble_eq_true rfl) (Nat.le_of_ble_eq_true rfl) (s_Br_isTold rfl) ?_
        rintro _ _ ⟨rfl, rfl, hz7⟩
        refine ok_if_ne (x := f_Br_isTold V v4) (L := [some (.inr (.inr (.inl 1))), some (.inl v1), some (.inl v2), some (.inl v3), some (.inl v4)]) (S := []) (M := mm V h) rfl rfl (fun c8 => ?_) (fun c8 => ?_)
        ·
          replace hf := (if_neg c8).symm.trans hf
          obtain ⟨q9, e9, hf⟩ := obind hf
          refine ok_callA (L := [some (.inr (.inr (.inl 1))), some (.inl v1), some (.inl v2), some (.inl v3), some (.inl v4)]) (M := mm V h) (args := [.inr (.inr (.inl 26)), .inl v1, .inl v2, .inl v3, .inl v4]) (rest := []) (y2 := 144) rfl rfl rfl (Or.inl rfl) rfl rfl (Nat.le_of_ble_eq_true rfl) rfl rfl (Nat.le_of_ble_eq_true rfl) (Nat.le_of_ble_eq_true rfl) (s_Rate_tell e9) ?_
          rintro _ _ ⟨rfl, rfl⟩
          obtain rfl := Option.some.inj hf
          refine ok_ireturn (L := [some (.inr (.inr (.inl 1))), some (.inl v1), some (.inl v2), some (.inl v3), some (.inl v4)]) (M := mm q9.1 h) (x := w32 q9.2) rfl rfl ?_
          exact ⟨rfl, rfl⟩
        ·
          replace hf := (if_pos c8).symm.trans hf
          obtain rfl := Option.some.inj hf
          refine ok_ireturn (L := [some (.inr (.inr (.inl 1))), some (.inl v1), some (.inl v2), some (.inl v3), some (.inl v4)]) (M := mm V h) (x := (-2000000000)) rfl rfl ?_
          exact ⟨rfl, rfl⟩
def f_Br_pay_21 (k14 : VV → HP → Int → Int → Int → Int → (Option ((VV × HP) × Int))) (V : VV) (h : HP) (v3 : Int) (v5 : Int) (v6 : Int) (v8 : Int) (v9 : Int) (t0 : Int) : Option ((VV × HP) × Int) := Option.bind (f_Br_isColdJoint V v9) (fun q2 => Option.bind (f_Rolling_missedOn q2.1 v9) (fun q4 => Option.bind (f_Rate_tell q2.1 (atV V 9 36 v9) t0 (if q2.2 = 0 then 0 else 1 : Int) q4) (fun q5 => k14 q5.1 h v3 v5 (w64 (v6 + q5.2)) (w32 (v8 + 1)))))
set_option maxRecDepth 20000 in
set_option maxHeartbeats 4000000 in
theorem s_Br_pay_21 {X : Xs} {d : Nat} {k14 : VV → HP → Int → Int → Int → Int → (Option ((VV × HP) × Int))} {V : VV} {h : HP} {v3 : Int} {v5 : Int} {v6 : Int} {v8 : Int} {v9 : Int} {t0 : Int} {w1 : Int} {w2 : Int} {w4 : Int} {z10 : Option AV} {q : (VV × HP) × Int} (hh : HOK h) (hf : f_Br_pay_21 k14 V h v3 v5 v6 v8 v9 t0 = some q) (K14 : ∀ (V : VV) (h : HP) (v3 : Int) (v5 : Int) (v6 : Int) (v8 : Int) (w1 : Int) (w2 : Int) (w4 : Int) (z9 : Option AV) (z10 : Option AV), HOK h → k14 V h v3 v5 v6 v8 = some q → Ok X (d + 45) 145 14 ([some (.inr (.inr (.inl 1))), some (.inl w1), some (.inl w2), some (.inl v3), some (.inl w4), some (.inl v5), some (.inr (.inl v6)), none, some (.inl v8), z9, z10], [], mm V h) (fun M r => M = mm q.1.1 q.1.2 ∧ HOK q.1.2 ∧ r = some (.inr (.inl q.2)))) : Ok X (d + 45) 145 21 ([some (.inr (.inr (.inl 1))), some (.inl w1), some (.inl w2), some (.inl v3), some (.inl w4), some (.inl v5), some (.inr (.inl v6)), none, some (.inl v8), some (.inl v9), z10], [.inl t0], mm V h) (fun M r => M = mm q.1.1 q.1.2 ∧ HOK q.1.2 ∧ r = some (.inr (.inl q.2))) := by
  let QQ : Mm → Option AV → Prop := fun M r => M = mm q.1.1 q.1.2 ∧ HOK q.1.2 ∧ r = some (.inr (.inl q.2))
  show Ok X (d + 45) 145 21 ([some (.inr (.inr (.inl 1))), some (.inl w1), some (.inl w2), some (.inl v3), some (.inl w4), some (.inl v5), some (.inr (.inl v6)), none, some (.inl v8), some (.inl v9), z10], [.inl t0], mm V h) QQ
  refine ok_callA (L := [some (.inr (.inr (.inl 1))), some (.inl w1), some (.inl w2), some (.inl v3), some (.inl w4), some (.inl v5), some (.inr (.inl v6)), none, some (.inl v8), some (.inl v9), some (.inl t0)]) (M := mm V h) (args := [.inr (.inr (.inl 10)), .inl v9]) (rest := [.inr (.inr (.inl 26)), .inr (.inl v6)]) (y2 := 21) rfl rfl rfl (Or.inr (Or.inl rfl)) rfl rfl (Nat.le_of_ble_eq_true rfl) rfl rfl (Nat.le_of_ble_eq_true rfl) (Nat.le_of_ble_eq_true rfl) (w_at rfl rfl) ?_
  rintro _ _ ⟨rfl, rfl⟩
  obtain ⟨q2, e2, hf⟩ := obind hf
  refine ok_callA (L := [some (.inr (.inr (.inl 1))), some (.inl w1), some (.inl w2), some (.inl v3), some (.inl w4), some (.inl v5), some (.inr (.inl v6)), none, some (.inl v8), some (.inl v9), some (.inl t0)]) (M := mm V h) (args := [.inr (.inr (.inl 1)), .inl v9]) (rest := [.inl t0, .inl (atV V 9 36 v9), .inr (.inr (.inl 26)), .inr (.inl v6)]) (y2 := 137) rfl rfl rfl (Or.inl rfl) rfl rfl (Nat.le_of_ble_eq_true rfl) rfl rfl (Nat.le_of_ble_eq_true rfl) (Nat.le_of_ble_eq_true rfl) (s_Br_isColdJoint e2) ?_
  rintro _ _ ⟨rfl, rfl, hz2⟩
  have JN3 : Ok X (d + 45) 145 26 ([some (.inr (.inr (.inl 1))), some (.inl w1), some (.inl w2), some (.inl v3), some (.inl w4), some (.inl v5), some (.inr (.inl v6)), none, some (.inl v8), some (.inl v9), some (.inl t0)], [.inl (if q2.2 = 0 then 0 else 1 : Int), .inl t0, .inl (atV V 9 36 v9), .inr (.inr (.inl 26)), .inr (.inl v6)], mm q2.1 h) QQ := by
    obtain ⟨q4, e4, hf⟩ := obind hf
    refine ok_callA (L := [some (.inr (.inr (.inl 1))), some (.inl w1), some (.inl w2), some (.inl v3), some (.inl w4), some (.inl v5), some (.inr (.inl v6)), none, some (.inl v8), some (.inl v9), some (.inl t0)]) (M := mm q2.1 h) (args := [.inr (.inr (.inl 50)), .inl v9]) (rest := [.inl (if q2.2 = 0 then 0 else 1 : Int), .inl t0, .inl (atV V 9 36 v9), .inr (.inr (.inl 26)), .inr (.inl v6)]) (y2 := 139) rfl rfl rfl (Or.inl rfl) rfl rfl (Nat.le_of_ble_eq_true rfl) rfl rfl (Nat.le_of_ble_eq_true rfl) (Nat.le_of_ble_eq_true rfl) (s_Rolling_missedOn e4) ?_
    rintro _ _ ⟨rfl, rfl⟩
    obtain ⟨q5, e5, hf⟩ := obind hf
    refine ok_callA (L := [some (.inr (.inr (.inl 1))), some (.inl w1), some (.inl w2), some (.inl v3), some (.inl w4), some (.inl v5), some (.inr (.inl v6)), none, some (.inl v8), some (.inl v9), some (.inl t0)]) (M := mm q2.1 h) (args := [.inr (.inr (.inl 26)), .inl (atV V 9 36 v9), .inl t0, .inl (if q2.2 = 0 then 0 else 1 : Int), .inl q4]) (rest := [.inr (.inl v6)]) (y2 := 144) rfl rfl rfl (Or.inl rfl) rfl rfl (Nat.le_of_ble_eq_true rfl) rfl rfl (Nat.le_of_ble_eq_true rfl) (Nat.le_of_ble_eq_true rfl) (s_Rate_tell e5) ?_
    rintro _ _ ⟨rfl, rfl⟩
    refine ok_goto (L := [some (.inr (.inr (.inl 1))), some (.inl w1), some (.inl w2), some (.inl v3), some (.inl w4), some (.inl v5), some (.inr (.inl (w64 (v6 + q5.2)))), none, some (.inl (w32 (v8 + 1))), some (.inl v9), some (.inl t0)]) (S := []) (M := mm q5.1 h) rfl rfl ?_
    exact K14 q5.1 h v3 v5 (w64 (v6 + q5.2)) (w32 (v8 + 1)) w1 w2 w4 (some (.inl v9)) (some (.inl t0)) hh hf
  clear hf
  refine ok_if_eq (x := q2.2) (L := [some (.inr (.inr (.inl 1))), some (.inl w1), some (.inl w2), some (.inl v3), some (.inl w4), some (.inl v5), some (.inr (.inl v6)), none, some (.inl v8), some (.inl v9), some (.inl t0)]) (S := [.inl t0, .inl (atV V 9 36 v9), .inr (.inr (.inl 26)), .inr (.inl v6)]) (M := mm q2.1 h) rfl rfl (fun c6 => ?_) (fun c6 => ?_)
  ·
    simp only [if_pos c6] at JN3
    refine ok_thru (L := [some (.inr (.inr (.inl 1))), some (.inl w1), some (.inl w2), some (.inl v3), some (.inl w4), some (.inl v5), some (.inr (.inl v6)), none, some (.inl v8), some (.inl v9), some (.inl t0)]) (S := [.inl 0, .inl t0, .inl (atV V 9 36 v9), .inr (.inr (.inl 26)), .inr (.inl v6)]) (M := mm q2.1 h) rfl rfl ?_
    first | exact JN3 | (simp only [if_pos c6]; exact JN3)
  ·
    simp only [if_neg c6] at JN3
    refine ok_goto (L := [some (.inr (.inr (.inl 1))), some (.inl w1), some (.inl w2), some (.inl v3), some (.inl w4), some (.inl v5), some (.inr (.inl v6)), none, some (.inl v8), some (.inl v9), some (.inl t0)]) (S := [.inl 1, .inl t0, .inl (atV V 9 36 v9), .inr (.inr (.inl 26)), .inr (.inl v6)]) (M := mm q2.1 h) rfl rfl ?_
    first | exact JN3 | (simp only [if_neg c6]; exact JN3)
def f_Br_pay_14 : Nat → VV → HP → Int → Int → Int → Int → (Option ((VV × HP) × Int))
  | 0, _, _, _, _, _, _ => none
  | n + 1, V, h, v3, v5, v6, v8 => if v8 < (f_Road_jobs V) then if v8 < v3 then Option.bind (f_Br_denseOf V (atV V 58 36 v8)) (fun q6 => f_Br_pay_21 (f_Br_pay_14 n) q6.1 h v3 v5 v6 v8 (atV V 58 36 v8) q6.2) else f_Br_pay_21 (f_Br_pay_14 n) V h v3 v5 v6 v8 (atV V 58 36 v8) (cutV v5 v3) else some ((V, h), v6)
set_option maxRecDepth 20000 in
set_option maxHeartbeats 4000000 in
theorem s_Br_pay_14_n {X : Xs} {d : Nat}  {q : (VV × HP) × Int} : ∀ (n : Nat) (V : VV) (h : HP) (v3 : Int) (v5 : Int) (v6 : Int) (v8 : Int) (w1 : Int) (w2 : Int) (w4 : Int) (z9 : Option AV) (z10 : Option AV), HOK h → f_Br_pay_14 n V h v3 v5 v6 v8 = some q → Ok X (d + 45) 145 14 ([some (.inr (.inr (.inl 1))), some (.inl w1), some (.inl w2), some (.inl v3), some (.inl w4), some (.inl v5), some (.inr (.inl v6)), none, some (.inl v8), z9, z10], [], mm V h) (fun M r => M = mm q.1.1 q.1.2 ∧ HOK q.1.2 ∧ r = some (.inr (.inl q.2))) := by
  intro n
  induction n with
  | zero => intro V h v3 v5 v6 v8 w1 w2 w4 z9 z10 hh hf; cases hf
  | succ n ih =>
    intro V h v3 v5 v6 v8 w1 w2 w4 z9 z10 hh hf
    let QQ : Mm → Option AV → Prop := fun M r => M = mm q.1.1 q.1.2 ∧ HOK q.1.2 ∧ r = some (.inr (.inl q.2))
    show Ok X (d + 45) 145 14 ([some (.inr (.inr (.inl 1))), some (.inl w1), some (.inl w2), some (.inl v3), some (.inl w4), some (.inl v5), some (.inr (.inl v6)), none, some (.inl v8), z9, z10], [], mm V h) QQ
    refine ok_callA (L := [some (.inr (.inr (.inl 1))), some (.inl w1), some (.inl w2), some (.inl v3), some (.inl w4), some (.inl v5), some (.inr (.inl v6)), none, some (.inl v8), z9, z10]) (M := mm V h) (args := [.inr (.inr (.inl 2))]) (rest := [.inl v8]) (y2 := 25) rfl rfl rfl (Or.inl rfl) rfl rfl (Nat.le_of_ble_eq_true rfl) rfl rfl (Nat.le_of_ble_eq_true rfl) (Nat.le_of_ble_eq_true rfl) (s_Road_jobs rfl) ?_
    rintro _ _ ⟨rfl, rfl⟩
    refine ok_ic_ge (x := v8) (u := f_Road_jobs V) (L := [some (.inr (.inr (.inl 1))), some (.inl w1), some (.inl w2), some (.inl v3), some (.inl w4), some (.inl v5), some (.inr (.inl v6)), none, some (.inl v8), z9, z10]) (S := []) (M := mm V h) rfl rfl (fun c2 => ?_) (fun c2 => ?_)
    ·
      replace hf := (if_neg (Int.not_lt.mpr c2)).symm.trans hf
      obtain rfl := Option.some.inj hf
      refine ok_lreturn (L := [some (.inr (.inr (.inl 1))), some (.inl w1), some (.inl w2), some (.inl v3), some (.inl w4), some (.inl v5), some (.inr (.inl v6)), none, some (.inl v8), z9, z10]) (M := mm V h) (x := v6) rfl rfl ?_
      exact ⟨rfl, hh, rfl⟩
    ·
      replace hf := (if_pos c2).symm.trans hf
      refine ok_callA (L := [some (.inr (.inr (.inl 1))), some (.inl w1), some (.inl w2), some (.inl v3), some (.inl w4), some (.inl v5), some (.inr (.inl v6)), none, some (.inl v8), z9, z10]) (M := mm V h) (args := [.inr (.inr (.inl 59)), .inl v8]) (rest := []) (y2 := 21) rfl rfl rfl (Or.inr (Or.inl rfl)) rfl rfl (Nat.le_of_ble_eq_true rfl) rfl rfl (Nat.le_of_ble_eq_true rfl) (Nat.le_of_ble_eq_true rfl) (w_at rfl rfl) ?_
      rintro _ _ ⟨rfl, rfl⟩
      refine ok_ic_ge (x := v8) (u := v3) (L := [some (.inr (.inr (.inl 1))), some (.inl w1), some (.inl w2), some (.inl v3), some (.inl w4), some (.inl v5), some (.inr (.inl v6)), none, some (.inl v8), some (.inl (atV V 58 36 v8)), z10]) (S := []) (M := mm V h) rfl rfl (fun c4 => ?_) (fun c4 => ?_)
      ·
        replace hf := (if_neg (Int.not_lt.mpr c4)).symm.trans hf
        refine ok_callA (L := [some (.inr (.inr (.inl 1))), some (.inl w1), some (.inl w2), some (.inl v3), some (.inl w4), some (.inl v5), some (.inr (.inl v6)), none, some (.inl v8), some (.inl (atV V 58 36 v8)), z10]) (M := mm V h) (args := [.inl v5, .inl v3]) (rest := []) (y2 := 28) rfl rfl rfl (Or.inr (Or.inl rfl)) rfl rfl (Nat.le_of_ble_eq_true rfl) rfl rfl (Nat.le_of_ble_eq_true rfl) (Nat.le_of_ble_eq_true rfl) (w_cut rfl) ?_
        rintro _ _ ⟨rfl, rfl⟩
        exact s_Br_pay_21 hh hf ih
      ·
        replace hf := (if_pos c4).symm.trans hf
        obtain ⟨q6, e6, hf⟩ := obind hf
        refine ok_callA (L := [some (.inr (.inr (.inl 1))), some (.inl w1), some (.inl w2), some (.inl v3), some (.inl w4), some (.inl v5), some (.inr (.inl v6)), none, some (.inl v8), some (.inl (atV V 58 36 v8)), z10]) (M := mm V h) (args := [.inr (.inr (.inl 1)), .inl (atV V 58 36 v8)]) (rest := []) (y2 := 138) rfl rfl rfl (Or.inl rfl) rfl rfl (Nat.le_of_ble_eq_true rfl) rfl rfl (Nat.le_of_ble_eq_true rfl) (Nat.le_of_ble_eq_true rfl) (s_Br_denseOf e6) ?_
        rintro _ _ ⟨rfl, rfl⟩
        refine ok_goto (L := [some (.inr (.inr (.inl 1))), some (.inl w1), some (.inl w2), some (.inl v3), some (.inl w4), some (.inl v5), some (.inr (.inl v6)), none, some (.inl v8), some (.inl (atV V 58 36 v8)), z10]) (S := [.inl q6.2]) (M := mm q6.1 h) rfl rfl ?_
        exact s_Br_pay_21 hh hf ih
theorem s_Br_pay_14 {X : Xs} {d : Nat} {V : VV} {h : HP} {v3 : Int} {v5 : Int} {v6 : Int} {v8 : Int} {w1 : Int} {w2 : Int} {w4 : Int} {z9 : Option AV} {z10 : Option AV} {n : Nat} {q : (VV × HP) × Int} (hh : HOK h) (hf : f_Br_pay_14 n V h v3 v5 v6 v8 = some q) : Ok X (d + 45) 145 14 ([some (.inr (.inr (.inl 1))), some (.inl w1), some (.inl w2), some (.inl v3), some (.inl w4), some (.inl v5), some (.inr (.inl v6)), none, some (.inl v8), z9, z10], [], mm V h) (fun M r => M = mm q.1.1 q.1.2 ∧ HOK q.1.2 ∧ r = some (.inr (.inl q.2))) :=
  s_Br_pay_14_n n V h v3 v5 v6 v8 w1 w2 w4 z9 z10 hh hf
def f_Br_pay_9 : Nat → VV → HP → Int → Int → Int → (Option ((VV × HP) × Int))
  | 0, _, _, _, _, _ => none
  | n + 1, V, h, v3, v5, v6 => if v6 < v3 then Option.bind (f_Br_denseOf V (atV V 58 36 v6)) (fun q3 => f_Br_pay_9 n q3.1 h v3 (w32 (v5 + q3.2)) (w32 (v6 + 1))) else f_Br_pay_14 FU V h v3 v5 0 0
set_option maxRecDepth 20000 in
set_option maxHeartbeats 4000000 in
theorem s_Br_pay_9_n {X : Xs} {d : Nat}  {q : (VV × HP) × Int} : ∀ (n : Nat) (V : VV) (h : HP) (v3 : Int) (v5 : Int) (v6 : Int) (w1 : Int) (w2 : Int) (w4 : Int) (z7 : Option AV) (z8 : Option AV) (z9 : Option AV) (z10 : Option AV), HOK h → f_Br_pay_9 n V h v3 v5 v6 = some q → Ok X (d + 45) 145 9 ([some (.inr (.inr (.inl 1))), some (.inl w1), some (.inl w2), some (.inl v3), some (.inl w4), some (.inl v5), some (.inl v6), z7, z8, z9, z10], [], mm V h) (fun M r => M = mm q.1.1 q.1.2 ∧ HOK q.1.2 ∧ r = some (.inr (.inl q.2))) := by
  intro n
  induction n with
  | zero => intro V h v3 v5 v6 w1 w2 w4 z7 z8 z9 z10 hh hf; cases hf
  | succ n ih =>
    intro V h v3 v5 v6 w1 w2 w4 z7 z8 z9 z10 hh hf
    let QQ : Mm → Option AV → Prop := fun M r => M = mm q.1.1 q.1.2 ∧ HOK q.1.2 ∧ r = some (.inr (.inl q.2))
    show Ok X (d + 45) 145 9 ([some (.inr (.inr (.inl 1))), some (.inl w1), some (.inl w2), some (.inl v3), some (.inl w4), some (.inl v5), some (.inl v6), z7, z8, z9, z10], [], mm V h) QQ
    refine ok_ic_ge (x := v6) (u := v3) (L := [some (.inr (.inr (.inl 1))), some (.inl w1), some (.inl w2), some (.inl v3), some (.inl w4), some (.inl v5), some (.inl v6), z7, z8, z9, z10]) (S := []) (M := mm V h) rfl rfl (fun c1 => ?_) (fun c1 => ?_)
    ·
      replace hf := (if_neg (Int.not_lt.mpr c1)).symm.trans hf
      refine ok_thru (L := [some (.inr (.inr (.inl 1))), some (.inl w1), some (.inl w2), some (.inl v3), some (.inl w4), some (.inl v5), some (.inr (.inl 0)), none, some (.inl 0), z9, z10]) (S := []) (M := mm V h) rfl rfl ?_
      exact s_Br_pay_14 hh hf
    ·
      replace hf := (if_pos c1).symm.trans hf
      refine ok_callA (L := [some (.inr (.inr (.inl 1))), some (.inl w1), some (.inl w2), some (.inl v3), some (.inl w4), some (.inl v5), some (.inl v6), z7, z8, z9, z10]) (M := mm V h) (args := [.inr (.inr (.inl 59)), .inl v6]) (rest := [.inr (.inr (.inl 1)), .inl v5]) (y2 := 21) rfl rfl rfl (Or.inr (Or.inl rfl)) rfl rfl (Nat.le_of_ble_eq_true rfl) rfl rfl (Nat.le_of_ble_eq_true rfl) (Nat.le_of_ble_eq_true rfl) (w_at rfl rfl) ?_
      rintro _ _ ⟨rfl, rfl⟩
      obtain ⟨q3, e3, hf⟩ := obind hf
      refine ok_callA (L := [some (.inr (.inr (.inl 1))), some (.inl w1), some (.inl w2), some (.inl v3), some (.inl w4), some (.inl v5), some (.inl v6), z7, z8, z9, z10]) (M := mm V h) (args := [.inr (.inr (.inl 1)), .inl (atV V 58 36 v6)]) (rest := [.inl v5]) (y2 := 138) rfl rfl rfl (Or.inl rfl) rfl rfl (Nat.le_of_ble_eq_true rfl) rfl rfl (Nat.le_of_ble_eq_true rfl) (Nat.le_of_ble_eq_true rfl) (s_Br_denseOf e3) ?_
      rintro _ _ ⟨rfl, rfl⟩
      refine ok_goto (L := [some (.inr (.inr (.inl 1))), some (.inl w1), some (.inl w2), some (.inl v3), some (.inl w4), some (.inl (w32 (v5 + q3.2))), some (.inl (w32 (v6 + 1))), z7, z8, z9, z10]) (S := []) (M := mm q3.1 h) rfl rfl ?_
      exact ih q3.1 h v3 (w32 (v5 + q3.2)) (w32 (v6 + 1)) w1 w2 w4 z7 z8 z9 z10 hh hf
theorem s_Br_pay_9 {X : Xs} {d : Nat} {V : VV} {h : HP} {v3 : Int} {v5 : Int} {v6 : Int} {w1 : Int} {w2 : Int} {w4 : Int} {z7 : Option AV} {z8 : Option AV} {z9 : Option AV} {z10 : Option AV} {n : Nat} {q : (VV × HP) × Int} (hh : HOK h) (hf : f_Br_pay_9 n V h v3 v5 v6 = some q) : Ok X (d + 45) 145 9 ([some (.inr (.inr (.inl 1))), some (.inl w1), some (.inl w2), some (.inl v3), some (.inl w4), some (.inl v5), some (.inl v6), z7, z8, z9, z10], [], mm V h) (fun M r => M = mm q.1.1 q.1.2 ∧ HOK q.1.2 ∧ r = some (.inr (.inl q.2))) :=
  s_Br_pay_9_n n V h v3 v5 v6 w1 w2 w4 z7 z8 z9 z10 hh hf
def f_Br_pay (V : VV) (h : HP) (v1 : Int) (v2 : Int) (v3 : Int) (v4 : Int) : Option ((VV × HP) × Int) := if (isFromV v3 1 (f_Road_jobs V)) = 0 then some ((V, h), (-1)) else Option.bind (f_Br_isPaved V h v1 v2) (fun q4 => if q4.2 = 0 then some ((q4.1.1, (q4.1.2)), (-1)) else Option.bind (f_Rolling_roll q4.1.1 (q4.1.1 46 2)) (fun q6 => Option.bind (f_Br_draw q6 v3 v4) (fun q7 => f_Br_pay_9 FU q7 (q4.1.2) v3 0 0)))
set_option maxRecDepth 20000 in
set_option maxHeartbeats 4000000 in
theorem s_Br_pay {X : Xs} {d : Nat} {V : VV} {h : HP} {v1 : Int} {v2 : Int} {v3 : Int} {v4 : Int} {q : (VV × HP) × Int} (hh : HOK h) (hf : f_Br_pay V h v1 v2 v3 v4 = some q) : Ok X (d + 45) 145 0 ([some (.inr (.inr (.inl 1))), some (.inl v1), some (.inl v2), some (.inl v3), some (.inl v4), none, none, none, none, none, none], [], mm V h) (fun M r => M = mm q.1.1 q.1.2 ∧ HOK q.1.2 ∧ r = some (.inr (.inl q.2))) := by
  let QQ : Mm → Option AV → Prop := fun M r => M = mm q.1.1 q.1.2 ∧ HOK q.1.2 ∧ r = some (.inr (.inl q.2))
  show Ok X (d + 45) 145 0 ([some (.inr (.inr (.inl 1))), some (.inl v1), some (.inl v2), some (.inl v3), some (.inl v4), none, none, none, none, none, none], [], mm V h) QQ
  refine ok_callA (L := [some (.inr (.inr (.inl 1))), some (.inl v1), some (.inl v2), some (.inl v3), some (.inl v4), none, none, none, none, none, none]) (M := mm V h) (args := [.inr (.inr (.inl 2))]) (rest := [.inl 1, .inl v3]) (y2 := 25) rfl rfl rfl (Or.inl rfl) rfl rfl (Nat.le_of_ble_eq_true rfl) rfl rfl (Nat.le_of_ble_eq_true rfl) (Nat.le_of_ble_eq_true rfl) (s_Road_jobs rfl) ?_
  rintro _ _ ⟨rfl, rfl⟩
  refine ok_callA (L := [some (.inr (.inr (.inl 1))), some (.inl v1), some (.inl v2), some (.inl v3), some (.inl v4), none, none, none, none, none, none]) (M := mm V h) (args := [.inl v3, .inl 1, .inl (f_Road_jobs V)]) (rest := []) (y2 := 16) rfl rfl rfl (Or.inr (Or.inl rfl)) rfl rfl (Nat.le_of_ble_eq_true rfl) rfl rfl (Nat.le_of_ble_eq_true rfl) (Nat.le_of_ble_eq_true rfl) (w_isFrom rfl) ?_
  rintro _ _ ⟨rfl, rfl, hz2⟩
  refine ok_if_eq (x := isFromV v3 1 (f_Road_jobs V)) (L := [some (.inr (.inr (.inl 1))), some (.inl v1), some (.inl v2), some (.inl v3), some (.inl v4), none, none, none, none, none, none]) (S := []) (M := mm V h) rfl rfl (fun c3 => ?_) (fun c3 => ?_)
  ·
    replace hf := (if_pos c3).symm.trans hf
    obtain rfl := Option.some.inj hf
    refine ok_lreturn (L := [some (.inr (.inr (.inl 1))), some (.inl v1), some (.inl v2), some (.inl v3), some (.inl v4), none, none, none, none, none, none]) (M := mm V h) (x := (-1)) rfl rfl ?_
    exact ⟨rfl, hh, rfl⟩
  ·
    replace hf := (if_neg c3).symm.trans hf
    obtain ⟨q4, e4, hf⟩ := obind hf
    refine ok_callA (L := [some (.inr (.inr (.inl 1))), some (.inl v1), some (.inl v2), some (.inl v3), some (.inl v4), none, none, none, none, none, none]) (M := mm V h) (args := [.inr (.inr (.inl 1)), .inl v1, .inl v2]) (rest := []) (y2 := 93) rfl rfl rfl (Or.inl rfl) rfl rfl (Nat.le_of_ble_eq_true rfl) rfl rfl (Nat.le_of_ble_eq_true rfl) (Nat.le_of_ble_eq_true rfl) (s_Br_isPaved hh e4) ?_
    rintro _ _ ⟨rfl, hh, rfl, hz4⟩
    refine ok_if_ne (x := q4.2) (L := [some (.inr (.inr (.inl 1))), some (.inl v1), some (.inl v2), some (.inl v3), some (.inl v4), none, none, none, none, none, none]) (S := []) (M := mm q4.1.1 (q4.1.2)) rfl rfl (fun c5 => ?_) (fun c5 => ?_)
    ·
      replace hf := (if_neg c5).symm.trans hf
      obtain ⟨q6, e6, hf⟩ := obind hf
      refine ok_callA (L := [some (.inr (.inr (.inl 1))), some (.inl v1), some (.inl v2), some (.inl v3), some (.inl v4), none, none, none, none, none, none]) (M := mm q4.1.1 (q4.1.2)) (args := [.inr (.inr (.inl 50)), .inl (q4.1.1 46 2)]) (rest := []) (y2 := 133) rfl rfl rfl (Or.inl rfl) rfl rfl (Nat.le_of_ble_eq_true rfl) rfl rfl (Nat.le_of_ble_eq_true rfl) (Nat.le_of_ble_eq_true rfl) (s_Rolling_roll e6) ?_
      rintro _ _ ⟨rfl, rfl⟩
      obtain ⟨q7, e7, hf⟩ := obind hf
      refine ok_callA (L := [some (.inr (.inr (.inl 1))), some (.inl v1), some (.inl v2), some (.inl v3), some (.inl v4), none, none, none, none, none, none]) (M := mm q6 (q4.1.2)) (args := [.inr (.inr (.inl 1)), .inl v3, .inl v4]) (rest := []) (y2 := 146) rfl rfl rfl (Or.inl rfl) rfl rfl (Nat.le_of_ble_eq_true rfl) rfl rfl (Nat.le_of_ble_eq_true rfl) (Nat.le_of_ble_eq_true rfl) (s_Br_draw e7) ?_
      rintro _ _ ⟨rfl, rfl⟩
      refine ok_thru (L := [some (.inr (.inr (.inl 1))), some (.inl v1), some (.inl v2), some (.inl v3), some (.inl v4), some (.inl 0), some (.inl 0), none, none, none, none]) (S := []) (M := mm q7 (q4.1.2)) rfl rfl ?_
      exact s_Br_pay_9 hh hf
    ·
      replace hf := (if_pos c5).symm.trans hf
      obtain rfl := Option.some.inj hf
      refine ok_lreturn (L := [some (.inr (.inr (.inl 1))), some (.inl v1), some (.inl v2), some (.inl v3), some (.inl v4), none, none, none, none, none, none]) (M := mm q4.1.1 (q4.1.2)) (x := (-1)) rfl rfl ?_
      exact ⟨rfl, hh, rfl⟩
