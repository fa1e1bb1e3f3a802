/-! shallow functions of the program (printed by wip/tools/gen20.py) -/
def f_Tape_isWord_5 (o : Nat) (ob : Nat) (on : Nat) (j : Nat) : Nat → VV → Int → (Option (Int))
  | 0, _, _ => none
  | n + 1, V, v2 => if v2 < (lenW j) then Option.bind (chrO j v2) (fun q4 => if (atV V ob on (w32 ((V o 6) + v2))) = q4 then f_Tape_isWord_5 o ob on j n V (w32 (v2 + 1)) else some 0) else some 1
def f_Tape_isWord (o : Nat) (ob : Nat) (on : Nat) (j : Nat) (V : VV)  : Option (Int) := if (V o 2) = 1 then if (w32 ((V o 7) - (V o 6))) = (lenW j) then f_Tape_isWord_5 o ob on j FU V 0 else some 0 else some 0
set_option maxRecDepth 20000 in
set_option maxHeartbeats 4000000 in
theorem s_Tape_isWord_5_o16w0_n {X : Xs} {d : Nat} {V : VV} {h : HP} {q : Int} : ∀ (n : Nat) (v2 : Int), f_Tape_isWord_5 16 17 400 0 n V v2 = some q → Ok X (d + 6) 59 5 ([some (.inr (.inr (.inl 17))), some (.inr (.inr (.inr 10))), some (.inl v2)], [], mm V h) (fun M r => M = mm V h ∧ r = some (.inl q) ∧ (q = 0 ∨ q = 1)) := by
  intro n
  induction n with
  | zero => intro v2 hf; cases hf
  | succ n ih =>
    intro v2 hf
    let QQ : Mm → Option AV → Prop := fun M r => M = mm V h ∧ r = some (.inl q) ∧ (q = 0 ∨ q = 1)
    show Ok X (d + 6) 59 5 ([some (.inr (.inr (.inl 17))), some (.inr (.inr (.inr 10))), some (.inl v2)], [], mm V h) QQ
    refine ok_callA (L := [some (.inr (.inr (.inl 17))), some (.inr (.inr (.inr 10))), some (.inl v2)]) (M := mm V h) (args := [.inr (.inr (.inr 10))]) (rest := [.inl v2]) (y2 := 60) rfl rfl rfl (Or.inl rfl) rfl rfl (Nat.le_of_ble_eq_true rfl) rfl rfl (Nat.le_of_ble_eq_true rfl) (Nat.le_of_ble_eq_true rfl) (w_strlen (j := 0) (by decide) rfl) ?_
    rintro _ _ ⟨rfl, rfl⟩
    refine ok_ic_ge (x := v2) (u := lenW 0) (L := [some (.inr (.inr (.inl 17))), some (.inr (.inr (.inr 10))), some (.inl v2)]) (S := []) (M := mm V h) rfl rfl (fun c2 => ?_) (fun c2 => ?_)
    ·
      replace hf := (if_neg (Int.not_lt.mpr c2)).symm.trans hf
      obtain rfl := Option.some.inj hf
      have hz : (1 : Int) = 0 ∨ (1 : Int) = 1 := by
        first | exact Or.inl rfl | exact Or.inr rfl | assumption | (repeat' split) <;> first | exact Or.inl rfl | exact Or.inr rfl | assumption
      refine ok_zreturn (L := [some (.inr (.inr (.inl 17))), some (.inr (.inr (.inr 10))), some (.inl v2)]) (M := mm V h) (x := 1) rfl rfl hz ?_
      exact ⟨rfl, rfl, hz⟩
    ·
      replace hf := (if_pos c2).symm.trans hf
      refine ok_callA (L := [some (.inr (.inr (.inl 17))), some (.inr (.inr (.inr 10))), some (.inl v2)]) (M := mm V h) (args := [.inr (.inr (.inl 18)), .inl (w32 ((V 16 6) + v2))]) (rest := []) (y2 := 21) rfl rfl rfl (Or.inr (Or.inl rfl)) rfl rfl (Nat.le_of_ble_eq_true rfl) rfl rfl (Nat.le_of_ble_eq_true rfl) (Nat.le_of_ble_eq_true rfl) (w_at rfl rfl) ?_
      rintro _ _ ⟨rfl, rfl⟩
      obtain ⟨q4, e4, hf⟩ := obind hf
      refine ok_callA (L := [some (.inr (.inr (.inl 17))), some (.inr (.inr (.inr 10))), some (.inl v2)]) (M := mm V h) (args := [.inr (.inr (.inr 10)), .inl v2]) (rest := [.inl (atV V 17 400 (w32 ((V 16 6) + v2)))]) (y2 := 62) rfl rfl rfl (Or.inl rfl) rfl rfl (Nat.le_of_ble_eq_true rfl) rfl rfl (Nat.le_of_ble_eq_true rfl) (Nat.le_of_ble_eq_true rfl) (w_strchar (j := 0) (by decide) e4) ?_
      rintro _ _ ⟨rfl, rfl, hz4⟩
      refine ok_ic_eq (x := atV V 17 400 (w32 ((V 16 6) + v2))) (u := q4) (L := [some (.inr (.inr (.inl 17))), some (.inr (.inr (.inr 10))), some (.inl v2)]) (S := []) (M := mm V h) rfl rfl (fun c5 => ?_) (fun c5 => ?_)
      ·
        replace hf := (if_pos c5).symm.trans hf
        refine ok_goto (L := [some (.inr (.inr (.inl 17))), some (.inr (.inr (.inr 10))), some (.inl (w32 (v2 + 1)))]) (S := []) (M := mm V h) rfl rfl ?_
        exact ih (w32 (v2 + 1)) hf
      ·
        replace hf := (if_neg c5).symm.trans hf
        obtain rfl := Option.some.inj hf
        have hz : (0 : Int) = 0 ∨ (0 : Int) = 1 := by
          first | exact Or.inl rfl | exact Or.inr rfl | assumption | (repeat' split) <;> first | exact Or.inl rfl | exact Or.inr rfl | assumption
        refine ok_zreturn (L := [some (.inr (.inr (.inl 17))), some (.inr (.inr (.inr 10))), some (.inl v2)]) (M := mm V h) (x := 0) rfl rfl hz ?_
        exact ⟨rfl, rfl, hz⟩
theorem s_Tape_isWord_5_o16w0 {X : Xs} {d : Nat} {V : VV} {h : HP} {v2 : Int} {n : Nat} {q : Int} (hf : f_Tape_isWord_5 16 17 400 0 n V v2 = some q) : Ok X (d + 6) 59 5 ([some (.inr (.inr (.inl 17))), some (.inr (.inr (.inr 10))), some (.inl v2)], [], mm V h) (fun M r => M = mm V h ∧ r = some (.inl q) ∧ (q = 0 ∨ q = 1)) :=
  s_Tape_isWord_5_o16w0_n n v2 hf
set_option maxRecDepth 20000 in
set_option maxHeartbeats 4000000 in
theorem s_Tape_isWord_o16w0 {X : Xs} {d : Nat} {V : VV} {h : HP} {q : Int} (hf : f_Tape_isWord 16 17 400 0 V = some q) : Ok X (d + 6) 59 0 ([some (.inr (.inr (.inl 17))), some (.inr (.inr (.inr 10))), none], [], mm V h) (fun M r => M = mm V h ∧ r = some (.inl q) ∧ (q = 0 ∨ q = 1)) := by
  let QQ : Mm → Option AV → Prop := fun M r => M = mm V h ∧ r = some (.inl q) ∧ (q = 0 ∨ q = 1)
  show Ok X (d + 6) 59 0 ([some (.inr (.inr (.inl 17))), some (.inr (.inr (.inr 10))), none], [], mm V h) QQ
  refine ok_ic_ne (x := V 16 2) (u := 1) (L := [some (.inr (.inr (.inl 17))), some (.inr (.inr (.inr 10))), none]) (S := []) (M := mm V h) rfl rfl (fun c1 => ?_) (fun c1 => ?_)
  ·
    replace hf := (if_neg c1).symm.trans hf
    obtain rfl := Option.some.inj hf
    have hz : (0 : Int) = 0 ∨ (0 : Int) = 1 := by
      first | exact Or.inl rfl | exact Or.inr rfl | assumption | (repeat' split) <;> first | exact Or.inl rfl | exact Or.inr rfl | assumption
    refine ok_zreturn (L := [some (.inr (.inr (.inl 17))), some (.inr (.inr (.inr 10))), none]) (M := mm V h) (x := 0) rfl rfl hz ?_
    exact ⟨rfl, rfl, hz⟩
  ·
    replace hf := (if_pos c1).symm.trans hf
    refine ok_callA (L := [some (.inr (.inr (.inl 17))), some (.inr (.inr (.inr 10))), none]) (M := mm V h) (args := [.inr (.inr (.inr 10))]) (rest := [.inl (w32 ((V 16 7) - (V 16 6)))]) (y2 := 60) rfl rfl rfl (Or.inl rfl) rfl rfl (Nat.le_of_ble_eq_true rfl) rfl rfl (Nat.le_of_ble_eq_true rfl) (Nat.le_of_ble_eq_true rfl) (w_strlen (j := 0) (by decide) rfl) ?_
    rintro _ _ ⟨rfl, rfl⟩
    refine ok_ic_eq (x := w32 ((V 16 7) - (V 16 6))) (u := lenW 0) (L := [some (.inr (.inr (.inl 17))), some (.inr (.inr (.inr 10))), none]) (S := []) (M := mm V h) rfl rfl (fun c3 => ?_) (fun c3 => ?_)
    ·
      replace hf := (if_pos c3).symm.trans hf
      refine ok_thru (L := [some (.inr (.inr (.inl 17))), some (.inr (.inr (.inr 10))), some (.inl 0)]) (S := []) (M := mm V h) rfl rfl ?_
      exact s_Tape_isWord_5_o16w0 hf
    ·
      replace hf := (if_neg c3).symm.trans hf
      obtain rfl := Option.some.inj hf
      have hz : (0 : Int) = 0 ∨ (0 : Int) = 1 := by
        first | exact Or.inl rfl | exact Or.inr rfl | assumption | (repeat' split) <;> first | exact Or.inl rfl | exact Or.inr rfl | assumption
      refine ok_zreturn (L := [some (.inr (.inr (.inl 17))), some (.inr (.inr (.inr 10))), none]) (M := mm V h) (x := 0) rfl rfl hz ?_
      exact ⟨rfl, rfl, hz⟩
set_option maxRecDepth 20000 in
set_option maxHeartbeats 4000000 in
theorem s_Tape_isWord_5_o16w1_n {X : Xs} {d : Nat} {V : VV} {h : HP} {q : Int} : ∀ (n : Nat) (v2 : Int), f_Tape_isWord_5 16 17 400 1 n V v2 = some q → Ok X (d + 6) 59 5 ([some (.inr (.inr (.inl 17))), some (.inr (.inr (.inr 11))), some (.inl v2)], [], mm V h) (fun M r => M = mm V h ∧ r = some (.inl q) ∧ (q = 0 ∨ q = 1)) := by
  intro n
  induction n with
  | zero => intro v2 hf; cases hf
  | succ n ih =>
    intro v2 hf
    let QQ : Mm → Option AV → Prop := fun M r => M = mm V h ∧ r = some (.inl q) ∧ (q = 0 ∨ q = 1)
    show Ok X (d + 6) 59 5 ([some (.inr (.inr (.inl 17))), some (.inr (.inr (.inr 11))), some (.inl v2)], [], mm V h) QQ
    refine ok_callA (L := [some (.inr (.inr (.inl 17))), some (.inr (.inr (.inr 11))), some (.inl v2)]) (M := mm V h) (args := [.inr (.inr (.inr 11))]) (rest := [.inl v2]) (y2 := 60) rfl rfl rfl (Or.inl rfl) rfl rfl (Nat.le_of_ble_eq_true rfl) rfl rfl (Nat.le_of_ble_eq_true rfl) (Nat.le_of_ble_eq_true rfl) (w_strlen (j := 1) (by decide) rfl) ?_
    rintro _ _ ⟨rfl, rfl⟩
    refine ok_ic_ge (x := v2) (u := lenW 1) (L := [some (.inr (.inr (.inl 17))), some (.inr (.inr (.inr 11))), some (.inl v2)]) (S := []) (M := mm V h) rfl rfl (fun c2 => ?_) (fun c2 => ?_)
    ·
      replace hf := (if_neg (Int.not_lt.mpr c2)).symm.trans hf
      obtain rfl := Option.some.inj hf
      have hz : (1 : Int) = 0 ∨ (1 : Int) = 1 := by
        first | exact Or.inl rfl | exact Or.inr rfl | assumption | (repeat' split) <;> first | exact Or.inl rfl | exact Or.inr rfl | assumption
      refine ok_zreturn (L := [some (.inr (.inr (.inl 17))), some (.inr (.inr (.inr 11))), some (.inl v2)]) (M := mm V h) (x := 1) rfl rfl hz ?_
      exact ⟨rfl, rfl, hz⟩
    ·
      replace hf := (if_pos c2).symm.trans hf
      refine ok_callA (L := [some (.inr (.inr (.inl 17))), some (.inr (.inr (.inr 11))), some (.inl v2)]) (M := mm V h) (args := [.inr (.inr (.inl 18)), .inl (w32 ((V 16 6) + v2))]) (rest := []) (y2 := 21) rfl rfl rfl (Or.inr (Or.inl rfl)) rfl rfl (Nat.le_of_ble_eq_true rfl) rfl rfl (Nat.le_of_ble_eq_true rfl) (Nat.le_of_ble_eq_true rfl) (w_at rfl rfl) ?_
      rintro _ _ ⟨rfl, rfl⟩
      obtain ⟨q4, e4, hf⟩ := obind hf
      refine ok_callA (L := [some (.inr (.inr (.inl 17))), some (.inr (.inr (.inr 11))), some (.inl v2)]) (M := mm V h) (args := [.inr (.inr (.inr 11)), .inl v2]) (rest := [.inl (atV V 17 400 (w32 ((V 16 6) + v2)))]) (y2 := 62) rfl rfl rfl (Or.inl rfl) rfl rfl (Nat.le_of_ble_eq_true rfl) rfl rfl (Nat.le_of_ble_eq_true rfl) (Nat.le_of_ble_eq_true rfl) (w_strchar (j := 1) (by decide) e4) ?_
      rintro _ _ ⟨rfl, rfl, hz4⟩
      refine ok_ic_eq (x := atV V 17 400 (w32 ((V 16 6) + v2))) (u := q4) (L := [some (.inr (.inr (.inl 17))), some (.inr (.inr (.inr 11))), some (.inl v2)]) (S := []) (M := mm V h) rfl rfl (fun c5 => ?_) (fun c5 => ?_)
      ·
        replace hf := (if_pos c5).symm.trans hf
        refine ok_goto (L := [some (.inr (.inr (.inl 17))), some (.inr (.inr (.inr 11))), some (.inl (w32 (v2 + 1)))]) (S := []) (M := mm V h) rfl rfl ?_
        exact ih (w32 (v2 + 1)) hf
      ·
        replace hf := (if_neg c5).symm.trans hf
        obtain rfl := Option.some.inj hf
        have hz : (0 : Int) = 0 ∨ (0 : Int) = 1 := by
          first | exact Or.inl rfl | exact Or.inr rfl | assumption | (repeat' split) <;> first | exact Or.inl rfl | exact Or.inr rfl | assumption
        refine ok_zreturn (L := [some (.inr (.inr (.inl 17))), some (.inr (.inr (.inr 11))), some (.inl v2)]) (M := mm V h) (x := 0) rfl rfl hz ?_
        exact ⟨rfl, rfl, hz⟩
theorem s_Tape_isWord_5_o16w1 {X : Xs} {d : Nat} {V : VV} {h : HP} {v2 : Int} {n : Nat} {q : Int} (hf : f_Tape_isWord_5 16 17 400 1 n V v2 = some q) : Ok X (d + 6) 59 5 ([some (.inr (.inr (.inl 17))), some (.inr (.inr (.inr 11))), some (.inl v2)], [], mm V h) (fun M r => M = mm V h ∧ r = some (.inl q) ∧ (q = 0 ∨ q = 1)) :=
  s_Tape_isWord_5_o16w1_n n v2 hf
set_option maxRecDepth 20000 in
set_option maxHeartbeats 4000000 in
theorem s_Tape_isWord_o16w1 {X : Xs} {d : Nat} {V : VV} {h : HP} {q : Int} (hf : f_Tape_isWord 16 17 400 1 V = some q) : Ok X (d + 6) 59 0 ([some (.inr (.inr (.inl 17))), some (.inr (.inr (.inr 11))), none], [], mm V h) (fun M r => M = mm V h ∧ r = some (.inl q) ∧ (q = 0 ∨ q = 1)) := by
  let QQ : Mm → Option AV → Prop := fun M r => M = mm V h ∧ r = some (.inl q) ∧ (q = 0 ∨ q = 1)
  show Ok X (d + 6) 59 0 ([some (.inr (.inr (.inl 17))), some (.inr (.inr (.inr 11))), none], [], mm V h) QQ
  refine ok_ic_ne (x := V 16 2) (u := 1) (L := [some (.inr (.inr (.inl 17))), some (.inr (.inr (.inr 11))), none]) (S := []) (M := mm V h) rfl rfl (fun c1 => ?_) (fun c1 => ?_)
  ·
    replace hf := (if_neg c1).symm.trans hf
    obtain rfl := Option.some.inj hf
    have hz : (0 : Int) = 0 ∨ (0 : Int) = 1 := by
      first | exact Or.inl rfl | exact Or.inr rfl | assumption | (repeat' split) <;> first | exact Or.inl rfl | exact Or.inr rfl | assumption
    refine ok_zreturn (L := [some (.inr (.inr (.inl 17))), some (.inr (.inr (.inr 11))), none]) (M := mm V h) (x := 0) rfl rfl hz ?_
    exact ⟨rfl, rfl, hz⟩
  ·
    replace hf := (if_pos c1).symm.trans hf
    refine ok_callA (L := [some (.inr (.inr (.inl 17))), some (.inr (.inr (.inr 11))), none]) (M := mm V h) (args := [.inr (.inr (.inr 11))]) (rest := [.inl (w32 ((V 16 7) - (V 16 6)))]) (y2 := 60) rfl rfl rfl (Or.inl rfl) rfl rfl (Nat.le_of_ble_eq_true rfl) rfl rfl (Nat.le_of_ble_eq_true rfl) (Nat.le_of_ble_eq_true rfl) (w_strlen (j := 1) (by decide) rfl) ?_
    rintro _ _ ⟨rfl, rfl⟩
    refine ok_ic_eq (x := w32 ((V 16 7) - (V 16 6))) (u := lenW 1) (L := [some (.inr (.inr (.inl 17))), some (.inr (.inr (.inr 11))), none]) (S := []) (M := mm V h) rfl rfl (fun c3 => ?_) (fun c3 => ?_)
    ·
      replace hf := (if_pos c3).symm.trans hf
      refine ok_thru (L := [some (.inr (.inr (.inl 17))), some (.inr (.inr (.inr 11))), some (.inl 0)]) (S := []) (M := mm V h) rfl rfl ?_
      exact s_Tape_isWord_5_o16w1 hf
    ·
      replace hf := (if_neg c3).symm.trans hf
      obtain rfl := Option.some.inj hf
      have hz : (0 : Int) = 0 ∨ (0 : Int) = 1 := by
        first | exact Or.inl rfl | exact Or.inr rfl | assumption | (repeat' split) <;> first | exact Or.inl rfl | exact Or.inr rfl | assumption
      refine ok_zreturn (L := [some (.inr (.inr (.inl 17))), some (.inr (.inr (.inr 11))), none]) (M := mm V h) (x := 0) rfl rfl hz ?_
      exact ⟨rfl, rfl, hz⟩
set_option maxRecDepth 20000 in
set_option maxHeartbeats 4000000 in
theorem s_Tape_isWord_5_o16w2_n {X : Xs} {d : Nat} {V : VV} {h : HP} {q : Int} : ∀ (n : Nat) (v2 : Int), f_Tape_isWord_5 16 17 400 2 n V v2 = some q → Ok X (d + 6) 59 5 ([some (.inr (.inr (.inl 17))), some (.inr (.inr (.inr 12))), some (.inl v2)], [], mm V h) (fun M r => M = mm V h ∧ r = some (.inl q) ∧ (q = 0 ∨ q = 1)) := by
  intro n
  induction n with
  | zero => intro v2 hf; cases hf
  | succ n ih =>
    intro v2 hf
    let QQ : Mm → Option AV → Prop := fun M r => M = mm V h ∧ r = some (.inl q) ∧ (q = 0 ∨ q = 1)
    show Ok X (d + 6) 59 5 ([some (.inr (.inr (.inl 17))), some (.inr (.inr (.inr 12))), some (.inl v2)], [], mm V h) QQ
    refine ok_callA (L := [some (.inr (.inr (.inl 17))), some (.inr (.inr (.inr 12))), some (.inl v2)]) (M := mm V h) (args := [.inr (.inr (.inr 12))]) (rest := [.inl v2]) (y2 := 60) rfl rfl rfl (Or.inl rfl) rfl rfl (Nat.le_of_ble_eq_true rfl) rfl rfl (Nat.le_of_ble_eq_true rfl) (Nat.le_of_ble_eq_true rfl) (w_strlen (j := 2) (by decide) rfl) ?_
    rintro _ _ ⟨rfl, rfl⟩
    refine ok_ic_ge (x := v2) (u := lenW 2) (L := [some (.inr (.inr (.inl 17))), some (.inr (.inr (.inr 12))), some (.inl v2)]) (S := []) (M := mm V h) rfl rfl (fun c2 => ?_) (fun c2 => ?_)
    ·
      replace hf := (if_neg (Int.not_lt.mpr c2)).symm.trans hf
      obtain rfl := Option.some.inj hf
      have hz : (1 : Int) = 0 ∨ (1 : Int) = 1 := by
        first | exact Or.inl rfl | exact Or.inr rfl | assumption | (repeat' split) <;> first | exact Or.inl rfl | exact Or.inr rfl | assumption
      refine ok_zreturn (L := [some (.inr (.inr (.inl 17))), some (.inr (.inr (.inr 12))), some (.inl v2)]) (M := mm V h) (x := 1) rfl rfl hz ?_
      exact ⟨rfl, rfl, hz⟩
    ·
      replace hf := (if_pos c2).symm.trans hf
      refine ok_callA (L := [some (.inr (.inr (.inl 17))), some (.inr (.inr (.inr 12))), some (.inl v2)]) (M := mm V h) (args := [.inr (.inr (.inl 18)), .inl (w32 ((V 16 6) + v2))]) (rest := []) (y2 := 21) rfl rfl rfl (Or.inr (Or.inl rfl)) rfl rfl (Nat.le_of_ble_eq_true rfl) rfl rfl (Nat.le_of_ble_eq_true rfl) (Nat.le_of_ble_eq_true rfl) (w_at rfl rfl) ?_
      rintro _ _ ⟨rfl, rfl⟩
      obtain ⟨q4, e4, hf⟩ := obind hf
      refine ok_callA (L := [some (.inr (.inr (.inl 17))), some (.inr (.inr (.inr 12))), some (.inl v2)]) (M := mm V h) (args := [.inr (.inr (.inr 12)), .inl v2]) (rest := [.inl (atV V 17 400 (w32 ((V 16 6) + v2)))]) (y2 := 62) rfl rfl rfl (Or.inl rfl) rfl rfl (Nat.le_of_ble_eq_true rfl) rfl rfl (Nat.le_of_ble_eq_true rfl) (Nat.le_of_ble_eq_true rfl) (w_strchar (j := 2) (by decide) e4) ?_
      rintro _ _ ⟨rfl, rfl, hz4⟩
      refine ok_ic_eq (x := atV V 17 400 (w32 ((V 16 6) + v2))) (u := q4) (L := [some (.inr (.inr (.inl 17))), some (.inr (.inr (.inr 12))), some (.inl v2)]) (S := []) (M := mm V h) rfl rfl (fun c5 => ?_) (fun c5 => ?_)
      ·
        replace hf := (if_pos c5).symm.trans hf
        refine ok_goto (L := [some (.inr (.inr (.inl 17))), some (.inr (.inr (.inr 12))), some (.inl (w32 (v2 + 1)))]) (S := []) (M := mm V h) rfl rfl ?_
        exact ih (w32 (v2 + 1)) hf
      ·
        replace hf := (if_neg c5).symm.trans hf
        obtain rfl := Option.some.inj hf
        have hz : (0 : Int) = 0 ∨ (0 : Int) = 1 := by
          first | exact Or.inl rfl | exact Or.inr rfl | assumption | (repeat' split) <;> first | exact Or.inl rfl | exact Or.inr rfl | assumption
        refine ok_zreturn (L := [some (.inr (.inr (.inl 17))), some (.inr (.inr (.inr 12))), some (.inl v2)]) (M := mm V h) (x := 0) rfl rfl hz ?_
        exact ⟨rfl, rfl, hz⟩
theorem s_Tape_isWord_5_o16w2 {X : Xs} {d : Nat} {V : VV} {h : HP} {v2 : Int} {n : Nat} {q : Int} (hf : f_Tape_isWord_5 16 17 400 2 n V v2 = some q) : Ok X (d + 6) 59 5 ([some (.inr (.inr (.inl 17))), some (.inr (.inr (.inr 12))), some (.inl v2)], [], mm V h) (fun M r => M = mm V h ∧ r = some (.inl q) ∧ (q = 0 ∨ q = 1)) :=
  s_Tape_isWord_5_o16w2_n n v2 hf
set_option maxRecDepth 20000 in
set_option maxHeartbeats 4000000 in
theorem s_Tape_isWord_o16w2 {X : Xs} {d : Nat} {V : VV} {h : HP} {q : Int} (hf : f_Tape_isWord 16 17 400 2 V = some q) : Ok X (d + 6) 59 0 ([some (.inr (.inr (.inl 17))), some (.inr (.inr (.inr 12))), none], [], mm V h) (fun M r => M = mm V h ∧ r = some (.inl q) ∧ (q = 0 ∨ q = 1)) := by
  let QQ : Mm → Option AV → Prop := fun M r => M = mm V h ∧ r = some (.inl q) ∧ (q = 0 ∨ q = 1)
  show Ok X (d + 6) 59 0 ([some (.inr (.inr (.inl 17))), some (.inr (.inr (.inr 12))), none], [], mm V h) QQ
  refine ok_ic_ne (x := V 16 2) (u := 1) (L := [some (.inr (.inr (.inl 17))), some (.inr (.inr (.inr 12))), none]) (S := []) (M := mm V h) rfl rfl (fun c1 => ?_) (fun c1 => ?_)
  ·
    replace hf := (if_neg c1).symm.trans hf
    obtain rfl := Option.some.inj hf
    have hz : (0 : Int) = 0 ∨ (0 : Int) = 1 := by
      first | exact Or.inl rfl | exact Or.inr rfl | assumption | (repeat' split) <;> first | exact Or.inl rfl | exact Or.inr rfl | assumption
    refine ok_zreturn (L := [some (.inr (.inr (.inl 17))), some (.inr (.inr (.inr 12))), none]) (M := mm V h) (x := 0) rfl rfl hz ?_
    exact ⟨rfl, rfl, hz⟩
  ·
    replace hf := (if_pos c1).symm.trans hf
    refine ok_callA (L := [some (.inr (.inr (.inl 17))), some (.inr (.inr (.inr 12))), none]) (M := mm V h) (args := [.inr (.inr (.inr 12))]) (rest := [.inl (w32 ((V 16 7) - (V 16 6)))]) (y2 := 60) rfl rfl rfl (Or.inl rfl) rfl rfl (Nat.le_of_ble_eq_true rfl) rfl rfl (Nat.le_of_ble_eq_true rfl) (Nat.le_of_ble_eq_true rfl) (w_strlen (j := 2) (by decide) rfl) ?_
    rintro _ _ ⟨rfl, rfl⟩
    refine ok_ic_eq (x := w32 ((V 16 7) - (V 16 6))) (u := lenW 2) (L := [some (.inr (.inr (.inl 17))), some (.inr (.inr (.inr 12))), none]) (S := []) (M := mm V h) rfl rfl (fun c3 => ?_) (fun c3 => ?_)
    ·
      replace hf := (if_pos c3).symm.trans hf
      refine ok_thru (L := [some (.inr (.inr (.inl 17))), some (.inr (.inr (.inr 12))), some (.inl 0)]) (S := []) (M := mm V h) rfl rfl ?_
      exact s_Tape_isWord_5_o16w2 hf
    ·
      replace hf := (if_neg c3).symm.trans hf
      obtain rfl := Option.some.inj hf
      have hz : (0 : Int) = 0 ∨ (0 : Int) = 1 := by
        first | exact Or.inl rfl | exact Or.inr rfl | assumption | (repeat' split) <;> first | exact Or.inl rfl | exact Or.inr rfl | assumption
      refine ok_zreturn (L := [some (.inr (.inr (.inl 17))), some (.inr (.inr (.inr 12))), none]) (M := mm V h) (x := 0) rfl rfl hz ?_
      exact ⟨rfl, rfl, hz⟩
set_option maxRecDepth 20000 in
set_option maxHeartbeats 4000000 in
theorem s_Tape_isWord_5_o16w3_n {X : Xs} {d : Nat} {V : VV} {h : HP} {q : Int} : ∀ (n : Nat) (v2 : Int), f_Tape_isWord_5 16 17 400 3 n V v2 = some q → Ok X (d + 6) 59 5 ([some (.inr (.inr (.inl 17))), some (.inr (.inr (.inr 13))), some (.inl v2)], [], mm V h) (fun M r => M = mm V h ∧ r = some (.inl q) ∧ (q = 0 ∨ q = 1)) := by
  intro n
  induction n with
  | zero => intro v2 hf; cases hf
  | succ n ih =>
    intro v2 hf
    let QQ : Mm → Option AV → Prop := fun M r => M = mm V h ∧ r = some (.inl q) ∧ (q = 0 ∨ q = 1)
    show Ok X (d + 6) 59 5 ([some (.inr (.inr (.inl 17))), some (.inr (.inr (.inr 13))), some (.inl v2)], [], mm V h) QQ
    refine ok_callA (L := [some (.inr (.inr (.inl 17))), some (.inr (.inr (.inr 13))), some (.inl v2)]) (M := mm V h) (args := [.inr (.inr (.inr 13))]) (rest := [.inl v2]) (y2 := 60) rfl rfl rfl (Or.inl rfl) rfl rfl (Nat.le_of_ble_eq_true rfl) rfl rfl (Nat.le_of_ble_eq_true rfl) (Nat.le_of_ble_eq_true rfl) (w_strlen (j := 3) (by decide) rfl) ?_
    rintro _ _ ⟨rfl, rfl⟩
    refine ok_ic_ge (x := v2) (u := lenW 3) (L := [some (.inr (.inr (.inl 17))), some (.inr (.inr (.inr 13))), some (.inl v2)]) (S := []) (M := mm V h) rfl rfl (fun c2 => ?_) (fun c2 => ?_)
    ·
      replace hf := (if_neg (Int.not_lt.mpr c2)).symm.trans hf
      obtain rfl := Option.some.inj hf
      have hz : (1 : Int) = 0 ∨ (1 : Int) = 1 := by
        first | exact Or.inl rfl | exact Or.inr rfl | assumption | (repeat' split) <;> first | exact Or.inl rfl | exact Or.inr rfl | assumption
      refine ok_zreturn (L := [some (.inr (.inr (.inl 17))), some (.inr (.inr (.inr 13))), some (.inl v2)]) (M := mm V h) (x := 1) rfl rfl hz ?_
      exact ⟨rfl, rfl, hz⟩
    ·
      replace hf := (if_pos c2).symm.trans hf
      refine ok_callA (L := [some (.inr (.inr (.inl 17))), some (.inr (.inr (.inr 13))), some (.inl v2)]) (M := mm V h) (args := [.inr (.inr (.inl 18)), .inl (w32 ((V 16 6) + v2))]) (rest := []) (y2 := 21) rfl rfl rfl (Or.inr (Or.inl rfl)) rfl rfl (Nat.le_of_ble_eq_true rfl) rfl rfl (Nat.le_of_ble_eq_true rfl) (Nat.le_of_ble_eq_true rfl) (w_at rfl rfl) ?_
      rintro _ _ ⟨rfl, rfl⟩
      obtain ⟨q4, e4, hf⟩ := obind hf
      refine ok_callA (L := [some (.inr (.inr (.inl 17))), some (.inr (.inr (.inr 13))), some (.inl v2)]) (M := mm V h) (args := [.inr (.inr (.inr 13)), .inl v2]) (rest := [.inl (atV V 17 400 (w32 ((V 16 6) + v2)))]) (y2 := 62) rfl rfl rfl (Or.inl rfl) rfl rfl (Nat.le_of_ble_eq_true rfl) rfl rfl (Nat.le_of_ble_eq_true rfl) (Nat.le_of_ble_eq_true rfl) (w_strchar (j := 3) (by decide) e4) ?_
      rintro _ _ ⟨rfl, rfl, hz4⟩
      refine ok_ic_eq (x := atV V 17 400 (w32 ((V 16 6) + v2))) (u := q4) (L := [some (.inr (.inr (.inl 17))), some (.inr (.inr (.inr 13))), some (.inl v2)]) (S := []) (M := mm V h) rfl rfl (fun c5 => ?_) (fun c5 => ?_)
      ·
        replace hf := (if_pos c5).symm.trans hf
        refine ok_goto (L := [some (.inr (.inr (.inl 17))), some (.inr (.inr (.inr 13))), some (.inl (w32 (v2 + 1)))]) (S := []) (M := mm V h) rfl rfl ?_
        exact ih (w32 (v2 + 1)) hf
      ·
        replace hf := (if_neg c5).symm.trans hf
        obtain rfl := Option.some.inj hf
        have hz : (0 : Int) = 0 ∨ (0 : Int) = 1 := by
          first | exact Or.inl rfl | exact Or.inr rfl | assumption | (repeat' split) <;> first | exact Or.inl rfl | exact Or.inr rfl | assumption
        refine ok_zreturn (L := [some (.inr (.inr (.inl 17))), some (.inr (.inr (.inr 13))), some (.inl v2)]) (M := mm V h) (x := 0) rfl rfl hz ?_
        exact ⟨rfl, rfl, hz⟩
theorem s_Tape_isWord_5_o16w3 {X : Xs} {d : Nat} {V : VV} {h : HP} {v2 : Int} {n : Nat} {q : Int} (hf : f_Tape_isWord_5 16 17 400 3 n V v2 = some q) : Ok X (d + 6) 59 5 ([some (.inr (.inr (.inl 17))), some (.inr (.inr (.inr 13))), some (.inl v2)], [], mm V h) (fun M r => M = mm V h ∧ r = some (.inl q) ∧ (q = 0 ∨ q = 1)) :=
  s_Tape_isWord_5_o16w3_n n v2 hf
set_option maxRecDepth 20000 in
set_option maxHeartbeats 4000000 in
theorem s_Tape_isWord_o16w3 {X : Xs} {d : Nat} {V : VV} {h : HP} {q : Int} (hf : f_Tape_isWord 16 17 400 3 V = some q) : Ok X (d + 6) 59 0 ([some (.inr (.inr (.inl 17))), some (.inr (.inr (.inr 13))), none], [], mm V h) (fun M r => M = mm V h ∧ r = some (.inl q) ∧ (q = 0 ∨ q = 1)) := by
  let QQ : Mm → Option AV → Prop := fun M r => M = mm V h ∧ r = some (.inl q) ∧ (q = 0 ∨ q = 1)
  show Ok X (d + 6) 59 0 ([some (.inr (.inr (.inl 17))), some (.inr (.inr (.inr 13))), none], [], mm V h) QQ
  refine ok_ic_ne (x := V 16 2) (u := 1) (L := [some (.inr (.inr (.inl 17))), some (.inr (.inr (.inr 13))), none]) (S := []) (M := mm V h) rfl rfl (fun c1 => ?_) (fun c1 => ?_)
  ·
    replace hf := (if_neg c1).symm.trans hf
    obtain rfl := Option.some.inj hf
    have hz : (0 : Int) = 0 ∨ (0 : Int) = 1 := by
      first | exact Or.inl rfl | exact Or.inr rfl | assumption | (repeat' split) <;> first | exact Or.inl rfl | exact Or.inr rfl | assumption
    refine ok_zreturn (L := [some (.inr (.inr (.inl 17))), some (.inr (.inr (.inr 13))), none]) (M := mm V h) (x := 0) rfl rfl hz ?_
    exact ⟨rfl, rfl, hz⟩
  ·
    replace hf := (if_pos c1).symm.trans hf
    refine ok_callA (L := [some (.inr (.inr (.inl 17))), some (.inr (.inr (.inr 13))), none]) (M := mm V h) (args := [.inr (.inr (.inr 13))]) (rest := [.inl (w32 ((V 16 7) - (V 16 6)))]) (y2 := 60) rfl rfl rfl (Or.inl rfl) rfl rfl (Nat.le_of_ble_eq_true rfl) rfl rfl (Nat.le_of_ble_eq_true rfl) (Nat.le_of_ble_eq_true rfl) (w_strlen (j := 3) (by decide) rfl) ?_
    rintro _ _ ⟨rfl, rfl⟩
    refine ok_ic_eq (x := w32 ((V 16 7) - (V 16 6))) (u := lenW 3) (L := [some (.inr (.inr (.inl 17))), some (.inr (.inr (.inr 13))), none]) (S := []) (M := mm V h) rfl rfl (fun c3 => ?_) (fun c3 => ?_)
    ·
      replace hf := (if_pos c3).symm.trans hf
      refine ok_thru (L := [some (.inr (.inr (.inl 17))), some (.inr (.inr (.inr 13))), some (.inl 0)]) (S := []) (M := mm V h) rfl rfl ?_
      exact s_Tape_isWord_5_o16w3 hf
    ·
      replace hf := (if_neg c3).symm.trans hf
      obtain rfl := Option.some.inj hf
      have hz : (0 : Int) = 0 ∨ (0 : Int) = 1 := by
        first | exact Or.inl rfl | exact Or.inr rfl | assumption | (repeat' split) <;> first | exact Or.inl rfl | exact Or.inr rfl | assumption
      refine ok_zreturn (L := [some (.inr (.inr (.inl 17))), some (.inr (.inr (.inr 13))), none]) (M := mm V h) (x := 0) rfl rfl hz ?_
      exact ⟨rfl, rfl, hz⟩
set_option maxRecDepth 20000 in
set_option maxHeartbeats 4000000 in
theorem s_Tape_isWord_5_o16w4_n {X : Xs} {d : Nat} {V : VV} {h : HP} {q : Int} : ∀ (n : Nat) (v2 : Int), f_Tape_isWord_5 16 17 400 4 n V v2 = some q → Ok X (d + 6) 59 5 ([some (.inr (.inr (.inl 17))), some (.inr (.inr (.inr 14))), some (.inl v2)], [], mm V h) (fun M r => M = mm V h ∧ r = some (.inl q) ∧ (q = 0 ∨ q = 1)) := by
  intro n
  induction n with
  | zero => intro v2 hf; cases hf
  | succ n ih =>
    intro v2 hf
    let QQ : Mm → Option AV → Prop := fun M r => M = mm V h ∧ r = some (.inl q) ∧ (q = 0 ∨ q = 1)
    show Ok X (d + 6) 59 5 ([some (.inr (.inr (.inl 17))), some (.inr (.inr (.inr 14))), some (.inl v2)], [], mm V h) QQ
    refine ok_callA (L := [some (.inr (.inr (.inl 17))), some (.inr (.inr (.inr 14))), some (.inl v2)]) (M := mm V h) (args := [.inr (.inr (.inr 14))]) (rest := [.inl v2]) (y2 := 60) rfl rfl rfl (Or.inl rfl) rfl rfl (Nat.le_of_ble_eq_true rfl) rfl rfl (Nat.le_of_ble_eq_true rfl) (Nat.le_of_ble_eq_true rfl) (w_strlen (j := 4) (by decide) rfl) ?_
    rintro _ _ ⟨rfl, rfl⟩
    refine ok_ic_ge (x := v2) (u := lenW 4) (L := [some (.inr (.inr (.inl 17))), some (.inr (.inr (.inr 14))), some (.inl v2)]) (S := []) (M := mm V h) rfl rfl (fun c2 => ?_) (fun c2 => ?_)
    ·
      replace hf := (if_neg (Int.not_lt.mpr c2)).symm.trans hf
      obtain rfl := Option.some.inj hf
      have hz : (1 : Int) = 0 ∨ (1 : Int) = 1 := by
        first | exact Or.inl rfl | exact Or.inr rfl | assumption | (repeat' split) <;> first | exact Or.inl rfl | exact Or.inr rfl | assumption
      refine ok_zreturn (L := [some (.inr (.inr (.inl 17))), some (.inr (.inr (.inr 14))), some (.inl v2)]) (M := mm V h) (x := 1) rfl rfl hz ?_
      exact ⟨rfl, rfl, hz⟩
    ·
      replace hf := (if_pos c2).symm.trans hf
      refine ok_callA (L := [some (.inr (.inr (.inl 17))), some (.inr (.inr (.inr 14))), some (.inl v2)]) (M := mm V h) (args := [.inr (.inr (.inl 18)), .inl (w32 ((V 16 6) + v2))]) (rest := []) (y2 := 21) rfl rfl rfl (Or.inr (Or.inl rfl)) rfl rfl (Nat.le_of_ble_eq_true rfl) rfl rfl (Nat.le_of_ble_eq_true rfl) (Nat.le_of_ble_eq_true rfl) (w_at rfl rfl) ?_
      rintro _ _ ⟨rfl, rfl⟩
      obtain ⟨q4, e4, hf⟩ := obind hf
      refine ok_callA (L := [some (.inr (.inr (.inl 17))), some (.inr (.inr (.inr 14))), some (.inl v2)]) (M := mm V h) (args := [.inr (.inr (.inr 14)), .inl v2]) (rest := [.inl (atV V 17 400 (w32 ((V 16 6) + v2)))]) (y2 := 62) rfl rfl rfl (Or.inl rfl) rfl rfl (Nat.le_of_ble_eq_true rfl) rfl rfl (Nat.le_of_ble_eq_true rfl) (Nat.le_of_ble_eq_true rfl) (w_strchar (j := 4) (by decide) e4) ?_
      rintro _ _ ⟨rfl, rfl, hz4⟩
      refine ok_ic_eq (x := atV V 17 400 (w32 ((V 16 6) + v2))) (u := q4) (L := [some (.inr (.inr (.inl 17))), some (.inr (.inr (.inr 14))), some (.inl v2)]) (S := []) (M := mm V h) rfl rfl (fun c5 => ?_) (fun c5 => ?_)
      ·
        replace hf := (if_pos c5).symm.trans hf
        refine ok_goto (L := [some (.inr (.inr (.inl 17))), some (.inr (.inr (.inr 14))), some (.inl (w32 (v2 + 1)))]) (S := []) (M := mm V h) rfl rfl ?_
        exact ih (w32 (v2 + 1)) hf
      ·
        replace hf := (if_neg c5).symm.trans hf
        obtain rfl := Option.some.inj hf
        have hz : (0 : Int) = 0 ∨ (0 : Int) = 1 := by
          first | exact Or.inl rfl | exact Or.inr rfl | assumption | (repeat' split) <;> first | exact Or.inl rfl | exact Or.inr rfl | assumption
        refine ok_zreturn (L := [some (.inr (.inr (.inl 17))), some (.inr (.inr (.inr 14))), some (.inl v2)]) (M := mm V h) (x := 0) rfl rfl hz ?_
        exact ⟨rfl, rfl, hz⟩
theorem s_Tape_isWord_5_o16w4 {X : Xs} {d : Nat} {V : VV} {h : HP} {v2 : Int} {n : Nat} {q : Int} (hf : f_Tape_isWord_5 16 17 400 4 n V v2 = some q) : Ok X (d + 6) 59 5 ([some (.inr (.inr (.inl 17))), some (.inr (.inr (.inr 14))), some (.inl v2)], [], mm V h) (fun M r => M = mm V h ∧ r = some (.inl q) ∧ (q = 0 ∨ q = 1)) :=
  s_Tape_isWord_5_o16w4_n n v2 hf
set_option maxRecDepth 20000 in
set_option maxHeartbeats 4000000 in
theorem s_Tape_isWord_o16w4 {X : Xs} {d : Nat} {V : VV} {h : HP} {q : Int} (hf : f_Tape_isWord 16 17 400 4 V = some q) : Ok X (d + 6) 59 0 ([some (.inr (.inr (.inl 17))), some (.inr (.inr (.inr 14))), none], [], mm V h) (fun M r => M = mm V h ∧ r = some (.inl q) ∧ (q = 0 ∨ q = 1)) := by
  let QQ : Mm → Option AV → Prop := fun M r => M = mm V h ∧ r = some (.inl q) ∧ (q = 0 ∨ q = 1)
  show Ok X (d + 6) 59 0 ([some (.inr (.inr (.inl 17))), some (.inr (.inr (.inr 14))), none], [], mm V h) QQ
  refine ok_ic_ne (x := V 16 2) (u := 1) (L := [some (.inr (.inr (.inl 17))), some (.inr (.inr (.inr 14))), none]) (S := []) (M := mm V h) rfl rfl (fun c1 => ?_) (fun c1 => ?_)
  ·
    replace hf := (if_neg c1).symm.trans hf
    obtain rfl := Option.some.inj hf
    have hz : (0 : Int) = 0 ∨ (0 : Int) = 1 := by
      first | exact Or.inl rfl | exact Or.inr rfl | assumption | (repeat' split) <;> first | exact Or.inl rfl | exact Or.inr rfl | assumption
    refine ok_zreturn (L := [some (.inr (.inr (.inl 17))), some (.inr (.inr (.inr 14))), none]) (M := mm V h) (x := 0) rfl rfl hz ?_
    exact ⟨rfl, rfl, hz⟩
  ·
    replace hf := (if_pos c1).symm.trans hf
    refine ok_callA (L := [some (.inr (.inr (.inl 17))), some (.inr (.inr (.inr 14))), none]) (M := mm V h) (args := [.inr (.inr (.inr 14))]) (rest := [.inl (w32 ((V 16 7) - (V 16 6)))]) (y2 := 60) rfl rfl rfl (Or.inl rfl) rfl rfl (Nat.le_of_ble_eq_true rfl) rfl rfl (Nat.le_of_ble_eq_true rfl) (Nat.le_of_ble_eq_true rfl) (w_strlen (j := 4) (by decide) rfl) ?_
    rintro _ _ ⟨rfl, rfl⟩
    refine ok_ic_eq (x := w32 ((V 16 7) - (V 16 6))) (u := lenW 4) (L := [some (.inr (.inr (.inl 17))), some (.inr (.inr (.inr 14))), none]) (S := []) (M := mm V h) rfl rfl (fun c3 => ?_) (fun c3 => ?_)
    ·
      replace hf := (if_pos c3).symm.trans hf
      refine ok_thru (L := [some (.inr (.inr (.inl 17))), some (.inr (.inr (.inr 14))), some (.inl 0)]) (S := []) (M := mm V h) rfl rfl ?_
      exact s_Tape_isWord_5_o16w4 hf
    ·
      replace hf := (if_neg c3).symm.trans hf
      obtain rfl := Option.some.inj hf
      have hz : (0 : Int) = 0 ∨ (0 : Int) = 1 := by
        first | exact Or.inl rfl | exact Or.inr rfl | assumption | (repeat' split) <;> first | exact Or.inl rfl | exact Or.inr rfl | assumption
      refine ok_zreturn (L := [some (.inr (.inr (.inl 17))), some (.inr (.inr (.inr 14))), none]) (M := mm V h) (x := 0) rfl rfl hz ?_
      exact ⟨rfl, rfl, hz⟩
set_option maxRecDepth 20000 in
set_option maxHeartbeats 4000000 in
theorem s_Tape_isWord_5_o16w5_n {X : Xs} {d : Nat} {V : VV} {h : HP} {q : Int} : ∀ (n : Nat) (v2 : Int), f_Tape_isWord_5 16 17 400 5 n V v2 = some q → Ok X (d + 6) 59 5 ([some (.inr (.inr (.inl 17))), some (.inr (.inr (.inr 15))), some (.inl v2)], [], mm V h) (fun M r => M = mm V h ∧ r = some (.inl q) ∧ (q = 0 ∨ q = 1)) := by
  intro n
  induction n with
  | zero => intro v2 hf; cases hf
  | succ n ih =>
    intro v2 hf
    let QQ : Mm → Option AV → Prop := fun M r => M = mm V h ∧ r = some (.inl q) ∧ (q = 0 ∨ q = 1)
    show Ok X (d + 6) 59 5 ([some (.inr (.inr (.inl 17))), some (.inr (.inr (.inr 15))), some (.inl v2)], [], mm V h) QQ
    refine ok_callA (L := [some (.inr (.inr (.inl 17))), some (.inr (.inr (.inr 15))), some (.inl v2)]) (M := mm V h) (args := [.inr (.inr (.inr 15))]) (rest := [.inl v2]) (y2 := 60) rfl rfl rfl (Or.inl rfl) rfl rfl (Nat.le_of_ble_eq_true rfl) rfl rfl (Nat.le_of_ble_eq_true rfl) (Nat.le_of_ble_eq_true rfl) (w_strlen (j := 5) (by decide) rfl) ?_
    rintro _ _ ⟨rfl, rfl⟩
    refine ok_ic_ge (x := v2) (u := lenW 5) (L := [some (.inr (.inr (.inl 17))), some (.inr (.inr (.inr 15))), some (.inl v2)]) (S := []) (M := mm V h) rfl rfl (fun c2 => ?_) (fun c2 => ?_)
    ·
      replace hf := (if_neg (Int.not_lt.mpr c2)).symm.trans hf
      obtain rfl := Option.some.inj hf
      have hz : (1 : Int) = 0 ∨ (1 : Int) = 1 := by
        first | exact Or.inl rfl | exact Or.inr rfl | assumption | (repeat' split) <;> first | exact Or.inl rfl | exact Or.inr rfl | assumption
      refine ok_zreturn (L := [some (.inr (.inr (.inl 17))), some (.inr (.inr (.inr 15))), some (.inl v2)]) (M := mm V h) (x := 1) rfl rfl hz ?_
      exact ⟨rfl, rfl, hz⟩
    ·
      replace hf := (if_pos c2).symm.trans hf
      refine ok_callA (L := [some (.inr (.inr (.inl 17))), some (.inr (.inr (.inr 15))), some (.inl v2)]) (M := mm V h) (args := [.inr (.inr (.inl 18)), .inl (w32 ((V 16 6) + v2))]) (rest := []) (y2 := 21) rfl rfl rfl (Or.inr (Or.inl rfl)) rfl rfl (Nat.le_of_ble_eq_true rfl) rfl rfl (Nat.le_of_ble_eq_true rfl) (Nat.le_of_ble_eq_true rfl) (w_at rfl rfl) ?_
      rintro _ _ ⟨rfl, rfl⟩
      obtain ⟨q4, e4, hf⟩ := obind hf
      refine ok_callA (L := [some (.inr (.inr (.inl 17))), some (.inr (.inr (.inr 15))), some (.inl v2)]) (M := mm V h) (args := [.inr (.inr (.inr 15)), .inl v2]) (rest := [.inl (atV V 17 400 (w32 ((V 16 6) + v2)))]) (y2 := 62) rfl rfl rfl (Or.inl rfl) rfl rfl (Nat.le_of_ble_eq_true rfl) rfl rfl (Nat.le_of_ble_eq_true rfl) (Nat.le_of_ble_eq_true rfl) (w_strchar (j := 5) (by decide) e4) ?_
      rintro _ _ ⟨rfl, rfl, hz4⟩
      refine ok_ic_eq (x := atV V 17 400 (w32 ((V 16 6) + v2))) (u := q4) (L := [some (.inr (.inr (.inl 17))), some (.inr (.inr (.inr 15))), some (.inl v2)]) (S := []) (M := mm V h) rfl rfl (fun c5 => ?_) (fun c5 => ?_)
      ·
        replace hf := (if_pos c5).symm.trans hf
        refine ok_goto (L := [some (.inr (.inr (.inl 17))), some (.inr (.inr (.inr 15))), some (.inl (w32 (v2 + 1)))]) (S := []) (M := mm V h) rfl rfl ?_
        exact ih (w32 (v2 + 1)) hf
      ·
        replace hf := (if_neg c5).symm.trans hf
        obtain rfl := Option.some.inj hf
        have hz : (0 : Int) = 0 ∨ (0 : Int) = 1 := by
          first | exact Or.inl rfl | exact Or.inr rfl | assumption | (repeat' split) <;> first | exact Or.inl rfl | exact Or.inr rfl | assumption
        refine ok_zreturn (L := [some (.inr (.inr (.inl 17))), some (.inr (.inr (.inr 15))), some (.inl v2)]) (M := mm V h) (x := 0) rfl rfl hz ?_
        exact ⟨rfl, rfl, hz⟩
theorem s_Tape_isWord_5_o16w5 {X : Xs} {d : Nat} {V : VV} {h : HP} {v2 : Int} {n : Nat} {q : Int} (hf : f_Tape_isWord_5 16 17 400 5 n V v2 = some q) : Ok X (d + 6) 59 5 ([some (.inr (.inr (.inl 17))), some (.inr (.inr (.inr 15))), some (.inl v2)], [], mm V h) (fun M r => M = mm V h ∧ r = some (.inl q) ∧ (q = 0 ∨ q = 1)) :=
  s_Tape_isWord_5_o16w5_n n v2 hf
set_option maxRecDepth 20000 in
set_option maxHeartbeats 4000000 in
theorem s_Tape_isWord_o16w5 {X : Xs} {d : Nat} {V : VV} {h : HP} {q : Int} (hf : f_Tape_isWord 16 17 400 5 V = some q) : Ok X (d + 6) 59 0 ([some (.inr (.inr (.inl 17))), some (.inr (.inr (.inr 15))), none], [], mm V h) (fun M r => M = mm V h ∧ r = some (.inl q) ∧ (q = 0 ∨ q = 1)) := by
  let QQ : Mm → Option AV → Prop := fun M r => M = mm V h ∧ r = some (.inl q) ∧ (q = 0 ∨ q = 1)
  show Ok X (d + 6) 59 0 ([some (.inr (.inr (.inl 17))), some (.inr (.inr (.inr 15))), none], [], mm V h) QQ
  refine ok_ic_ne (x := V 16 2) (u := 1) (L := [some (.inr (.inr (.inl 17))), some (.inr (.inr (.inr 15))), none]) (S := []) (M := mm V h) rfl rfl (fun c1 => ?_) (fun c1 => ?_)
  ·
    replace hf := (if_neg c1).symm.trans hf
    obtain rfl := Option.some.inj hf
    have hz : (0 : Int) = 0 ∨ (0 : Int) = 1 := by
      first | exact Or.inl rfl | exact Or.inr rfl | assumption | (repeat' split) <;> first | exact Or.inl rfl | exact Or.inr rfl | assumption
    refine ok_zreturn (L := [some (.inr (.inr (.inl 17))), some (.inr (.inr (.inr 15))), none]) (M := mm V h) (x := 0) rfl rfl hz ?_
    exact ⟨rfl, rfl, hz⟩
  ·
    replace hf := (if_pos c1).symm.trans hf
    refine ok_callA (L := [some (.inr (.inr (.inl 17))), some (.inr (.inr (.inr 15))), none]) (M := mm V h) (args := [.inr (.inr (.inr 15))]) (rest := [.inl (w32 ((V 16 7) - (V 16 6)))]) (y2 := 60) rfl rfl rfl (Or.inl rfl) rfl rfl (Nat.le_of_ble_eq_true rfl) rfl rfl (Nat.le_of_ble_eq_true rfl) (Nat.le_of_ble_eq_true rfl) (w_strlen (j := 5) (by decide) rfl) ?_
    rintro _ _ ⟨rfl, rfl⟩
    refine ok_ic_eq (x := w32 ((V 16 7) - (V 16 6))) (u := lenW 5) (L := [some (.inr (.inr (.inl 17))), some (.inr (.inr (.inr 15))), none]) (S := []) (M := mm V h) rfl rfl (fun c3 => ?_) (fun c3 => ?_)
    ·
      replace hf := (if_pos c3).symm.trans hf
      refine ok_thru (L := [some (.inr (.inr (.inl 17))), some (.inr (.inr (.inr 15))), some (.inl 0)]) (S := []) (M := mm V h) rfl rfl ?_
      exact s_Tape_isWord_5_o16w5 hf
    ·
      replace hf := (if_neg c3).symm.trans hf
      obtain rfl := Option.some.inj hf
      have hz : (0 : Int) = 0 ∨ (0 : Int) = 1 := by
        first | exact Or.inl rfl | exact Or.inr rfl | assumption | (repeat' split) <;> first | exact Or.inl rfl | exact Or.inr rfl | assumption
      refine ok_zreturn (L := [some (.inr (.inr (.inl 17))), some (.inr (.inr (.inr 15))), none]) (M := mm V h) (x := 0) rfl rfl hz ?_
      exact ⟨rfl, rfl, hz⟩
set_option maxRecDepth 20000 in
set_option maxHeartbeats 4000000 in
theorem s_Tape_isWord_5_o16w6_n {X : Xs} {d : Nat} {V : VV} {h : HP} {q : Int} : ∀ (n : Nat) (v2 : Int), f_Tape_isWord_5 16 17 400 6 n V v2 = some q → Ok X (d + 6) 59 5 ([some (.inr (.inr (.inl 17))), some (.inr (.inr (.inr 16))), some (.inl v2)], [], mm V h) (fun M r => M = mm V h ∧ r = some (.inl q) ∧ (q = 0 ∨ q = 1)) := by
  intro n
  induction n with
  | zero => intro v2 hf; cases hf
  | succ n ih =>
    intro v2 hf
    let QQ : Mm → Option AV → Prop := fun M r => M = mm V h ∧ r = some (.inl q) ∧ (q = 0 ∨ q = 1)
    show Ok X (d + 6) 59 5 ([some (.inr (.inr (.inl 17))), some (.inr (.inr (.inr 16))), some (.inl v2)], [], mm V h) QQ
    refine ok_callA (L := [some (.inr (.inr (.inl 17))), some (.inr (.inr (.inr 16))), some (.inl v2)]) (M := mm V h) (args := [.inr (.inr (.inr 16))]) (rest := [.inl v2]) (y2 := 60) rfl rfl rfl (Or.inl rfl) rfl rfl (Nat.le_of_ble_eq_true rfl) rfl rfl (Nat.le_of_ble_eq_true rfl) (Nat.le_of_ble_eq_true rfl) (w_strlen (j := 6) (by decide) rfl) ?_
    rintro _ _ ⟨rfl, rfl⟩
    refine ok_ic_ge (x := v2) (u := lenW 6) (L := [some (.inr (.inr (.inl 17))), some (.inr (.inr (.inr 16))), some (.inl v2)]) (S := []) (M := mm V h) rfl rfl (fun c2 => ?_) (fun c2 => ?_)
    ·
      replace hf := (if_neg (Int.not_lt.mpr c2)).symm.trans hf
      obtain rfl := Option.some.inj hf
      have hz : (1 : Int) = 0 ∨ (1 : Int) = 1 := by
        first | exact Or.inl rfl | exact Or.inr rfl | assumption | (repeat' split) <;> first | exact Or.inl rfl | exact Or.inr rfl | assumption
      refine ok_zreturn (L := [some (.inr (.inr (.inl 17))), some (.inr (.inr (.inr 16))), some (.inl v2)]) (M := mm V h) (x := 1) rfl rfl hz ?_
      exact ⟨rfl, rfl, hz⟩
    ·
      replace hf := (if_pos c2).symm.trans hf
      refine ok_callA (L := [some (.inr (.inr (.inl 17))), some (.inr (.inr (.inr 16))), some (.inl v2)]) (M := mm V h) (args := [.inr (.inr (.inl 18)), .inl (w32 ((V 16 6) + v2))]) (rest := []) (y2 := 21) rfl rfl rfl (Or.inr (Or.inl rfl)) rfl rfl (Nat.le_of_ble_eq_true rfl) rfl rfl (Nat.le_of_ble_eq_true rfl) (Nat.le_of_ble_eq_true rfl) (w_at rfl rfl) ?_
      rintro _ _ ⟨rfl, rfl⟩
      obtain ⟨q4, e4, hf⟩ := obind hf
      refine ok_callA (L := [some (.inr (.inr (.inl 17))), some (.inr (.inr (.inr 16))), some (.inl v2)]) (M := mm V h) (args := [.inr (.inr (.inr 16)), .inl v2]) (rest := [.inl (atV V 17 400 (w32 ((V 16 6) + v2)))]) (y2 := 62) rfl rfl rfl (Or.inl rfl) rfl rfl (Nat.le_of_ble_eq_true rfl) rfl rfl (Nat.le_of_ble_eq_true rfl) (Nat.le_of_ble_eq_true rfl) (w_strchar (j := 6) (by decide) e4) ?_
      rintro _ _ ⟨rfl, rfl, hz4⟩
      refine ok_ic_eq (x := atV V 17 400 (w32 ((V 16 6) + v2))) (u := q4) (L := [some (.inr (.inr (.inl 17))), some (.inr (.inr (.inr 16))), some (.inl v2)]) (S := []) (M := mm V h) rfl rfl (fun c5 => ?_) (fun c5 => ?_)
      ·
        replace hf := (if_pos c5).symm.trans hf
        refine ok_goto (L := [some (.inr (.inr (.inl 17))), some (.inr (.inr (.inr 16))), some (.inl (w32 (v2 + 1)))]) (S := []) (M := mm V h) rfl rfl ?_
        exact ih (w32 (v2 + 1)) hf
      ·
        replace hf := (if_neg c5).symm.trans hf
        obtain rfl := Option.some.inj hf
        have hz : (0 : Int) = 0 ∨ (0 : Int) = 1 := by
          first | exact Or.inl rfl | exact Or.inr rfl | assumption | (repeat' split) <;> first | exact Or.inl rfl | exact Or.inr rfl | assumption
        refine ok_zreturn (L := [some (.inr (.inr (.inl 17))), some (.inr (.inr (.inr 16))), some (.inl v2)]) (M := mm V h) (x := 0) rfl rfl hz ?_
        exact ⟨rfl, rfl, hz⟩
theorem s_Tape_isWord_5_o16w6 {X : Xs} {d : Nat} {V : VV} {h : HP} {v2 : Int} {n : Nat} {q : Int} (hf : f_Tape_isWord_5 16 17 400 6 n V v2 = some q) : Ok X (d + 6) 59 5 ([some (.inr (.inr (.inl 17))), some (.inr (.inr (.inr 16))), some (.inl v2)], [], mm V h) (fun M r => M = mm V h ∧ r = some (.inl q) ∧ (q = 0 ∨ q = 1)) :=
  s_Tape_isWord_5_o16w6_n n v2 hf
set_option maxRecDepth 20000 in
set_option maxHeartbeats 4000000 in
theorem s_Tape_isWord_o16w6 {X : Xs} {d : Nat} {V : VV} {h : HP} {q : Int} (hf : f_Tape_isWord 16 17 400 6 V = some q) : Ok X (d + 6) 59 0 ([some (.inr (.inr (.inl 17))), some (.inr (.inr (.inr 16))), none], [], mm V h) (fun M r => M = mm V h ∧ r = some (.inl q) ∧ (q = 0 ∨ q = 1)) := by
  let QQ : Mm → Option AV → Prop := fun M r => M = mm V h ∧ r = some (.inl q) ∧ (q = 0 ∨ q = 1)
  show Ok X (d + 6) 59 0 ([some (.inr (.inr (.inl 17))), some (.inr (.inr (.inr 16))), none], [], mm V h) QQ
  refine ok_ic_ne (x := V 16 2) (u := 1) (L := [some (.inr (.inr (.inl 17))), some (.inr (.inr (.inr 16))), none]) (S := []) (M := mm V h) rfl rfl (fun c1 => ?_) (fun c1 => ?_)
  ·
    replace hf := (if_neg c1).symm.trans hf
    obtain rfl := Option.some.inj hf
    have hz : (0 : Int) = 0 ∨ (0 : Int) = 1 := by
      first | exact Or.inl rfl | exact Or.inr rfl | assumption | (repeat' split) <;> first | exact Or.inl rfl | exact Or.inr rfl | assumption
    refine ok_zreturn (L := [some (.inr (.inr (.inl 17))), some (.inr (.inr (.inr 16))), none]) (M := mm V h) (x := 0) rfl rfl hz ?_
    exact ⟨rfl, rfl, hz⟩
  ·
    replace hf := (if_pos c1).symm.trans hf
    refine ok_callA (L := [some (.inr (.inr (.inl 17))), some (.inr (.inr (.inr 16))), none]) (M := mm V h) (args := [.inr (.inr (.inr 16))]) (rest := [.inl (w32 ((V 16 7) - (V 16 6)))]) (y2 := 60) rfl rfl rfl (Or.inl rfl) rfl rfl (Nat.le_of_ble_eq_true rfl) rfl rfl (Nat.le_of_ble_eq_true rfl) (Nat.le_of_ble_eq_true rfl) (w_strlen (j := 6) (by decide) rfl) ?_
    rintro _ _ ⟨rfl, rfl⟩
    refine ok_ic_eq (x := w32 ((V 16 7) - (V 16 6))) (u := lenW 6) (L := [some (.inr (.inr (.inl 17))), some (.inr (.inr (.inr 16))), none]) (S := []) (M := mm V h) rfl rfl (fun c3 => ?_) (fun c3 => ?_)
    ·
      replace hf := (if_pos c3).symm.trans hf
      refine ok_thru (L := [some (.inr (.inr (.inl 17))), some (.inr (.inr (.inr 16))), some (.inl 0)]) (S := []) (M := mm V h) rfl rfl ?_
      exact s_Tape_isWord_5_o16w6 hf
    ·
      replace hf := (if_neg c3).symm.trans hf
      obtain rfl := Option.some.inj hf
      have hz : (0 : Int) = 0 ∨ (0 : Int) = 1 := by
        first | exact Or.inl rfl | exact Or.inr rfl | assumption | (repeat' split) <;> first | exact Or.inl rfl | exact Or.inr rfl | assumption
      refine ok_zreturn (L := [some (.inr (.inr (.inl 17))), some (.inr (.inr (.inr 16))), none]) (M := mm V h) (x := 0) rfl rfl hz ?_
      exact ⟨rfl, rfl, hz⟩
set_option maxRecDepth 20000 in
set_option maxHeartbeats 4000000 in
theorem s_Tape_isWord_5_o16w7_n {X : Xs} {d : Nat} {V : VV} {h : HP} {q : Int} : ∀ (n : Nat) (v2 : Int), f_Tape_isWord_5 16 17 400 7 n V v2 = some q → Ok X (d + 6) 59 5 ([some (.inr (.inr (.inl 17))), some (.inr (.inr (.inr 17))), some (.inl v2)], [], mm V h) (fun M r => M = mm V h ∧ r = some (.inl q) ∧ (q = 0 ∨ q = 1)) := by
  intro n
  induction n with
  | zero => intro v2 hf; cases hf
  | succ n ih =>
    intro v2 hf
    let QQ : Mm → Option AV → Prop := fun M r => M = mm V h ∧ r = some (.inl q) ∧ (q = 0 ∨ q = 1)
    show Ok X (d + 6) 59 5 ([some (.inr (.inr (.inl 17))), some (.inr (.inr (.inr 17))), some (.inl v2)], [], mm V h) QQ
    refine ok_callA (L := [some (.inr (.inr (.inl 17))), some (.inr (.inr (.inr 17))), some (.inl v2)]) (M := mm V h) (args := [.inr (.inr (.inr 17))]) (rest := [.inl v2]) (y2 := 60) rfl rfl rfl (Or.inl rfl) rfl rfl (Nat.le_of_ble_eq_true rfl) rfl rfl (Nat.le_of_ble_eq_true rfl) (Nat.le_of_ble_eq_true rfl) (w_strlen (j := 7) (by decide) rfl) ?_
    rintro _ _ ⟨rfl, rfl⟩
    refine ok_ic_ge (x := v2) (u := lenW 7) (L := [some (.inr (.inr (.inl 17))), some (.inr (.inr (.inr 17))), some (.inl v2)]) (S := []) (M := mm V h) rfl rfl (fun c2 => ?_) (fun c2 => ?_)
    ·
      replace hf := (if_neg (Int.not_lt.mpr c2)).symm.trans hf
      obtain rfl := Option.some.inj hf
      have hz : (1 : Int) = 0 ∨ (1 : Int) = 1 := by
        first | exact Or.inl rfl | exact Or.inr rfl | assumption | (repeat' split) <;> first | exact Or.inl rfl | exact Or.inr rfl | assumption
      refine ok_zreturn (L := [some (.inr (.inr (.inl 17))), some (.inr (.inr (.inr 17))), some (.inl v2)]) (M := mm V h) (x := 1) rfl rfl hz ?_
      exact ⟨rfl, rfl, hz⟩
    ·
      replace hf := (if_pos c2).symm.trans hf
      refine ok_callA (L := [some (.inr (.inr (.inl 17))), some (.inr (.inr (.inr 17))), some (.inl v2)]) (M := mm V h) (args := [.inr (.inr (.inl 18)), .inl (w32 ((V 16 6) + v2))]) (rest := []) (y2 := 21) rfl rfl rfl (Or.inr (Or.inl rfl)) rfl rfl (Nat.le_of_ble_eq_true rfl) rfl rfl (Nat.le_of_ble_eq_true rfl) (Nat.le_of_ble_eq_true rfl) (w_at rfl rfl) ?_
      rintro _ _ ⟨rfl, rfl⟩
      obtain ⟨q4, e4, hf⟩ := obind hf
      refine ok_callA (L := [some (.inr (.inr (.inl 17))), some (.inr (.inr (.inr 17))), some (.inl v2)]) (M := mm V h) (args := [.inr (.inr (.inr 17)), .inl v2]) (rest := [.inl (atV V 17 400 (w32 ((V 16 6) + v2)))]) (y2 := 62) rfl rfl rfl (Or.inl rfl) rfl rfl (Nat.le_of_ble_eq_true rfl) rfl rfl (Nat.le_of_ble_eq_true rfl) (Nat.le_of_ble_eq_true rfl) (w_strchar (j := 7) (by decide) e4) ?_
      rintro _ _ ⟨rfl, rfl, hz4⟩
      refine ok_ic_eq (x := atV V 17 400 (w32 ((V 16 6) + v2))) (u := q4) (L := [some (.inr (.inr (.inl 17))), some (.inr (.inr (.inr 17))), some (.inl v2)]) (S := []) (M := mm V h) rfl rfl (fun c5 => ?_) (fun c5 => ?_)
      ·
        replace hf := (if_pos c5).symm.trans hf
        refine ok_goto (L := [some (.inr (.inr (.inl 17))), some (.inr (.inr (.inr 17))), some (.inl (w32 (v2 + 1)))]) (S := []) (M := mm V h) rfl rfl ?_
        exact ih (w32 (v2 + 1)) hf
      ·
        replace hf := (if_neg c5).symm.trans hf
        obtain rfl := Option.some.inj hf
        have hz : (0 : Int) = 0 ∨ (0 : Int) = 1 := by
          first | exact Or.inl rfl | exact Or.inr rfl | assumption | (repeat' split) <;> first | exact Or.inl rfl | exact Or.inr rfl | assumption
        refine ok_zreturn (L := [some (.inr (.inr (.inl 17))), some (.inr (.inr (.inr 17))), some (.inl v2)]) (M := mm V h) (x := 0) rfl rfl hz ?_
        exact ⟨rfl, rfl, hz⟩
theorem s_Tape_isWord_5_o16w7 {X : Xs} {d : Nat} {V : VV} {h : HP} {v2 : Int} {n : Nat} {q : Int} (hf : f_Tape_isWord_5 16 17 400 7 n V v2 = some q) : Ok X (d + 6) 59 5 ([some (.inr (.inr (.inl 17))), some (.inr (.inr (.inr 17))), some (.inl v2)], [], mm V h) (fun M r => M = mm V h ∧ r = some (.inl q) ∧ (q = 0 ∨ q = 1)) :=
  s_Tape_isWord_5_o16w7_n n v2 hf
set_option maxRecDepth 20000 in
set_option maxHeartbeats 4000000 in
theorem s_Tape_isWord_o16w7 {X : Xs} {d : Nat} {V : VV} {h : HP} {q : Int} (hf : f_Tape_isWord 16 17 400 7 V = some q) : Ok X (d + 6) 59 0 ([some (.inr (.inr (.inl 17))), some (.inr (.inr (.inr 17))), none], [], mm V h) (fun M r => M = mm V h ∧ r = some (.inl q) ∧ (q = 0 ∨ q = 1)) := by
  let QQ : Mm → Option AV → Prop := fun M r => M = mm V h ∧ r = some (.inl q) ∧ (q = 0 ∨ q = 1)
  show Ok X (d + 6) 59 0 ([some (.inr (.inr (.inl 17))), some (.inr (.inr (.inr 17))), none], [], mm V h) QQ
  refine ok_ic_ne (x := V 16 2) (u := 1) (L := [some (.inr (.inr (.inl 17))), some (.inr (.inr (.inr 17))), none]) (S := []) (M := mm V h) rfl rfl (fun c1 => ?_) (fun c1 => ?_)
  ·
    replace hf := (if_neg c1).symm.trans hf
    obtain rfl := Option.some.inj hf
    have hz : (0 : Int) = 0 ∨ (0 : Int) = 1 := by
      first | exact Or.inl rfl | exact Or.inr rfl | assumption | (repeat' split) <;> first | exact Or.inl rfl | exact Or.inr rfl | assumption
    refine ok_zreturn (L := [some (.inr (.inr (.inl 17))), some (.inr (.inr (.inr 17))), none]) (M := mm V h) (x := 0) rfl rfl hz ?_
    exact ⟨rfl, rfl, hz⟩
  ·
    replace hf := (if_pos c1).symm.trans hf
    refine ok_callA (L := [some (.inr (.inr (.inl 17))), some (.inr (.inr (.inr 17))), none]) (M := mm V h) (args := [.inr (.inr (.inr 17))]) (rest := [.inl (w32 ((V 16 7) - (V 16 6)))]) (y2 := 60) rfl rfl rfl (Or.inl rfl) rfl rfl (Nat.le_of_ble_eq_true rfl) rfl rfl (Nat.le_of_ble_eq_true rfl) (Nat.le_of_ble_eq_true rfl) (w_strlen (j := 7) (by decide) rfl) ?_
    rintro _ _ ⟨rfl, rfl⟩
    refine ok_ic_eq (x := w32 ((V 16 7) - (V 16 6))) (u := lenW 7) (L := [some (.inr (.inr (.inl 17))), some (.inr (.inr (.inr 17))), none]) (S := []) (M := mm V h) rfl rfl (fun c3 => ?_) (fun c3 => ?_)
    ·
      replace hf := (if_pos c3).symm.trans hf
      refine ok_thru (L := [some (.inr (.inr (.inl 17))), some (.inr (.inr (.inr 17))), some (.inl 0)]) (S := []) (M := mm V h) rfl rfl ?_
      exact s_Tape_isWord_5_o16w7 hf
    ·
      replace hf := (if_neg c3).symm.trans hf
      obtain rfl := Option.some.inj hf
      have hz : (0 : Int) = 0 ∨ (0 : Int) = 1 := by
        first | exact Or.inl rfl | exact Or.inr rfl | assumption | (repeat' split) <;> first | exact Or.inl rfl | exact Or.inr rfl | assumption
      refine ok_zreturn (L := [some (.inr (.inr (.inl 17))), some (.inr (.inr (.inr 17))), none]) (M := mm V h) (x := 0) rfl rfl hz ?_
      exact ⟨rfl, rfl, hz⟩
set_option maxRecDepth 20000 in
set_option maxHeartbeats 4000000 in
theorem s_Tape_isWord_5_o16w8_n {X : Xs} {d : Nat} {V : VV} {h : HP} {q : Int} : ∀ (n : Nat) (v2 : Int), f_Tape_isWord_5 16 17 400 8 n V v2 = some q → Ok X (d + 6) 59 5 ([some (.inr (.inr (.inl 17))), some (.inr (.inr (.inr 18))), some (.inl v2)], [], mm V h) (fun M r => M = mm V h ∧ r = some (.inl q) ∧ (q = 0 ∨ q = 1)) := by
  intro n
  induction n with
  | zero => intro v2 hf; cases hf
  | succ n ih =>
    intro v2 hf
    let QQ : Mm → Option AV → Prop := fun M r => M = mm V h ∧ r = some (.inl q) ∧ (q = 0 ∨ q = 1)
    show Ok X (d + 6) 59 5 ([some (.inr (.inr (.inl 17))), some (.inr (.inr (.inr 18))), some (.inl v2)], [], mm V h) QQ
    refine ok_callA (L := [some (.inr (.inr (.inl 17))), some (.inr (.inr (.inr 18))), some (.inl v2)]) (M := mm V h) (args := [.inr (.inr (.inr 18))]) (rest := [.inl v2]) (y2 := 60) rfl rfl rfl (Or.inl rfl) rfl rfl (Nat.le_of_ble_eq_true rfl) rfl rfl (Nat.le_of_ble_eq_true rfl) (Nat.le_of_ble_eq_true rfl) (w_strlen (j := 8) (by decide) rfl) ?_
    rintro _ _ ⟨rfl, rfl⟩
    refine ok_ic_ge (x := v2) (u := lenW 8) (L := [some (.inr (.inr (.inl 17))), some (.inr (.inr (.inr 18))), some (.inl v2)]) (S := []) (M := mm V h) rfl rfl (fun c2 => ?_) (fun c2 => ?_)
    ·
      replace hf := (if_neg (Int.not_lt.mpr c2)).symm.trans hf
      obtain rfl := Option.some.inj hf
      have hz : (1 : Int) = 0 ∨ (1 : Int) = 1 := by
        first | exact Or.inl rfl | exact Or.inr rfl | assumption | (repeat' split) <;> first | exact Or.inl rfl | exact Or.inr rfl | assumption
      refine ok_zreturn (L := [some (.inr (.inr (.inl 17))), some (.inr (.inr (.inr 18))), some (.inl v2)]) (M := mm V h) (x := 1) rfl rfl hz ?_
      exact ⟨rfl, rfl, hz⟩
    ·
      replace hf := (if_pos c2).symm.trans hf
      refine ok_callA (L := [some (.inr (.inr (.inl 17))), some (.inr (.inr (.inr 18))), some (.inl v2)]) (M := mm V h) (args := [.inr (.inr (.inl 18)), .inl (w32 ((V 16 6) + v2))]) (rest := []) (y2 := 21) rfl rfl rfl (Or.inr (Or.inl rfl)) rfl rfl (Nat.le_of_ble_eq_true rfl) rfl rfl (Nat.le_of_ble_eq_true rfl) (Nat.le_of_ble_eq_true rfl) (w_at rfl rfl) ?_
      rintro _ _ ⟨rfl, rfl⟩
      obtain ⟨q4, e4, hf⟩ := obind hf
      refine ok_callA (L := [some (.inr (.inr (.inl 17))), some (.inr (.inr (.inr 18))), some (.inl v2)]) (M := mm V h) (args := [.inr (.inr (.inr 18)), .inl v2]) (rest := [.inl (atV V 17 400 (w32 ((V 16 6) + v2)))]) (y2 := 62) rfl rfl rfl (Or.inl rfl) rfl rfl (Nat.le_of_ble_eq_true rfl) rfl rfl (Nat.le_of_ble_eq_true rfl) (Nat.le_of_ble_eq_true rfl) (w_strchar (j := 8) (by decide) e4) ?_
      rintro _ _ ⟨rfl, rfl, hz4⟩
      refine ok_ic_eq (x := atV V 17 400 (w32 ((V 16 6) + v2))) (u := q4) (L := [some (.inr (.inr (.inl 17))), some (.inr (.inr (.inr 18))), some (.inl v2)]) (S := []) (M := mm V h) rfl rfl (fun c5 => ?_) (fun c5 => ?_)
      ·
        replace hf := (if_pos c5).symm.trans hf
        refine ok_goto (L := [some (.inr (.inr (.inl 17))), some (.inr (.inr (.inr 18))), some (.inl (w32 (v2 + 1)))]) (S := []) (M := mm V h) rfl rfl ?_
        exact ih (w32 (v2 + 1)) hf
      ·
        replace hf := (if_neg c5).symm.trans hf
        obtain rfl := Option.some.inj hf
        have hz : (0 : Int) = 0 ∨ (0 : Int) = 1 := by
          first | exact Or.inl rfl | exact Or.inr rfl | assumption | (repeat' split) <;> first | exact Or.inl rfl | exact Or.inr rfl | assumption
        refine ok_zreturn (L := [some (.inr (.inr (.inl 17))), some (.inr (.inr (.inr 18))), some (.inl v2)]) (M := mm V h) (x := 0) rfl rfl hz ?_
        exact ⟨rfl, rfl, hz⟩
theorem s_Tape_isWord_5_o16w8 {X : Xs} {d : Nat} {V : VV} {h : HP} {v2 : Int} {n : Nat} {q : Int} (hf : f_Tape_isWord_5 16 17 400 8 n V v2 = some q) : Ok X (d + 6) 59 5 ([some (.inr (.inr (.inl 17))), some (.inr (.inr (.inr 18))), some (.inl v2)], [], mm V h) (fun M r => M = mm V h ∧ r = some (.inl q) ∧ (q = 0 ∨ q = 1)) :=
  s_Tape_isWord_5_o16w8_n n v2 hf
set_option maxRecDepth 20000 in
set_option maxHeartbeats 4000000 in
theorem s_Tape_isWord_o16w8 {X : Xs} {d : Nat} {V : VV} {h : HP} {q : Int} (hf : f_Tape_isWord 16 17 400 8 V = some q) : Ok X (d + 6) 59 0 ([some (.inr (.inr (.inl 17))), some (.inr (.inr (.inr 18))), none], [], mm V h) (fun M r => M = mm V h ∧ r = some (.inl q) ∧ (q = 0 ∨ q = 1)) := by
  let QQ : Mm → Option AV → Prop := fun M r => M = mm V h ∧ r = some (.inl q) ∧ (q = 0 ∨ q = 1)
  show Ok X (d + 6) 59 0 ([some (.inr (.inr (.inl 17))), some (.inr (.inr (.inr 18))), none], [], mm V h) QQ
  refine ok_ic_ne (x := V 16 2) (u := 1) (L := [some (.inr (.inr (.inl 17))), some (.inr (.inr (.inr 18))), none]) (S := []) (M := mm V h) rfl rfl (fun c1 => ?_) (fun c1 => ?_)
  ·
    replace hf := (if_neg c1).symm.trans hf
    obtain rfl := Option.some.inj hf
    have hz : (0 : Int) = 0 ∨ (0 : Int) = 1 := by
      first | exact Or.inl rfl | exact Or.inr rfl | assumption | (repeat' split) <;> first | exact Or.inl rfl | exact Or.inr rfl | assumption
    refine ok_zreturn (L := [some (.inr (.inr (.inl 17))), some (.inr (.inr (.inr 18))), none]) (M := mm V h) (x := 0) rfl rfl hz ?_
    exact ⟨rfl, rfl, hz⟩
  ·
    replace hf := (if_pos c1).symm.trans hf
    refine ok_callA (L := [some (.inr (.inr (.inl 17))), some (.inr (.inr (.inr 18))), none]) (M := mm V h) (args := [.inr (.inr (.inr 18))]) (rest := [.inl (w32 ((V 16 7) - (V 16 6)))]) (y2 := 60) rfl rfl rfl (Or.inl rfl) rfl rfl (Nat.le_of_ble_eq_true rfl) rfl rfl (Nat.le_of_ble_eq_true rfl) (Nat.le_of_ble_eq_true rfl) (w_strlen (j := 8) (by decide) rfl) ?_
    rintro _ _ ⟨rfl, rfl⟩
    refine ok_ic_eq (x := w32 ((V 16 7) - (V 16 6))) (u := lenW 8) (L := [some (.inr (.inr (.inl 17))), some (.inr (.inr (.inr 18))), none]) (S := []) (M := mm V h) rfl rfl (fun c3 => ?_) (fun c3 => ?_)
    ·
      replace hf := (if_pos c3).symm.trans hf
      refine ok_thru (L := [some (.inr (.inr (.inl 17))), some (.inr (.inr (.inr 18))), some (.inl 0)]) (S := []) (M := mm V h) rfl rfl ?_
      exact s_Tape_isWord_5_o16w8 hf
    ·
      replace hf := (if_neg c3).symm.trans hf
      obtain rfl := Option.some.inj hf
      have hz : (0 : Int) = 0 ∨ (0 : Int) = 1 := by
        first | exact Or.inl rfl | exact Or.inr rfl | assumption | (repeat' split) <;> first | exact Or.inl rfl | exact Or.inr rfl | assumption
      refine ok_zreturn (L := [some (.inr (.inr (.inl 17))), some (.inr (.inr (.inr 18))), none]) (M := mm V h) (x := 0) rfl rfl hz ?_
      exact ⟨rfl, rfl, hz⟩
set_option maxRecDepth 20000 in
set_option maxHeartbeats 4000000 in
theorem s_Tape_isWord_5_o16w9_n {X : Xs} {d : Nat} {V : VV} {h : HP} {q : Int} : ∀ (n : Nat) (v2 : Int), f_Tape_isWord_5 16 17 400 9 n V v2 = some q → Ok X (d + 6) 59 5 ([some (.inr (.inr (.inl 17))), some (.inr (.inr (.inr 19))), some (.inl v2)], [], mm V h) (fun M r => M = mm V h ∧ r = some (.inl q) ∧ (q = 0 ∨ q = 1)) := by
  intro n
  induction n with
  | zero => intro v2 hf; cases hf
  | succ n ih =>
    intro v2 hf
    let QQ : Mm → Option AV → Prop := fun M r => M = mm V h ∧ r = some (.inl q) ∧ (q = 0 ∨ q = 1)
    show Ok X (d + 6) 59 5 ([some (.inr (.inr (.inl 17))), some (.inr (.inr (.inr 19))), some (.inl v2)], [], mm V h) QQ
    refine ok_callA (L := [some (.inr (.inr (.inl 17))), some (.inr (.inr (.inr 19))), some (.inl v2)]) (M := mm V h) (args := [.inr (.inr (.inr 19))]) (rest := [.inl v2]) (y2 := 60) rfl rfl rfl (Or.inl rfl) rfl rfl (Nat.le_of_ble_eq_true rfl) rfl rfl (Nat.le_of_ble_eq_true rfl) (Nat.le_of_ble_eq_true rfl) (w_strlen (j := 9) (by decide) rfl) ?_
    rintro _ _ ⟨rfl, rfl⟩
    refine ok_ic_ge (x := v2) (u := lenW 9) (L := [some (.inr (.inr (.inl 17))), some (.inr (.inr (.inr 19))), some (.inl v2)]) (S := []) (M := mm V h) rfl rfl (fun c2 => ?_) (fun c2 => ?_)
    ·
      replace hf := (if_neg (Int.not_lt.mpr c2)).symm.trans hf
      obtain rfl := Option.some.inj hf
      have hz : (1 : Int) = 0 ∨ (1 : Int) = 1 := by
        first | exact Or.inl rfl | exact Or.inr rfl | assumption | (repeat' split) <;> first | exact Or.inl rfl | exact Or.inr rfl | assumption
      refine ok_zreturn (L := [some (.inr (.inr (.inl 17))), some (.inr (.inr (.inr 19))), some (.inl v2)]) (M := mm V h) (x := 1) rfl rfl hz ?_
      exact ⟨rfl, rfl, hz⟩
    ·
      replace hf := (if_pos c2).symm.trans hf
      refine ok_callA (L := [some (.inr (.inr (.inl 17))), some (.inr (.inr (.inr 19))), some (.inl v2)]) (M := mm V h) (args := [.inr (.inr (.inl 18)), .inl (w32 ((V 16 6) + v2))]) (rest := []) (y2 := 21) rfl rfl rfl (Or.inr (Or.inl rfl)) rfl rfl (Nat.le_of_ble_eq_true rfl) rfl rfl (Nat.le_of_ble_eq_true rfl) (Nat.le_of_ble_eq_true rfl) (w_at rfl rfl) ?_
      rintro _ _ ⟨rfl, rfl⟩
      obtain ⟨q4, e4, hf⟩ := obind hf
      refine ok_callA (L := [some (.inr (.inr (.inl 17))), some (.inr (.inr (.inr 19))), some (.inl v2)]) (M := mm V h) (args := [.inr (.inr (.inr 19)), .inl v2]) (rest := [.inl (atV V 17 400 (w32 ((V 16 6) + v2)))]) (y2 := 62) rfl rfl rfl (Or.inl rfl) rfl rfl (Nat.le_of_ble_eq_true rfl) rfl rfl (Nat.le_of_ble_eq_true rfl) (Nat.le_of_ble_eq_true rfl) (w_strchar (j := 9) (by decide) e4) ?_
      rintro _ _ ⟨rfl, rfl, hz4⟩
      refine ok_ic_eq (x := atV V 17 400 (w32 ((V 16 6) + v2))) (u := q4) (L := [some (.inr (.inr (.inl 17))), some (.inr (.inr (.inr 19))), some (.inl v2)]) (S := []) (M := mm V h) rfl rfl (fun c5 => ?_) (fun c5 => ?_)
      ·
        replace hf := (if_pos c5).symm.trans hf
        refine ok_goto (L := [some (.inr (.inr (.inl 17))), some (.inr (.inr (.inr 19))), some (.inl (w32 (v2 + 1)))]) (S := []) (M := mm V h) rfl rfl ?_
        exact ih (w32 (v2 + 1)) hf
      ·
        replace hf := (if_neg c5).symm.trans hf
        obtain rfl := Option.some.inj hf
        have hz : (0 : Int) = 0 ∨ (0 : Int) = 1 := by
          first | exact Or.inl rfl | exact Or.inr rfl | assumption | (repeat' split) <;> first | exact Or.inl rfl | exact Or.inr rfl | assumption
        refine ok_zreturn (L := [some (.inr (.inr (.inl 17))), some (.inr (.inr (.inr 19))), some (.inl v2)]) (M := mm V h) (x := 0) rfl rfl hz ?_
        exact ⟨rfl, rfl, hz⟩
theorem s_Tape_isWord_5_o16w9 {X : Xs} {d : Nat} {V : VV} {h : HP} {v2 : Int} {n : Nat} {q : Int} (hf : f_Tape_isWord_5 16 17 400 9 n V v2 = some q) : Ok X (d + 6) 59 5 ([some (.inr (.inr (.inl 17))), some (.inr (.inr (.inr 19))), some (.inl v2)], [], mm V h) (fun M r => M = mm V h ∧ r = some (.inl q) ∧ (q = 0 ∨ q = 1)) :=
  s_Tape_isWord_5_o16w9_n n v2 hf
set_option maxRecDepth 20000 in
set_option maxHeartbeats 4000000 in
theorem s_Tape_isWord_o16w9 {X : Xs} {d : Nat} {V : VV} {h : HP} {q : Int} (hf : f_Tape_isWord 16 17 400 9 V = some q) : Ok X (d + 6) 59 0 ([some (.inr (.inr (.inl 17))), some (.inr (.inr (.inr 19))), none], [], mm V h) (fun M r => M = mm V h ∧ r = some (.inl q) ∧ (q = 0 ∨ q = 1)) := by
  let QQ : Mm → Option AV → Prop := fun M r => M = mm V h ∧ r = some (.inl q) ∧ (q = 0 ∨ q = 1)
  show Ok X (d + 6) 59 0 ([some (.inr (.inr (.inl 17))), some (.inr (.inr (.inr 19))), none], [], mm V h) QQ
  refine ok_ic_ne (x := V 16 2) (u := 1) (L := [some (.inr (.inr (.inl 17))), some (.inr (.inr (.inr 19))), none]) (S := []) (M := mm V h) rfl rfl (fun c1 => ?_) (fun c1 => ?_)
  ·
    replace hf := (if_neg c1).symm.trans hf
    obtain rfl := Option.some.inj hf
    have hz : (0 : Int) = 0 ∨ (0 : Int) = 1 := by
      first | exact Or.inl rfl | exact Or.inr rfl | assumption | (repeat' split) <;> first | exact Or.inl rfl | exact Or.inr rfl | assumption
    refine ok_zreturn (L := [some (.inr (.inr (.inl 17))), some (.inr (.inr (.inr 19))), none]) (M := mm V h) (x := 0) rfl rfl hz ?_
    exact ⟨rfl, rfl, hz⟩
  ·
    replace hf := (if_pos c1).symm.trans hf
    refine ok_callA (L := [some (.inr (.inr (.inl 17))), some (.inr (.inr (.inr 19))), none]) (M := mm V h) (args := [.inr (.inr (.inr 19))]) (rest := [.inl (w32 ((V 16 7) - (V 16 6)))]) (y2 := 60) rfl rfl rfl (Or.inl rfl) rfl rfl (Nat.le_of_ble_eq_true rfl) rfl rfl (Nat.le_of_ble_eq_true rfl) (Nat.le_of_ble_eq_true rfl) (w_strlen (j := 9) (by decide) rfl) ?_
    rintro _ _ ⟨rfl, rfl⟩
    refine ok_ic_eq (x := w32 ((V 16 7) - (V 16 6))) (u := lenW 9) (L := [some (.inr (.inr (.inl 17))), some (.inr (.inr (.inr 19))), none]) (S := []) (M := mm V h) rfl rfl (fun c3 => ?_) (fun c3 => ?_)
    ·
      replace hf := (if_pos c3).symm.trans hf
      refine ok_thru (L := [some (.inr (.inr (.inl 17))), some (.inr (.inr (.inr 19))), some (.inl 0)]) (S := []) (M := mm V h) rfl rfl ?_
      exact s_Tape_isWord_5_o16w9 hf
    ·
      replace hf := (if_neg c3).symm.trans hf
      obtain rfl := Option.some.inj hf
      have hz : (0 : Int) = 0 ∨ (0 : Int) = 1 := by
        first | exact Or.inl rfl | exact Or.inr rfl | assumption | (repeat' split) <;> first | exact Or.inl rfl | exact Or.inr rfl | assumption
      refine ok_zreturn (L := [some (.inr (.inr (.inl 17))), some (.inr (.inr (.inr 19))), none]) (M := mm V h) (x := 0) rfl rfl hz ?_
      exact ⟨rfl, rfl, hz⟩
set_option maxRecDepth 20000 in
set_option maxHeartbeats 4000000 in
theorem s_Tape_isWord_5_o16w10_n {X : Xs} {d : Nat} {V : VV} {h : HP} {q : Int} : ∀ (n : Nat) (v2 : Int), f_Tape_isWord_5 16 17 400 10 n V v2 = some q → Ok X (d + 6) 59 5 ([some (.inr (.inr (.inl 17))), some (.inr (.inr (.inr 20))), some (.inl v2)], [], mm V h) (fun M r => M = mm V h ∧ r = some (.inl q) ∧ (q = 0 ∨ q = 1)) := by
  intro n
  induction n with
  | zero => intro v2 hf; cases hf
  | succ n ih =>
    intro v2 hf
    let QQ : Mm → Option AV → Prop := fun M r => M = mm V h ∧ r = some (.inl q) ∧ (q = 0 ∨ q = 1)
    show Ok X (d + 6) 59 5 ([some (.inr (.inr (.inl 17))), some (.inr (.inr (.inr 20))), some (.inl v2)], [], mm V h) QQ
    refine ok_callA (L := [some (.inr (.inr (.inl 17))), some (.inr (.inr (.inr 20))), some (.inl v2)]) (M := mm V h) (args := [.inr (.inr (.inr 20))]) (rest := [.inl v2]) (y2 := 60) rfl rfl rfl (Or.inl rfl) rfl rfl (Nat.le_of_ble_eq_true rfl) rfl rfl (Nat.le_of_ble_eq_true rfl) (Nat.le_of_ble_eq_true rfl) (w_strlen (j := 10) (by decide) rfl) ?_
    rintro _ _ ⟨rfl, rfl⟩
    refine ok_ic_ge (x := v2) (u := lenW 10) (L := [some (.inr (.inr (.inl 17))), some (.inr (.inr (.inr 20))), some (.inl v2)]) (S := []) (M := mm V h) rfl rfl (fun c2 => ?_) (fun c2 => ?_)
    ·
      replace hf := (if_neg (Int.not_lt.mpr c2)).symm.trans hf
      obtain rfl := Option.some.inj hf
      have hz : (1 : Int) = 0 ∨ (1 : Int) = 1 := by
        first | exact Or.inl rfl | exact Or.inr rfl | assumption | (repeat' split) <;> first | exact Or.inl rfl | exact Or.inr rfl | assumption
      refine ok_zreturn (L := [some (.inr (.inr (.inl 17))), some (.inr (.inr (.inr 20))), some (.inl v2)]) (M := mm V h) (x := 1) rfl rfl hz ?_
      exact ⟨rfl, rfl, hz⟩
    ·
      replace hf := (if_pos c2).symm.trans hf
      refine ok_callA (L := [some (.inr (.inr (.inl 17))), some (.inr (.inr (.inr 20))), some (.inl v2)]) (M := mm V h) (args := [.inr (.inr (.inl 18)), .inl (w32 ((V 16 6) + v2))]) (rest := []) (y2 := 21) rfl rfl rfl (Or.inr (Or.inl rfl)) rfl rfl (Nat.le_of_ble_eq_true rfl) rfl rfl (Nat.le_of_ble_eq_true rfl) (Nat.le_of_ble_eq_true rfl) (w_at rfl rfl) ?_
      rintro _ _ ⟨rfl, rfl⟩
      obtain ⟨q4, e4, hf⟩ := obind hf
      refine ok_callA (L := [some (.inr (.inr (.inl 17))), some (.inr (.inr (.inr 20))), some (.inl v2)]) (M := mm V h) (args := [.inr (.inr (.inr 20)), .inl v2]) (rest := [.inl (atV V 17 400 (w32 ((V 16 6) + v2)))]) (y2 := 62) rfl rfl rfl (Or.inl rfl) rfl rfl (Nat.le_of_ble_eq_true rfl) rfl rfl (Nat.le_of_ble_eq_true rfl) (Nat.le_of_ble_eq_true rfl) (w_strchar (j := 10) (by decide) e4) ?_
      rintro _ _ ⟨rfl, rfl, hz4⟩
      refine ok_ic_eq (x := atV V 17 400 (w32 ((V 16 6) + v2))) (u := q4) (L := [some (.inr (.inr (.inl 17))), some (.inr (.inr (.inr 20))), some (.inl v2)]) (S := []) (M := mm V h) rfl rfl (fun c5 => ?_) (fun c5 => ?_)
      ·
        replace hf := (if_pos c5).symm.trans hf
        refine ok_goto (L := [some (.inr (.inr (.inl 17))), some (.inr (.inr (.inr 20))), some (.inl (w32 (v2 + 1)))]) (S := []) (M := mm V h) rfl rfl ?_
        exact ih (w32 (v2 + 1)) hf
      ·
        replace hf := (if_neg c5).symm.trans hf
        obtain rfl := Option.some.inj hf
        have hz : (0 : Int) = 0 ∨ (0 : Int) = 1 := by
          first | exact Or.inl rfl | exact Or.inr rfl | assumption | (repeat' split) <;> first | exact Or.inl rfl | exact Or.inr rfl | assumption
        refine ok_zreturn (L := [some (.inr (.inr (.inl 17))), some (.inr (.inr (.inr 20))), some (.inl v2)]) (M := mm V h) (x := 0) rfl rfl hz ?_
        exact ⟨rfl, rfl, hz⟩
theorem s_Tape_isWord_5_o16w10 {X : Xs} {d : Nat} {V : VV} {h : HP} {v2 : Int} {n : Nat} {q : Int} (hf : f_Tape_isWord_5 16 17 400 10 n V v2 = some q) : Ok X (d + 6) 59 5 ([some (.inr (.inr (.inl 17))), some (.inr (.inr (.inr 20))), some (.inl v2)], [], mm V h) (fun M r => M = mm V h ∧ r = some (.inl q) ∧ (q = 0 ∨ q = 1)) :=
  s_Tape_isWord_5_o16w10_n n v2 hf
set_option maxRecDepth 20000 in
set_option maxHeartbeats 4000000 in
theorem s_Tape_isWord_o16w10 {X : Xs} {d : Nat} {V : VV} {h : HP} {q : Int} (hf : f_Tape_isWord 16 17 400 10 V = some q) : Ok X (d + 6) 59 0 ([some (.inr (.inr (.inl 17))), some (.inr (.inr (.inr 20))), none], [], mm V h) (fun M r => M = mm V h ∧ r = some (.inl q) ∧ (q = 0 ∨ q = 1)) := by
  let QQ : Mm → Option AV → Prop := fun M r => M = mm V h ∧ r = some (.inl q) ∧ (q = 0 ∨ q = 1)
  show Ok X (d + 6) 59 0 ([some (.inr (.inr (.inl 17))), some (.inr (.inr (.inr 20))), none], [], mm V h) QQ
  refine ok_ic_ne (x := V 16 2) (u := 1) (L := [some (.inr (.inr (.inl 17))), some (.inr (.inr (.inr 20))), none]) (S := []) (M := mm V h) rfl rfl (fun c1 => ?_) (fun c1 => ?_)
  ·
    replace hf := (if_neg c1).symm.trans hf
    obtain rfl := Option.some.inj hf
    have hz : (0 : Int) = 0 ∨ (0 : Int) = 1 := by
      first | exact Or.inl rfl | exact Or.inr rfl | assumption | (repeat' split) <;> first | exact Or.inl rfl | exact Or.inr rfl | assumption
    refine ok_zreturn (L := [some (.inr (.inr (.inl 17))), some (.inr (.inr (.inr 20))), none]) (M := mm V h) (x := 0) rfl rfl hz ?_
    exact ⟨rfl, rfl, hz⟩
  ·
    replace hf := (if_pos c1).symm.trans hf
    refine ok_callA (L := [some (.inr (.inr (.inl 17))), some (.inr (.inr (.inr 20))), none]) (M := mm V h) (args := [.inr (.inr (.inr 20))]) (rest := [.inl (w32 ((V 16 7) - (V 16 6)))]) (y2 := 60) rfl rfl rfl (Or.inl rfl) rfl rfl (Nat.le_of_ble_eq_true rfl) rfl rfl (Nat.le_of_ble_eq_true rfl) (Nat.le_of_ble_eq_true rfl) (w_strlen (j := 10) (by decide) rfl) ?_
    rintro _ _ ⟨rfl, rfl⟩
    refine ok_ic_eq (x := w32 ((V 16 7) - (V 16 6))) (u := lenW 10) (L := [some (.inr (.inr (.inl 17))), some (.inr (.inr (.inr 20))), none]) (S := []) (M := mm V h) rfl rfl (fun c3 => ?_) (fun c3 => ?_)
    ·
      replace hf := (if_pos c3).symm.trans hf
      refine ok_thru (L := [some (.inr (.inr (.inl 17))), some (.inr (.inr (.inr 20))), some (.inl 0)]) (S := []) (M := mm V h) rfl rfl ?_
      exact s_Tape_isWord_5_o16w10 hf
    ·
      replace hf := (if_neg c3).symm.trans hf
      obtain rfl := Option.some.inj hf
      have hz : (0 : Int) = 0 ∨ (0 : Int) = 1 := by
        first | exact Or.inl rfl | exact Or.inr rfl | assumption | (repeat' split) <;> first | exact Or.inl rfl | exact Or.inr rfl | assumption
      refine ok_zreturn (L := [some (.inr (.inr (.inl 17))), some (.inr (.inr (.inr 20))), none]) (M := mm V h) (x := 0) rfl rfl hz ?_
      exact ⟨rfl, rfl, hz⟩
set_option maxRecDepth 20000 in
set_option maxHeartbeats 4000000 in
theorem s_Tape_isWord_5_o16w11_n {X : Xs} {d : Nat} {V : VV} {h : HP} {q : Int} : ∀ (n : Nat) (v2 : Int), f_Tape_isWord_5 16 17 400 11 n V v2 = some q → Ok X (d + 6) 59 5 ([some (.inr (.inr (.inl 17))), some (.inr (.inr (.inr 21))), some (.inl v2)], [], mm V h) (fun M r => M = mm V h ∧ r = some (.inl q) ∧ (q = 0 ∨ q = 1)) := by
  intro n
  induction n with
  | zero => intro v2 hf; cases hf
  | succ n ih =>
    intro v2 hf
    let QQ : Mm → Option AV → Prop := fun M r => M = mm V h ∧ r = some (.inl q) ∧ (q = 0 ∨ q = 1)
    show Ok X (d + 6) 59 5 ([some (.inr (.inr (.inl 17))), some (.inr (.inr (.inr 21))), some (.inl v2)], [], mm V h) QQ
    refine ok_callA (L := [some (.inr (.inr (.inl 17))), some (.inr (.inr (.inr 21))), some (.inl v2)]) (M := mm V h) (args := [.inr (.inr (.inr 21))]) (rest := [.inl v2]) (y2 := 60) rfl rfl rfl (Or.inl rfl) rfl rfl (Nat.le_of_ble_eq_true rfl) rfl rfl (Nat.le_of_ble_eq_true rfl) (Nat.le_of_ble_eq_true rfl) (w_strlen (j := 11) (by decide) rfl) ?_
    rintro _ _ ⟨rfl, rfl⟩
    refine ok_ic_ge (x := v2) (u := lenW 11) (L := [some (.inr (.inr (.inl 17))), some (.inr (.inr (.inr 21))), some (.inl v2)]) (S := []) (M := mm V h) rfl rfl (fun c2 => ?_) (fun c2 => ?_)
    ·
      replace hf := (if_neg (Int.not_lt.mpr c2)).symm.trans hf
      obtain rfl := Option.some.inj hf
      have hz : (1 : Int) = 0 ∨ (1 : Int) = 1 := by
        first | exact Or.inl rfl | exact Or.inr rfl | assumption | (repeat' split) <;> first | exact Or.inl rfl | exact Or.inr rfl | assumption
      refine ok_zreturn (L := [some (.inr (.inr (.inl 17))), some (.inr (.inr (.inr 21))), some (.inl v2)]) (M := mm V h) (x := 1) rfl rfl hz ?_
      exact ⟨rfl, rfl, hz⟩
    ·
      replace hf := (if_pos c2).symm.trans hf
      refine ok_callA (L := [some (.inr (.inr (.inl 17))), some (.inr (.inr (.inr 21))), some (.inl v2)]) (M := mm V h) (args := [.inr (.inr (.inl 18)), .inl (w32 ((V 16 6) + v2))]) (rest := []) (y2 := 21) rfl rfl rfl (Or.inr (Or.inl rfl)) rfl rfl (Nat.le_of_ble_eq_true rfl) rfl rfl (Nat.le_of_ble_eq_true rfl) (Nat.le_of_ble_eq_true rfl) (w_at rfl rfl) ?_
      rintro _ _ ⟨rfl, rfl⟩
      obtain ⟨q4, e4, hf⟩ := obind hf
      refine ok_callA (L := [some (.inr (.inr (.inl 17))), some (.inr (.inr (.inr 21))), some (.inl v2)]) (M := mm V h) (args := [.inr (.inr (.inr 21)), .inl v2]) (rest := [.inl (atV V 17 400 (w32 ((V 16 6) + v2)))]) (y2 := 62) rfl rfl rfl (Or.inl rfl) rfl rfl (Nat.le_of_ble_eq_true rfl) rfl rfl (Nat.le_of_ble_eq_true rfl) (Nat.le_of_ble_eq_true rfl) (w_strchar (j := 11) (by decide) e4) ?_
      rintro _ _ ⟨rfl, rfl, hz4⟩
      refine ok_ic_eq (x := atV V 17 400 (w32 ((V 16 6) + v2))) (u := q4) (L := [some (.inr (.inr (.inl 17))), some (.inr (.inr (.inr 21))), some (.inl v2)]) (S := []) (M := mm V h) rfl rfl (fun c5 => ?_) (fun c5 => ?_)
      ·
        replace hf := (if_pos c5).symm.trans hf
        refine ok_goto (L := [some (.inr (.inr (.inl 17))), some (.inr (.inr (.inr 21))), some (.inl (w32 (v2 + 1)))]) (S := []) (M := mm V h) rfl rfl ?_
        exact ih (w32 (v2 + 1)) hf
      ·
        replace hf := (if_neg c5).symm.trans hf
        obtain rfl := Option.some.inj hf
        have hz : (0 : Int) = 0 ∨ (0 : Int) = 1 := by
          first | exact Or.inl rfl | exact Or.inr rfl | assumption | (repeat' split) <;> first | exact Or.inl rfl | exact Or.inr rfl | assumption
        refine ok_zreturn (L := [some (.inr (.inr (.inl 17))), some (.inr (.inr (.inr 21))), some (.inl v2)]) (M := mm V h) (x := 0) rfl rfl hz ?_
        exact ⟨rfl, rfl, hz⟩
theorem s_Tape_isWord_5_o16w11 {X : Xs} {d : Nat} {V : VV} {h : HP} {v2 : Int} {n : Nat} {q : Int} (hf : f_Tape_isWord_5 16 17 400 11 n V v2 = some q) : Ok X (d + 6) 59 5 ([some (.inr (.inr (.inl 17))), some (.inr (.inr (.inr 21))), some (.inl v2)], [], mm V h) (fun M r => M = mm V h ∧ r = some (.inl q) ∧ (q = 0 ∨ q = 1)) :=
  s_Tape_isWord_5_o16w11_n n v2 hf
set_option maxRecDepth 20000 in
set_option maxHeartbeats 4000000 in
theorem s_Tape_isWord_o16w11 {X : Xs} {d : Nat} {V : VV} {h : HP} {q : Int} (hf : f_Tape_isWord 16 17 400 11 V = some q) : Ok X (d + 6) 59 0 ([some (.inr (.inr (.inl 17))), some (.inr (.inr (.inr 21))), none], [], mm V h) (fun M r => M = mm V h ∧ r = some (.inl q) ∧ (q = 0 ∨ q = 1)) := by
  let QQ : Mm → Option AV → Prop := fun M r => M = mm V h ∧ r = some (.inl q) ∧ (q = 0 ∨ q = 1)
  show Ok X (d + 6) 59 0 ([some (.inr (.inr (.inl 17))), some (.inr (.inr (.inr 21))), none], [], mm V h) QQ
  refine ok_ic_ne (x := V 16 2) (u := 1) (L := [some (.inr (.inr (.inl 17))), some (.inr (.inr (.inr 21))), none]) (S := []) (M := mm V h) rfl rfl (fun c1 => ?_) (fun c1 => ?_)
  ·
    replace hf := (if_neg c1).symm.trans hf
    obtain rfl := Option.some.inj hf
    have hz : (0 : Int) = 0 ∨ (0 : Int) = 1 := by
      first | exact Or.inl rfl | exact Or.inr rfl | assumption | (repeat' split) <;> first | exact Or.inl rfl | exact Or.inr rfl | assumption
    refine ok_zreturn (L := [some (.inr (.inr (.inl 17))), some (.inr (.inr (.inr 21))), none]) (M := mm V h) (x := 0) rfl rfl hz ?_
    exact ⟨rfl, rfl, hz⟩
  ·
    replace hf := (if_pos c1).symm.trans hf
    refine ok_callA (L := [some (.inr (.inr (.inl 17))), some (.inr (.inr (.inr 21))), none]) (M := mm V h) (args := [.inr (.inr (.inr 21))]) (rest := [.inl (w32 ((V 16 7) - (V 16 6)))]) (y2 := 60) rfl rfl rfl (Or.inl rfl) rfl rfl (Nat.le_of_ble_eq_true rfl) rfl rfl (Nat.le_of_ble_eq_true rfl) (Nat.le_of_ble_eq_true rfl) (w_strlen (j := 11) (by decide) rfl) ?_
    rintro _ _ ⟨rfl, rfl⟩
    refine ok_ic_eq (x := w32 ((V 16 7) - (V 16 6))) (u := lenW 11) (L := [some (.inr (.inr (.inl 17))), some (.inr (.inr (.inr 21))), none]) (S := []) (M := mm V h) rfl rfl (fun c3 => ?_) (fun c3 => ?_)
    ·
      replace hf := (if_pos c3).symm.trans hf
      refine ok_thru (L := [some (.inr (.inr (.inl 17))), some (.inr (.inr (.inr 21))), some (.inl 0)]) (S := []) (M := mm V h) rfl rfl ?_
      exact s_Tape_isWord_5_o16w11 hf
    ·
      replace hf := (if_neg c3).symm.trans hf
      obtain rfl := Option.some.inj hf
      have hz : (0 : Int) = 0 ∨ (0 : Int) = 1 := by
        first | exact Or.inl rfl | exact Or.inr rfl | assumption | (repeat' split) <;> first | exact Or.inl rfl | exact Or.inr rfl | assumption
      refine ok_zreturn (L := [some (.inr (.inr (.inl 17))), some (.inr (.inr (.inr 21))), none]) (M := mm V h) (x := 0) rfl rfl hz ?_
      exact ⟨rfl, rfl, hz⟩
set_option maxRecDepth 20000 in
set_option maxHeartbeats 4000000 in
theorem s_Tape_isWord_5_o16w12_n {X : Xs} {d : Nat} {V : VV} {h : HP} {q : Int} : ∀ (n : Nat) (v2 : Int), f_Tape_isWord_5 16 17 400 12 n V v2 = some q → Ok X (d + 6) 59 5 ([some (.inr (.inr (.inl 17))), some (.inr (.inr (.inr 22))), some (.inl v2)], [], mm V h) (fun M r => M = mm V h ∧ r = some (.inl q) ∧ (q = 0 ∨ q = 1)) := by
  intro n
  induction n with
  | zero => intro v2 hf; cases hf
  | succ n ih =>
    intro v2 hf
    let QQ : Mm → Option AV → Prop := fun M r => M = mm V h ∧ r = some (.inl q) ∧ (q = 0 ∨ q = 1)
    show Ok X (d + 6) 59 5 ([some (.inr (.inr (.inl 17))), some (.inr (.inr (.inr 22))), some (.inl v2)], [], mm V h) QQ
    refine ok_callA (L := [some (.inr (.inr (.inl 17))), some (.inr (.inr (.inr 22))), some (.inl v2)]) (M := mm V h) (args := [.inr (.inr (.inr 22))]) (rest := [.inl v2]) (y2 := 60) rfl rfl rfl (Or.inl rfl) rfl rfl (Nat.le_of_ble_eq_true rfl) rfl rfl (Nat.le_of_ble_eq_true rfl) (Nat.le_of_ble_eq_true rfl) (w_strlen (j := 12) (by decide) rfl) ?_
    rintro _ _ ⟨rfl, rfl⟩
    refine ok_ic_ge (x := v2) (u := lenW 12) (L := [some (.inr (.inr (.inl 17))), some (.inr (.inr (.inr 22))), some (.inl v2)]) (S := []) (M := mm V h) rfl rfl (fun c2 => ?_) (fun c2 => ?_)
    ·
      replace hf := (if_neg (Int.not_lt.mpr c2)).symm.trans hf
      obtain rfl := Option.some.inj hf
      have hz : (1 : Int) = 0 ∨ (1 : Int) = 1 := by
        first | exact Or.inl rfl | exact Or.inr rfl | assumption | (repeat' split) <;> first | exact Or.inl rfl | exact Or.inr rfl | assumption
      refine ok_zreturn (L := [some (.inr (.inr (.inl 17))), some (.inr (.inr (.inr 22))), some (.inl v2)]) (M := mm V h) (x := 1) rfl rfl hz ?_
      exact ⟨rfl, rfl, hz⟩
    ·
      replace hf := (if_pos c2).symm.trans hf
      refine ok_callA (L := [some (.inr (.inr (.inl 17))), some (.inr (.inr (.inr 22))), some (.inl v2)]) (M := mm V h) (args := [.inr (.inr (.inl 18)), .inl (w32 ((V 16 6) + v2))]) (rest := []) (y2 := 21) rfl rfl rfl (Or.inr (Or.inl rfl)) rfl rfl (Nat.le_of_ble_eq_true rfl) rfl rfl (Nat.le_of_ble_eq_true rfl) (Nat.le_of_ble_eq_true rfl) (w_at rfl rfl) ?_
      rintro _ _ ⟨rfl, rfl⟩
      obtain ⟨q4, e4, hf⟩ := obind hf
      refine ok_callA (L := [some (.inr (.inr (.inl 17))), some (.inr (.inr (.inr 22))), some (.inl v2)]) (M := mm V h) (args := [.inr (.inr (.inr 22)), .inl v2]) (rest := [.inl (atV V 17 400 (w32 ((V 16 6) + v2)))]) (y2 := 62) rfl rfl rfl (Or.inl rfl) rfl rfl (Nat.le_of_ble_eq_true rfl) rfl rfl (Nat.le_of_ble_eq_true rfl) (Nat.le_of_ble_eq_true rfl) (w_strchar (j := 12) (by decide) e4) ?_
      rintro _ _ ⟨rfl, rfl, hz4⟩
      refine ok_ic_eq (x := atV V 17 400 (w32 ((V 16 6) + v2))) (u := q4) (L := [some (.inr (.inr (.inl 17))), some (.inr (.inr (.inr 22))), some (.inl v2)]) (S := []) (M := mm V h) rfl rfl (fun c5 => ?_) (fun c5 => ?_)
      ·
        replace hf := (if_pos c5).symm.trans hf
        refine ok_goto (L := [some (.inr (.inr (.inl 17))), some (.inr (.inr (.inr 22))), some (.inl (w32 (v2 + 1)))]) (S := []) (M := mm V h) rfl rfl ?_
        exact ih (w32 (v2 + 1)) hf
      ·
        replace hf := (if_neg c5).symm.trans hf
        obtain rfl := Option.some.inj hf
        have hz : (0 : Int) = 0 ∨ (0 : Int) = 1 := by
          first | exact Or.inl rfl | exact Or.inr rfl | assumption | (repeat' split) <;> first | exact Or.inl rfl | exact Or.inr rfl | assumption
        refine ok_zreturn (L := [some (.inr (.inr (.inl 17))), some (.inr (.inr (.inr 22))), some (.inl v2)]) (M := mm V h) (x := 0) rfl rfl hz ?_
        exact ⟨rfl, rfl, hz⟩
theorem s_Tape_isWord_5_o16w12 {X : Xs} {d : Nat} {V : VV} {h : HP} {v2 : Int} {n : Nat} {q : Int} (hf : f_Tape_isWord_5 16 17 400 12 n V v2 = some q) : Ok X (d + 6) 59 5 ([some (.inr (.inr (.inl 17))), some (.inr (.inr (.inr 22))), some (.inl v2)], [], mm V h) (fun M r => M = mm V h ∧ r = some (.inl q) ∧ (q = 0 ∨ q = 1)) :=
  s_Tape_isWord_5_o16w12_n n v2 hf
set_option maxRecDepth 20000 in
set_option maxHeartbeats 4000000 in
theorem s_Tape_isWord_o16w12 {X : Xs} {d : Nat} {V : VV} {h : HP} {q : Int} (hf : f_Tape_isWord 16 17 400 12 V = some q) : Ok X (d + 6) 59 0 ([some (.inr (.inr (.inl 17))), some (.inr (.inr (.inr 22))), none], [], mm V h) (fun M r => M = mm V h ∧ r = some (.inl q) ∧ (q = 0 ∨ q = 1)) := by
  let QQ : Mm → Option AV → Prop := fun M r => M = mm V h ∧ r = some (.inl q) ∧ (q = 0 ∨ q = 1)
  show Ok X (d + 6) 59 0 ([some (.inr (.inr (.inl 17))), some (.inr (.inr (.inr 22))), none], [], mm V h) QQ
  refine ok_ic_ne (x := V 16 2) (u := 1) (L := [some (.inr (.inr (.inl 17))), some (.inr (.inr (.inr 22))), none]) (S := []) (M := mm V h) rfl rfl (fun c1 => ?_) (fun c1 => ?_)
  ·
    replace hf := (if_neg c1).symm.trans hf
    obtain rfl := Option.some.inj hf
    have hz : (0 : Int) = 0 ∨ (0 : Int) = 1 := by
      first | exact Or.inl rfl | exact Or.inr rfl | assumption | (repeat' split) <;> first | exact Or.inl rfl | exact Or.inr rfl | assumption
    refine ok_zreturn (L := [some (.inr (.inr (.inl 17))), some (.inr (.inr (.inr 22))), none]) (M := mm V h) (x := 0) rfl rfl hz ?_
    exact ⟨rfl, rfl, hz⟩
  ·
    replace hf := (if_pos c1).symm.trans hf
    refine ok_callA (L := [some (.inr (.inr (.inl 17))), some (.inr (.inr (.inr 22))), none]) (M := mm V h) (args := [.inr (.inr (.inr 22))]) (rest := [.inl (w32 ((V 16 7) - (V 16 6)))]) (y2 := 60) rfl rfl rfl (Or.inl rfl) rfl rfl (Nat.le_of_ble_eq_true rfl) rfl rfl (Nat.le_of_ble_eq_true rfl) (Nat.le_of_ble_eq_true rfl) (w_strlen (j := 12) (by decide) rfl) ?_
    rintro _ _ ⟨rfl, rfl⟩
    refine ok_ic_eq (x := w32 ((V 16 7) - (V 16 6))) (u := lenW 12) (L := [some (.inr (.inr (.inl 17))), some (.inr (.inr (.inr 22))), none]) (S := []) (M := mm V h) rfl rfl (fun c3 => ?_) (fun c3 => ?_)
    ·
      replace hf := (if_pos c3).symm.trans hf
      refine ok_thru (L := [some (.inr (.inr (.inl 17))), some (.inr (.inr (.inr 22))), some (.inl 0)]) (S := []) (M := mm V h) rfl rfl ?_
      exact s_Tape_isWord_5_o16w12 hf
    ·
      replace hf := (if_neg c3).symm.trans hf
      obtain rfl := Option.some.inj hf
      have hz : (0 : Int) = 0 ∨ (0 : Int) = 1 := by
        first | exact Or.inl rfl | exact Or.inr rfl | assumption | (repeat' split) <;> first | exact Or.inl rfl | exact Or.inr rfl | assumption
      refine ok_zreturn (L := [some (.inr (.inr (.inl 17))), some (.inr (.inr (.inr 22))), none]) (M := mm V h) (x := 0) rfl rfl hz ?_
      exact ⟨rfl, rfl, hz⟩
set_option maxRecDepth 20000 in
set_option maxHeartbeats 4000000 in
theorem s_Tape_isWord_5_o26w7_n {X : Xs} {d : Nat} {V : VV} {h : HP} {q : Int} : ∀ (n : Nat) (v2 : Int), f_Tape_isWord_5 26 27 100 7 n V v2 = some q → Ok X (d + 6) 59 5 ([some (.inr (.inr (.inl 27))), some (.inr (.inr (.inr 17))), some (.inl v2)], [], mm V h) (fun M r => M = mm V h ∧ r = some (.inl q) ∧ (q = 0 ∨ q = 1)) := by
  intro n
  induction n with
  | zero => intro v2 hf; cases hf
  | succ n ih =>
    intro v2 hf
    let QQ : Mm → Option AV → Prop := fun M r => M = mm V h ∧ r = some (.inl q) ∧ (q = 0 ∨ q = 1)
    show Ok X (d + 6) 59 5 ([some (.inr (.inr (.inl 27))), some (.inr (.inr (.inr 17))), some (.inl v2)], [], mm V h) QQ
    refine ok_callA (L := [some (.inr (.inr (.inl 27))), some (.inr (.inr (.inr 17))), some (.inl v2)]) (M := mm V h) (args := [.inr (.inr (.inr 17))]) (rest := [.inl v2]) (y2 := 60) rfl rfl rfl (Or.inl rfl) rfl rfl (Nat.le_of_ble_eq_true rfl) rfl rfl (Nat.le_of_ble_eq_true rfl) (Nat.le_of_ble_eq_true rfl) (w_strlen (j := 7) (by decide) rfl) ?_
    rintro _ _ ⟨rfl, rfl⟩
    refine ok_ic_ge (x := v2) (u := lenW 7) (L := [some (.inr (.inr (.inl 27))), some (.inr (.inr (.inr 17))), some (.inl v2)]) (S := []) (M := mm V h) rfl rfl (fun c2 => ?_) (fun c2 => ?_)
    ·
      replace hf := (if_neg (Int.not_lt.mpr c2)).symm.trans hf
      obtain rfl := Option.some.inj hf
      have hz : (1 : Int) = 0 ∨ (1 : Int) = 1 := by
        first | exact Or.inl rfl | exact Or.inr rfl | assumption | (repeat' split) <;> first | exact Or.inl rfl | exact Or.inr rfl | assumption
      refine ok_zreturn (L := [some (.inr (.inr (.inl 27))), some (.inr (.inr (.inr 17))), some (.inl v2)]) (M := mm V h) (x := 1) rfl rfl hz ?_
      exact ⟨rfl, rfl, hz⟩
    ·
      replace hf := (if_pos c2).symm.trans hf
      refine ok_callA (L := [some (.inr (.inr (.inl 27))), some (.inr (.inr (.inr 17))), some (.inl v2)]) (M := mm V h) (args := [.inr (.inr (.inl 28)), .inl (w32 ((V 26 6) + v2))]) (rest := []) (y2 := 21) rfl rfl rfl (Or.inr (Or.inl rfl)) rfl rfl (Nat.le_of_ble_eq_true rfl) rfl rfl (Nat.le_of_ble_eq_true rfl) (Nat.le_of_ble_eq_true rfl) (w_at rfl rfl) ?_
      rintro _ _ ⟨rfl, rfl⟩
      obtain ⟨q4, e4, hf⟩ := obind hf
      refine ok_callA (L := [some (.inr (.inr (.inl 27))), some (.inr (.inr (.inr 17))), some (.inl v2)]) (M := mm V h) (args := [.inr (.inr (.inr 17)), .inl v2]) (rest := [.inl (atV V 27 100 (w32 ((V 26 6) + v2)))]) (y2 := 62) rfl rfl rfl (Or.inl rfl) rfl rfl (Nat.le_of_ble_eq_true rfl) rfl rfl (Nat.le_of_ble_eq_true rfl) (Nat.le_of_ble_eq_true rfl) (w_strchar (j := 7) (by decide) e4) ?_
      rintro _ _ ⟨rfl, rfl, hz4⟩
      refine ok_ic_eq (x := atV V 27 100 (w32 ((V 26 6) + v2))) (u := q4) (L := [some (.inr (.inr (.inl 27))), some (.inr (.inr (.inr 17))), some (.inl v2)]) (S := []) (M := mm V h) rfl rfl (fun c5 => ?_) (fun c5 => ?_)
      ·
        replace hf := (if_pos c5).symm.trans hf
        refine ok_goto (L := [some (.inr (.inr (.inl 27))), some (.inr (.inr (.inr 17))), some (.inl (w32 (v2 + 1)))]) (S := []) (M := mm V h) rfl rfl ?_
        exact ih (w32 (v2 + 1)) hf
      ·
        replace hf := (if_neg c5).symm.trans hf
        obtain rfl := Option.some.inj hf
        have hz : (0 : Int) = 0 ∨ (0 : Int) = 1 := by
          first | exact Or.inl rfl | exact Or.inr rfl | assumption | (repeat' split) <;> first | exact Or.inl rfl | exact Or.inr rfl | assumption
        refine ok_zreturn (L := [some (.inr (.inr (.inl 27))), some (.inr (.inr (.inr 17))), some (.inl v2)]) (M := mm V h) (x := 0) rfl rfl hz ?_
        exact ⟨rfl, rfl, hz⟩
theorem s_Tape_isWord_5_o26w7 {X : Xs} {d : Nat} {V : VV} {h : HP} {v2 : Int} {n : Nat} {q : Int} (hf : f_Tape_isWord_5 26 27 100 7 n V v2 = some q) : Ok X (d + 6) 59 5 ([some (.inr (.inr (.inl 27))), some (.inr (.inr (.inr 17))), some (.inl v2)], [], mm V h) (fun M r => M = mm V h ∧ r = some (.inl q) ∧ (q = 0 ∨ q = 1)) :=
  s_Tape_isWord_5_o26w7_n n v2 hf
set_option maxRecDepth 20000 in
set_option maxHeartbeats 4000000 in
theorem s_Tape_isWord_o26w7 {X : Xs} {d : Nat} {V : VV} {h : HP} {q : Int} (hf : f_Tape_isWord 26 27 100 7 V = some q) : Ok X (d + 6) 59 0 ([some (.inr (.inr (.inl 27))), some (.inr (.inr (.inr 17))), none], [], mm V h) (fun M r => M = mm V h ∧ r = some (.inl q) ∧ (q = 0 ∨ q = 1)) := by
  let QQ : Mm → Option AV → Prop := fun M r => M = mm V h ∧ r = some (.inl q) ∧ (q = 0 ∨ q = 1)
  show Ok X (d + 6) 59 0 ([some (.inr (.inr (.inl 27))), some (.inr (.inr (.inr 17))), none], [], mm V h) QQ
  refine ok_ic_ne (x := V 26 2) (u := 1) (L := [some (.inr (.inr (.inl 27))), some (.inr (.inr (.inr 17))), none]) (S := []) (M := mm V h) rfl rfl (fun c1 => ?_) (fun c1 => ?_)
  ·
    replace hf := (if_neg c1).symm.trans hf
    obtain rfl := Option.some.inj hf
    have hz : (0 : Int) = 0 ∨ (0 : Int) = 1 := by
      first | exact Or.inl rfl | exact Or.inr rfl | assumption | (repeat' split) <;> first | exact Or.inl rfl | exact Or.inr rfl | assumption
    refine ok_zreturn (L := [some (.inr (.inr (.inl 27))), some (.inr (.inr (.inr 17))), none]) (M := mm V h) (x := 0) rfl rfl hz ?_
    exact ⟨rfl, rfl, hz⟩
  ·
    replace hf := (if_pos c1).symm.trans hf
    refine ok_callA (L := [some (.inr (.inr (.inl 27))), some (.inr (.inr (.inr 17))), none]) (M := mm V h) (args := [.inr (.inr (.inr 17))]) (rest := [.inl (w32 ((V 26 7) - (V 26 6)))]) (y2 := 60) rfl rfl rfl (Or.inl rfl) rfl rfl (Nat.le_of_ble_eq_true rfl) rfl rfl (Nat.le_of_ble_eq_true rfl) (Nat.le_of_ble_eq_true rfl) (w_strlen (j := 7) (by decide) rfl) ?_
    rintro _ _ ⟨rfl, rfl⟩
    refine ok_ic_eq (x := w32 ((V 26 7) - (V 26 6))) (u := lenW 7) (L := [some (.inr (.inr (.inl 27))), some (.inr (.inr (.inr 17))), none]) (S := []) (M := mm V h) rfl rfl (fun c3 => ?_) (fun c3 => ?_)
    ·
      replace hf := (if_pos c3).symm.trans hf
      refine ok_thru (L := [some (.inr (.inr (.inl 27))), some (.inr (.inr (.inr 17))), some (.inl 0)]) (S := []) (M := mm V h) rfl rfl ?_
      exact s_Tape_isWord_5_o26w7 hf
    ·
      replace hf := (if_neg c3).symm.trans hf
      obtain rfl := Option.some.inj hf
      have hz : (0 : Int) = 0 ∨ (0 : Int) = 1 := by
        first | exact Or.inl rfl | exact Or.inr rfl | assumption | (repeat' split) <;> first | exact Or.inl rfl | exact Or.inr rfl | assumption
      refine ok_zreturn (L := [some (.inr (.inr (.inl 27))), some (.inr (.inr (.inr 17))), none]) (M := mm V h) (x := 0) rfl rfl hz ?_
      exact ⟨rfl, rfl, hz⟩
set_option maxRecDepth 20000 in
set_option maxHeartbeats 4000000 in
theorem s_Tape_isWord_5_o26w8_n {X : Xs} {d : Nat} {V : VV} {h : HP} {q : Int} : ∀ (n : Nat) (v2 : Int), f_Tape_isWord_5 26 27 100 8 n V v2 = some q → Ok X (d + 6) 59 5 ([some (.inr (.inr (.inl 27))), some (.inr (.inr (.inr 18))), some (.inl v2)], [], mm V h) (fun M r => M = mm V h ∧ r = some (.inl q) ∧ (q = 0 ∨ q = 1)) := by
  intro n
  induction n with
  | zero => intro v2 hf; cases hf
  | succ n ih =>
    intro v2 hf
    let QQ : Mm → Option AV → Prop := fun M r => M = mm V h ∧ r = some (.inl q) ∧ (q = 0 ∨ q = 1)
    show Ok X (d + 6) 59 5 ([some (.inr (.inr (.inl 27))), some (.inr (.inr (.inr 18))), some (.inl v2)], [], mm V h) QQ
    refine ok_callA (L := [some (.inr (.inr (.inl 27))), some (.inr (.inr (.inr 18))), some (.inl v2)]) (M := mm V h) (args := [.inr (.inr (.inr 18))]) (rest := [.inl v2]) (y2 := 60) rfl rfl rfl (Or.inl rfl) rfl rfl (Nat.le_of_ble_eq_true rfl) rfl rfl (Nat.le_of_ble_eq_true rfl) (Nat.le_of_ble_eq_true rfl) (w_strlen (j := 8) (by decide) rfl) ?_
    rintro _ _ ⟨rfl, rfl⟩
    refine ok_ic_ge (x := v2) (u := lenW 8) (L := [some (.inr (.inr (.inl 27))), some (.inr (.inr (.inr 18))), some (.inl v2)]) (S := []) (M := mm V h) rfl rfl (fun c2 => ?_) (fun c2 => ?_)
    ·
      replace hf := (if_neg (Int.not_lt.mpr c2)).symm.trans hf
      obtain rfl := Option.some.inj hf
      have hz : (1 : Int) = 0 ∨ (1 : Int) = 1 := by
        first | exact Or.inl rfl | exact Or.inr rfl | assumption | (repeat' split) <;> first | exact Or.inl rfl | exact Or.inr rfl | assumption
      refine ok_zreturn (L := [some (.inr (.inr (.inl 27))), some (.inr (.inr (.inr 18))), some (.inl v2)]) (M := mm V h) (x := 1) rfl rfl hz ?_
      exact ⟨rfl, rfl, hz⟩
    ·
      replace hf := (if_pos c2).symm.trans hf
      refine ok_callA (L := [some (.inr (.inr (.inl 27))), some (.inr (.inr (.inr 18))), some (.inl v2)]) (M := mm V h) (args := [.inr (.inr (.inl 28)), .inl (w32 ((V 26 6) + v2))]) (rest := []) (y2 := 21) rfl rfl rfl (Or.inr (Or.inl rfl)) rfl rfl (Nat.le_of_ble_eq_true rfl) rfl rfl (Nat.le_of_ble_eq_true rfl) (Nat.le_of_ble_eq_true rfl) (w_at rfl rfl) ?_
      rintro _ _ ⟨rfl, rfl⟩
      obtain ⟨q4, e4, hf⟩ := obind hf
      refine ok_callA (L := [some (.inr (.inr (.inl 27))), some (.inr (.inr (.inr 18))), some (.inl v2)]) (M := mm V h) (args := [.inr (.inr (.inr 18)), .inl v2]) (rest := [.inl (atV V 27 100 (w32 ((V 26 6) + v2)))]) (y2 := 62) rfl rfl rfl (Or.inl rfl) rfl rfl (Nat.le_of_ble_eq_true rfl) rfl rfl (Nat.le_of_ble_eq_true rfl) (Nat.le_of_ble_eq_true rfl) (w_strchar (j := 8) (by decide) e4) ?_
      rintro _ _ ⟨rfl, rfl, hz4⟩
      refine ok_ic_eq (x := atV V 27 100 (w32 ((V 26 6) + v2))) (u := q4) (L := [some (.inr (.inr (.inl 27))), some (.inr (.inr (.inr 18))), some (.inl v2)]) (S := []) (M := mm V h) rfl rfl (fun c5 => ?_) (fun c5 => ?_)
      ·
        replace hf := (if_pos c5).symm.trans hf
        refine ok_goto (L := [some (.inr (.inr (.inl 27))), some (.inr (.inr (.inr 18))), some (.inl (w32 (v2 + 1)))]) (S := []) (M := mm V h) rfl rfl ?_
        exact ih (w32 (v2 + 1)) hf
      ·
        replace hf := (if_neg c5).symm.trans hf
        obtain rfl := Option.some.inj hf
        have hz : (0 : Int) = 0 ∨ (0 : Int) = 1 := by
          first | exact Or.inl rfl | exact Or.inr rfl | assumption | (repeat' split) <;> first | exact Or.inl rfl | exact Or.inr rfl | assumption
        refine ok_zreturn (L := [some (.inr (.inr (.inl 27))), some (.inr (.inr (.inr 18))), some (.inl v2)]) (M := mm V h) (x := 0) rfl rfl hz ?_
        exact ⟨rfl, rfl, hz⟩
theorem s_Tape_isWord_5_o26w8 {X : Xs} {d : Nat} {V : VV} {h : HP} {v2 : Int} {n : Nat} {q : Int} (hf : f_Tape_isWord_5 26 27 100 8 n V v2 = some q) : Ok X (d + 6) 59 5 ([some (.inr (.inr (.inl 27))), some (.inr (.inr (.inr 18))), some (.inl v2)], [], mm V h) (fun M r => M = mm V h ∧ r = some (.inl q) ∧ (q = 0 ∨ q = 1)) :=
  s_Tape_isWord_5_o26w8_n n v2 hf
set_option maxRecDepth 20000 in
set_option maxHeartbeats 4000000 in
theorem s_Tape_isWord_o26w8 {X : Xs} {d : Nat} {V : VV} {h : HP} {q : Int} (hf : f_Tape_isWord 26 27 100 8 V = some q) : Ok X (d + 6) 59 0 ([some (.inr (.inr (.inl 27))), some (.inr (.inr (.inr 18))), none], [], mm V h) (fun M r => M = mm V h ∧ r = some (.inl q) ∧ (q = 0 ∨ q = 1)) := by
  let QQ : Mm → Option AV → Prop := fun M r => M = mm V h ∧ r = some (.inl q) ∧ (q = 0 ∨ q = 1)
  show Ok X (d + 6) 59 0 ([some (.inr (.inr (.inl 27))), some (.inr (.inr (.inr 18))), none], [], mm V h) QQ
  refine ok_ic_ne (x := V 26 2) (u := 1) (L := [some (.inr (.inr (.inl 27))), some (.inr (.inr (.inr 18))), none]) (S := []) (M := mm V h) rfl rfl (fun c1 => ?_) (fun c1 => ?_)
  ·
    replace hf := (if_neg c1).symm.trans hf
    obtain rfl := Option.some.inj hf
    have hz : (0 : Int) = 0 ∨ (0 : Int) = 1 := by
      first | exact Or.inl rfl | exact Or.inr rfl | assumption | (repeat' split) <;> first | exact Or.inl rfl | exact Or.inr rfl | assumption
    refine ok_zreturn (L := [some (.inr (.inr (.inl 27))), some (.inr (.inr (.inr 18))), none]) (M := mm V h) (x := 0) rfl rfl hz ?_
    exact ⟨rfl, rfl, hz⟩
  ·
    replace hf := (if_pos c1).symm.trans hf
    refine ok_callA (L := [some (.inr (.inr (.inl 27))), some (.inr (.inr (.inr 18))), none]) (M := mm V h) (args := [.inr (.inr (.inr 18))]) (rest := [.inl (w32 ((V 26 7) - (V 26 6)))]) (y2 := 60) rfl rfl rfl (Or.inl rfl) rfl rfl (Nat.le_of_ble_eq_true rfl) rfl rfl (Nat.le_of_ble_eq_true rfl) (Nat.le_of_ble_eq_true rfl) (w_strlen (j := 8) (by decide) rfl) ?_
    rintro _ _ ⟨rfl, rfl⟩
    refine ok_ic_eq (x := w32 ((V 26 7) - (V 26 6))) (u := lenW 8) (L := [some (.inr (.inr (.inl 27))), some (.inr (.inr (.inr 18))), none]) (S := []) (M := mm V h) rfl rfl (fun c3 => ?_) (fun c3 => ?_)
    ·
      replace hf := (if_pos c3).symm.trans hf
      refine ok_thru (L := [some (.inr (.inr (.inl 27))), some (.inr (.inr (.inr 18))), some (.inl 0)]) (S := []) (M := mm V h) rfl rfl ?_
      exact s_Tape_isWord_5_o26w8 hf
    ·
      replace hf := (if_neg c3).symm.trans hf
      obtain rfl := Option.some.inj hf
      have hz : (0 : Int) = 0 ∨ (0 : Int) = 1 := by
        first | exact Or.inl rfl | exact Or.inr rfl | assumption | (repeat' split) <;> first | exact Or.inl rfl | exact Or.inr rfl | assumption
      refine ok_zreturn (L := [some (.inr (.inr (.inl 27))), some (.inr (.inr (.inr 18))), none]) (M := mm V h) (x := 0) rfl rfl hz ?_
      exact ⟨rfl, rfl, hz⟩
set_option maxRecDepth 20000 in
set_option maxHeartbeats 4000000 in
theorem s_Tape_isWord_5_o26w9_n {X : Xs} {d : Nat} {V : VV} {h : HP} {q : Int} : ∀ (n : Nat) (v2 : Int), f_Tape_isWord_5 26 27 100 9 n V v2 = some q → Ok X (d + 6) 59 5 ([some (.inr (.inr (.inl 27))), some (.inr (.inr (.inr 19))), some (.inl v2)], [], mm V h) (fun M r => M = mm V h ∧ r = some (.inl q) ∧ (q = 0 ∨ q = 1)) := by
  intro n
  induction n with
  | zero => intro v2 hf; cases hf
  | succ n ih =>
    intro v2 hf
    let QQ : Mm → Option AV → Prop := fun M r => M = mm V h ∧ r = some (.inl q) ∧ (q = 0 ∨ q = 1)
    show Ok X (d + 6) 59 5 ([some (.inr (.inr (.inl 27))), some (.inr (.inr (.inr 19))), some (.inl v2)], [], mm V h) QQ
    refine ok_callA (L := [some (.inr (.inr (.inl 27))), some (.inr (.inr (.inr 19))), some (.inl v2)]) (M := mm V h) (args := [.inr (.inr (.inr 19))]) (rest := [.inl v2]) (y2 := 60) rfl rfl rfl (Or.inl rfl) rfl rfl (Nat.le_of_ble_eq_true rfl) rfl rfl (Nat.le_of_ble_eq_true rfl) (Nat.le_of_ble_eq_true rfl) (w_strlen (j := 9) (by decide) rfl) ?_
    rintro _ _ ⟨rfl, rfl⟩
    refine ok_ic_ge (x := v2) (u := lenW 9) (L := [some (.inr (.inr (.inl 27))), some (.inr (.inr (.inr 19))), some (.inl v2)]) (S := []) (M := mm V h) rfl rfl (fun c2 => ?_) (fun c2 => ?_)
    ·
      replace hf := (if_neg (Int.not_lt.mpr c2)).symm.trans hf
      obtain rfl := Option.some.inj hf
      have hz : (1 : Int) = 0 ∨ (1 : Int) = 1 := by
        first | exact Or.inl rfl | exact Or.inr rfl | assumption | (repeat' split) <;> first | exact Or.inl rfl | exact Or.inr rfl | assumption
      refine ok_zreturn (L := [some (.inr (.inr (.inl 27))), some (.inr (.inr (.inr 19))), some (.inl v2)]) (M := mm V h) (x := 1) rfl rfl hz ?_
      exact ⟨rfl, rfl, hz⟩
    ·
      replace hf := (if_pos c2).symm.trans hf
      refine ok_callA (L := [some (.inr (.inr (.inl 27))), some (.inr (.inr (.inr 19))), some (.inl v2)]) (M := mm V h) (args := [.inr (.inr (.inl 28)), .inl (w32 ((V 26 6) + v2))]) (rest := []) (y2 := 21) rfl rfl rfl (Or.inr (Or.inl rfl)) rfl rfl (Nat.le_of_ble_eq_true rfl) rfl rfl (Nat.le_of_ble_eq_true rfl) (Nat.le_of_ble_eq_true rfl) (w_at rfl rfl) ?_
      rintro _ _ ⟨rfl, rfl⟩
      obtain ⟨q4, e4, hf⟩ := obind hf
      refine ok_callA (L := [some (.inr (.inr (.inl 27))), some (.inr (.inr (.inr 19))), some (.inl v2)]) (M := mm V h) (args := [.inr (.inr (.inr 19)), .inl v2]) (rest := [.inl (atV V 27 100 (w32 ((V 26 6) + v2)))]) (y2 := 62) rfl rfl rfl (Or.inl rfl) rfl rfl (Nat.le_of_ble_eq_true rfl) rfl rfl (Nat.le_of_ble_eq_true rfl) (Nat.le_of_ble_eq_true rfl) (w_strchar (j := 9) (by decide) e4) ?_
      rintro _ _ ⟨rfl, rfl, hz4⟩
      refine ok_ic_eq (x := atV V 27 100 (w32 ((V 26 6) + v2))) (u := q4) (L := [some (.inr (.inr (.inl 27))), some (.inr (.inr (.inr 19))), some (.inl v2)]) (S := []) (M := mm V h) rfl rfl (fun c5 => ?_) (fun c5 => ?_)
      ·
        replace hf := (if_pos c5).symm.trans hf
        refine ok_goto (L := [some (.inr (.inr (.inl 27))), some (.inr (.inr (.inr 19))), some (.inl (w32 (v2 + 1)))]) (S := []) (M := mm V h) rfl rfl ?_
        exact ih (w32 (v2 + 1)) hf
      ·
        replace hf := (if_neg c5).symm.trans hf
        obtain rfl := Option.some.inj hf
        have hz : (0 : Int) = 0 ∨ (0 : Int) = 1 := by
          first | exact Or.inl rfl | exact Or.inr rfl | assumption | (repeat' split) <;> first | exact Or.inl rfl | exact Or.inr rfl | assumption
        refine ok_zreturn (L := [some (.inr (.inr (.inl 27))), some (.inr (.inr (.inr 19))), some (.inl v2)]) (M := mm V h) (x := 0) rfl rfl hz ?_
        exact ⟨rfl, rfl, hz⟩
theorem s_Tape_isWord_5_o26w9 {X : Xs} {d : Nat} {V : VV} {h : HP} {v2 : Int} {n : Nat} {q : Int} (hf : f_Tape_isWord_5 26 27 100 9 n V v2 = some q) : Ok X (d + 6) 59 5 ([some (.inr (.inr (.inl 27))), some (.inr (.inr (.inr 19))), some (.inl v2)], [], mm V h) (fun M r => M = mm V h ∧ r = some (.inl q) ∧ (q = 0 ∨ q = 1)) :=
  s_Tape_isWord_5_o26w9_n n v2 hf
set_option maxRecDepth 20000 in
set_option maxHeartbeats 4000000 in
theorem s_Tape_isWord_o26w9 {X : Xs} {d : Nat} {V : VV} {h : HP} {q : Int} (hf : f_Tape_isWord 26 27 100 9 V = some q) : Ok X (d + 6) 59 0 ([some (.inr (.inr (.inl 27))), some (.inr (.inr (.inr 19))), none], [], mm V h) (fun M r => M = mm V h ∧ r = some (.inl q) ∧ (q = 0 ∨ q = 1)) := by
  let QQ : Mm → Option AV → Prop := fun M r => M = mm V h ∧ r = some (.inl q) ∧ (q = 0 ∨ q = 1)
  show Ok X (d + 6) 59 0 ([some (.inr (.inr (.inl 27))), some (.inr (.inr (.inr 19))), none], [], mm V h) QQ
  refine ok_ic_ne (x := V 26 2) (u := 1) (L := [some (.inr (.inr (.inl 27))), some (.inr (.inr (.inr 19))), none]) (S := []) (M := mm V h) rfl rfl (fun c1 => ?_) (fun c1 => ?_)
  ·
    replace hf := (if_neg c1).symm.trans hf
    obtain rfl := Option.some.inj hf
    have hz : (0 : Int) = 0 ∨ (0 : Int) = 1 := by
      first | exact Or.inl rfl | exact Or.inr rfl | assumption | (repeat' split) <;> first | exact Or.inl rfl | exact Or.inr rfl | assumption
    refine ok_zreturn (L := [some (.inr (.inr (.inl 27))), some (.inr (.inr (.inr 19))), none]) (M := mm V h) (x := 0) rfl rfl hz ?_
    exact ⟨rfl, rfl, hz⟩
  ·
    replace hf := (if_pos c1).symm.trans hf
    refine ok_callA (L := [some (.inr (.inr (.inl 27))), some (.inr (.inr (.inr 19))), none]) (M := mm V h) (args := [.inr (.inr (.inr 19))]) (rest := [.inl (w32 ((V 26 7) - (V 26 6)))]) (y2 := 60) rfl rfl rfl (Or.inl rfl) rfl rfl (Nat.le_of_ble_eq_true rfl) rfl rfl (Nat.le_of_ble_eq_true rfl) (Nat.le_of_ble_eq_true rfl) (w_strlen (j := 9) (by decide) rfl) ?_
    rintro _ _ ⟨rfl, rfl⟩
    refine ok_ic_eq (x := w32 ((V 26 7) - (V 26 6))) (u := lenW 9) (L := [some (.inr (.inr (.inl 27))), some (.inr (.inr (.inr 19))), none]) (S := []) (M := mm V h) rfl rfl (fun c3 => ?_) (fun c3 => ?_)
    ·
      replace hf := (if_pos c3).symm.trans hf
      refine ok_thru (L := [some (.inr (.inr (.inl 27))), some (.inr (.inr (.inr 19))), some (.inl 0)]) (S := []) (M := mm V h) rfl rfl ?_
      exact s_Tape_isWord_5_o26w9 hf
    ·
      replace hf := (if_neg c3).symm.trans hf
      obtain rfl := Option.some.inj hf
      have hz : (0 : Int) = 0 ∨ (0 : Int) = 1 := by
        first | exact Or.inl rfl | exact Or.inr rfl | assumption | (repeat' split) <;> first | exact Or.inl rfl | exact Or.inr rfl | assumption
      refine ok_zreturn (L := [some (.inr (.inr (.inl 27))), some (.inr (.inr (.inr 19))), none]) (M := mm V h) (x := 0) rfl rfl hz ?_
      exact ⟨rfl, rfl, hz⟩
set_option maxRecDepth 20000 in
set_option maxHeartbeats 4000000 in
theorem s_Tape_isWord_5_o26w10_n {X : Xs} {d : Nat} {V : VV} {h : HP} {q : Int} : ∀ (n : Nat) (v2 : Int), f_Tape_isWord_5 26 27 100 10 n V v2 = some q → Ok X (d + 6) 59 5 ([some (.inr (.inr (.inl 27))), some (.inr (.inr (.inr 20))), some (.inl v2)], [], mm V h) (fun M r => M = mm V h ∧ r = some (.inl q) ∧ (q = 0 ∨ q = 1)) := by
  intro n
  induction n with
  | zero => intro v2 hf; cases hf
  | succ n ih =>
    intro v2 hf
    let QQ : Mm → Option AV → Prop := fun M r => M = mm V h ∧ r = some (.inl q) ∧ (q = 0 ∨ q = 1)
    show Ok X (d + 6) 59 5 ([some (.inr (.inr (.inl 27))), some (.inr (.inr (.inr 20))), some (.inl v2)], [], mm V h) QQ
    refine ok_callA (L := [some (.inr (.inr (.inl 27))), some (.inr (.inr (.inr 20))), some (.inl v2)]) (M := mm V h) (args := [.inr (.inr (.inr 20))]) (rest := [.inl v2]) (y2 := 60) rfl rfl rfl (Or.inl rfl) rfl rfl (Nat.le_of_ble_eq_true rfl) rfl rfl (Nat.le_of_ble_eq_true rfl) (Nat.le_of_ble_eq_true rfl) (w_strlen (j := 10) (by decide) rfl) ?_
    rintro _ _ ⟨rfl, rfl⟩
    refine ok_ic_ge (x := v2) (u := lenW 10) (L := [some (.inr (.inr (.inl 27))), some (.inr (.inr (.inr 20))), some (.inl v2)]) (S := []) (M := mm V h) rfl rfl (fun c2 => ?_) (fun c2 => ?_)
    ·
      replace hf := (if_neg (Int.not_lt.mpr c2)).symm.trans hf
      obtain rfl := Option.some.inj hf
      have hz : (1 : Int) = 0 ∨ (1 : Int) = 1 := by
        first | exact Or.inl rfl | exact Or.inr rfl | assumption | (repeat' split) <;> first | exact Or.inl rfl | exact Or.inr rfl | assumption
      refine ok_zreturn (L := [some (.inr (.inr (.inl 27))), some (.inr (.inr (.inr 20))), some (.inl v2)]) (M := mm V h) (x := 1) rfl rfl hz ?_
      exact ⟨rfl, rfl, hz⟩
    ·
      replace hf := (if_pos c2).symm.trans hf
      refine ok_callA (L := [some (.inr (.inr (.inl 27))), some (.inr (.inr (.inr 20))), some (.inl v2)]) (M := mm V h) (args := [.inr (.inr (.inl 28)), .inl (w32 ((V 26 6) + v2))]) (rest := []) (y2 := 21) rfl rfl rfl (Or.inr (Or.inl rfl)) rfl rfl (Nat.le_of_ble_eq_true rfl) rfl rfl (Nat.le_of_ble_eq_true rfl) (Nat.le_of_ble_eq_true rfl) (w_at rfl rfl) ?_
      rintro _ _ ⟨rfl, rfl⟩
      obtain ⟨q4, e4, hf⟩ := obind hf
      refine ok_callA (L := [some (.inr (.inr (.inl 27))), some (.inr (.inr (.inr 20))), some (.inl v2)]) (M := mm V h) (args := [.inr (.inr (.inr 20)), .inl v2]) (rest := [.inl (atV V 27 100 (w32 ((V 26 6) + v2)))]) (y2 := 62) rfl rfl rfl (Or.inl rfl) rfl rfl (Nat.le_of_ble_eq_true rfl) rfl rfl (Nat.le_of_ble_eq_true rfl) (Nat.le_of_ble_eq_true rfl) (w_strchar (j := 10) (by decide) e4) ?_
      rintro _ _ ⟨rfl, rfl, hz4⟩
      refine ok_ic_eq (x := atV V 27 100 (w32 ((V 26 6) + v2))) (u := q4) (L := [some (.inr (.inr (.inl 27))), some (.inr (.inr (.inr 20))), some (.inl v2)]) (S := []) (M := mm V h) rfl rfl (fun c5 => ?_) (fun c5 => ?_)
      ·
        replace hf := (if_pos c5).symm.trans hf
        refine ok_goto (L := [some (.inr (.inr (.inl 27))), some (.inr (.inr (.inr 20))), some (.inl (w32 (v2 + 1)))]) (S := []) (M := mm V h) rfl rfl ?_
        exact ih (w32 (v2 + 1)) hf
      ·
        replace hf := (if_neg c5).symm.trans hf
        obtain rfl := Option.some.inj hf
        have hz : (0 : Int) = 0 ∨ (0 : Int) = 1 := by
          first | exact Or.inl rfl | exact Or.inr rfl | assumption | (repeat' split) <;> first | exact Or.inl rfl | exact Or.inr rfl | assumption
        refine ok_zreturn (L := [some (.inr (.inr (.inl 27))), some (.inr (.inr (.inr 20))), some (.inl v2)]) (M := mm V h) (x := 0) rfl rfl hz ?_
        exact ⟨rfl, rfl, hz⟩
theorem s_Tape_isWord_5_o26w10 {X : Xs} {d : Nat} {V : VV} {h : HP} {v2 : Int} {n : Nat} {q : Int} (hf : f_Tape_isWord_5 26 27 100 10 n V v2 = some q) : Ok X (d + 6) 59 5 ([some (.inr (.inr (.inl 27))), some (.inr (.inr (.inr 20))), some (.inl v2)], [], mm V h) (fun M r => M = mm V h ∧ r = some (.inl q) ∧ (q = 0 ∨ q = 1)) :=
  s_Tape_isWord_5_o26w10_n n v2 hf
set_option maxRecDepth 20000 in
set_option maxHeartbeats 4000000 in
theorem s_Tape_isWord_o26w10 {X : Xs} {d : Nat} {V : VV} {h : HP} {q : Int} (hf : f_Tape_isWord 26 27 100 10 V = some q) : Ok X (d + 6) 59 0 ([some (.inr (.inr (.inl 27))), some (.inr (.inr (.inr 20))), none], [], mm V h) (fun M r => M = mm V h ∧ r = some (.inl q) ∧ (q = 0 ∨ q = 1)) := by
  let QQ : Mm → Option AV → Prop := fun M r => M = mm V h ∧ r = some (.inl q) ∧ (q = 0 ∨ q = 1)
  show Ok X (d + 6) 59 0 ([some (.inr (.inr (.inl 27))), some (.inr (.inr (.inr 20))), none], [], mm V h) QQ
  refine ok_ic_ne (x := V 26 2) (u := 1) (L := [some (.inr (.inr (.inl 27))), some (.inr (.inr (.inr 20))), none]) (S := []) (M := mm V h) rfl rfl (fun c1 => ?_) (fun c1 => ?_)
  ·
    replace hf := (if_neg c1).symm.trans hf
    obtain rfl := Option.some.inj hf
    have hz : (0 : Int) = 0 ∨ (0 : Int) = 1 := by
      first | exact Or.inl rfl | exact Or.inr rfl | assumption | (repeat' split) <;> first | exact Or.inl rfl | exact Or.inr rfl | assumption
    refine ok_zreturn (L := [some (.inr (.inr (.inl 27))), some (.inr (.inr (.inr 20))), none]) (M := mm V h) (x := 0) rfl rfl hz ?_
    exact ⟨rfl, rfl, hz⟩
  ·
    replace hf := (if_pos c1).symm.trans hf
    refine ok_callA (L := [some (.inr (.inr (.inl 27))), some (.inr (.inr (.inr 20))), none]) (M := mm V h) (args := [.inr (.inr (.inr 20))]) (rest := [.inl (w32 ((V 26 7) - (V 26 6)))]) (y2 := 60) rfl rfl rfl (Or.inl rfl) rfl rfl (Nat.le_of_ble_eq_true rfl) rfl rfl (Nat.le_of_ble_eq_true rfl) (Nat.le_of_ble_eq_true rfl) (w_strlen (j := 10) (by decide) rfl) ?_
    rintro _ _ ⟨rfl, rfl⟩
    refine ok_ic_eq (x := w32 ((V 26 7) - (V 26 6))) (u := lenW 10) (L := [some (.inr (.inr (.inl 27))), some (.inr (.inr (.inr 20))), none]) (S := []) (M := mm V h) rfl rfl (fun c3 => ?_) (fun c3 => ?_)
    ·
      replace hf := (if_pos c3).symm.trans hf
      refine ok_thru (L := [some (.inr (.inr (.inl 27))), some (.inr (.inr (.inr 20))), some (.inl 0)]) (S := []) (M := mm V h) rfl rfl ?_
      exact s_Tape_isWord_5_o26w10 hf
    ·
      replace hf := (if_neg c3).symm.trans hf
      obtain rfl := Option.some.inj hf
      have hz : (0 : Int) = 0 ∨ (0 : Int) = 1 := by
        first | exact Or.inl rfl | exact Or.inr rfl | assumption | (repeat' split) <;> first | exact Or.inl rfl | exact Or.inr rfl | assumption
      refine ok_zreturn (L := [some (.inr (.inr (.inl 27))), some (.inr (.inr (.inr 20))), none]) (M := mm V h) (x := 0) rfl rfl hz ?_
      exact ⟨rfl, rfl, hz⟩
set_option maxRecDepth 20000 in
set_option maxHeartbeats 4000000 in
theorem s_Tape_isWord_5_o26w11_n {X : Xs} {d : Nat} {V : VV} {h : HP} {q : Int} : ∀ (n : Nat) (v2 : Int), f_Tape_isWord_5 26 27 100 11 n V v2 = some q → Ok X (d + 6) 59 5 ([some (.inr (.inr (.inl 27))), some (.inr (.inr (.inr 21))), some (.inl v2)], [], mm V h) (fun M r => M = mm V h ∧ r = some (.inl q) ∧ (q = 0 ∨ q = 1)) := by
  intro n
  induction n with
  | zero => intro v2 hf; cases hf
  | succ n ih =>
    intro v2 hf
    let QQ : Mm → Option AV → Prop := fun M r => M = mm V h ∧ r = some (.inl q) ∧ (q = 0 ∨ q = 1)
    show Ok X (d + 6) 59 5 ([some (.inr (.inr (.inl 27))), some (.inr (.inr (.inr 21))), some (.inl v2)], [], mm V h) QQ
    refine ok_callA (L := [some (.inr (.inr (.inl 27))), some (.inr (.inr (.inr 21))), some (.inl v2)]) (M := mm V h) (args := [.inr (.inr (.inr 21))]) (rest := [.inl v2]) (y2 := 60) rfl rfl rfl (Or.inl rfl) rfl rfl (Nat.le_of_ble_eq_true rfl) rfl rfl (Nat.le_of_ble_eq_true rfl) (Nat.le_of_ble_eq_true rfl) (w_strlen (j := 11) (by decide) rfl) ?_
    rintro _ _ ⟨rfl, rfl⟩
    refine ok_ic_ge (x := v2) (u := lenW 11) (L := [some (.inr (.inr (.inl 27))), some (.inr (.inr (.inr 21))), some (.inl v2)]) (S := []) (M := mm V h) rfl rfl (fun c2 => ?_) (fun c2 => ?_)
    ·
      replace hf := (if_neg (Int.not_lt.mpr c2)).symm.trans hf
      obtain rfl := Option.some.inj hf
      have hz : (1 : Int) = 0 ∨ (1 : Int) = 1 := by
        first | exact Or.inl rfl | exact Or.inr rfl | assumption | (repeat' split) <;> first | exact Or.inl rfl | exact Or.inr rfl | assumption
      refine ok_zreturn (L := [some (.inr (.inr (.inl 27))), some (.inr (.inr (.inr 21))), some (.inl v2)]) (M := mm V h) (x := 1) rfl rfl hz ?_
      exact ⟨rfl, rfl, hz⟩
    ·
      replace hf := (if_pos c2).symm.trans hf
      refine ok_callA (L := [some (.inr (.inr (.inl 27))), some (.inr (.inr (.inr 21))), some (.inl v2)]) (M := mm V h) (args := [.inr (.inr (.inl 28)), .inl (w32 ((V 26 6) + v2))]) (rest := []) (y2 := 21) rfl rfl rfl (Or.inr (Or.inl rfl)) rfl rfl (Nat.le_of_ble_eq_true rfl) rfl rfl (Nat.le_of_ble_eq_true rfl) (Nat.le_of_ble_eq_true rfl) (w_at rfl rfl) ?_
      rintro _ _ ⟨rfl, rfl⟩
      obtain ⟨q4, e4, hf⟩ := obind hf
      refine ok_callA (L := [some (.inr (.inr (.inl 27))), some (.inr (.inr (.inr 21))), some (.inl v2)]) (M := mm V h) (args := [.inr (.inr (.inr 21)), .inl v2]) (rest := [.inl (atV V 27 100 (w32 ((V 26 6) + v2)))]) (y2 := 62) rfl rfl rfl (Or.inl rfl) rfl rfl (Nat.le_of_ble_eq_true rfl) rfl rfl (Nat.le_of_ble_eq_true rfl) (Nat.le_of_ble_eq_true rfl) (w_strchar (j := 11) (by decide) e4) ?_
      rintro _ _ ⟨rfl, rfl, hz4⟩
      refine ok_ic_eq (x := atV V 27 100 (w32 ((V 26 6) + v2))) (u := q4) (L := [some (.inr (.inr (.inl 27))), some (.inr (.inr (.inr 21))), some (.inl v2)]) (S := []) (M := mm V h) rfl rfl (fun c5 => ?_) (fun c5 => ?_)
      ·
        replace hf := (if_pos c5).symm.trans hf
        refine ok_goto (L := [some (.inr (.inr (.inl 27))), some (.inr (.inr (.inr 21))), some (.inl (w32 (v2 + 1)))]) (S := []) (M := mm V h) rfl rfl ?_
        exact ih (w32 (v2 + 1)) hf
      ·
        replace hf := (if_neg c5).symm.trans hf
        obtain rfl := Option.some.inj hf
        have hz : (0 : Int) = 0 ∨ (0 : Int) = 1 := by
          first | exact Or.inl rfl | exact Or.inr rfl | assumption | (repeat' split) <;> first | exact Or.inl rfl | exact Or.inr rfl | assumption
        refine ok_zreturn (L := [some (.inr (.inr (.inl 27))), some (.inr (.inr (.inr 21))), some (.inl v2)]) (M := mm V h) (x := 0) rfl rfl hz ?_
        exact ⟨rfl, rfl, hz⟩
theorem s_Tape_isWord_5_o26w11 {X : Xs} {d : Nat} {V : VV} {h : HP} {v2 : Int} {n : Nat} {q : Int} (hf : f_Tape_isWord_5 26 27 100 11 n V v2 = some q) : Ok X (d + 6) 59 5 ([some (.inr (.inr (.inl 27))), some (.inr (.inr (.inr 21))), some (.inl v2)], [], mm V h) (fun M r => M = mm V h ∧ r = some (.inl q) ∧ (q = 0 ∨ q = 1)) :=
  s_Tape_isWord_5_o26w11_n n v2 hf
set_option maxRecDepth 20000 in
set_option maxHeartbeats 4000000 in
theorem s_Tape_isWord_o26w11 {X : Xs} {d : Nat} {V : VV} {h : HP} {q : Int} (hf : f_Tape_isWord 26 27 100 11 V = some q) : Ok X (d + 6) 59 0 ([some (.inr (.inr (.inl 27))), some (.inr (.inr (.inr 21))), none], [], mm V h) (fun M r => M = mm V h ∧ r = some (.inl q) ∧ (q = 0 ∨ q = 1)) := by
  let QQ : Mm → Option AV → Prop := fun M r => M = mm V h ∧ r = some (.inl q) ∧ (q = 0 ∨ q = 1)
  show Ok X (d + 6) 59 0 ([some (.inr (.inr (.inl 27))), some (.inr (.inr (.inr 21))), none], [], mm V h) QQ
  refine ok_ic_ne (x := V 26 2) (u := 1) (L := [some (.inr (.inr (.inl 27))), some (.inr (.inr (.inr 21))), none]) (S := []) (M := mm V h) rfl rfl (fun c1 => ?_) (fun c1 => ?_)
  ·
    replace hf := (if_neg c1).symm.trans hf
    obtain rfl := Option.some.inj hf
    have hz : (0 : Int) = 0 ∨ (0 : Int) = 1 := by
      first | exact Or.inl rfl | exact Or.inr rfl | assumption | (repeat' split) <;> first | exact Or.inl rfl | exact Or.inr rfl | assumption
    refine ok_zreturn (L := [some (.inr (.inr (.inl 27))), some (.inr (.inr (.inr 21))), none]) (M := mm V h) (x := 0) rfl rfl hz ?_
    exact ⟨rfl, rfl, hz⟩
  ·
    replace hf := (if_pos c1).symm.trans hf
    refine ok_callA (L := [some (.inr (.inr (.inl 27))), some (.inr (.inr (.inr 21))), none]) (M := mm V h) (args := [.inr (.inr (.inr 21))]) (rest := [.inl (w32 ((V 26 7) - (V 26 6)))]) (y2 := 60) rfl rfl rfl (Or.inl rfl) rfl rfl (Nat.le_of_ble_eq_true rfl) rfl rfl (Nat.le_of_ble_eq_true rfl) (Nat.le_of_ble_eq_true rfl) (w_strlen (j := 11) (by decide) rfl) ?_
    rintro _ _ ⟨rfl, rfl⟩
    refine ok_ic_eq (x := w32 ((V 26 7) - (V 26 6))) (u := lenW 11) (L := [some (.inr (.inr (.inl 27))), some (.inr (.inr (.inr 21))), none]) (S := []) (M := mm V h) rfl rfl (fun c3 => ?_) (fun c3 => ?_)
    ·
      replace hf := (if_pos c3).symm.trans hf
      refine ok_thru (L := [some (.inr (.inr (.inl 27))), some (.inr (.inr (.inr 21))), some (.inl 0)]) (S := []) (M := mm V h) rfl rfl ?_
      exact s_Tape_isWord_5_o26w11 hf
    ·
      replace hf := (if_neg c3).symm.trans hf
      obtain rfl := Option.some.inj hf
      have hz : (0 : Int) = 0 ∨ (0 : Int) = 1 := by
        first | exact Or.inl rfl | exact Or.inr rfl | assumption | (repeat' split) <;> first | exact Or.inl rfl | exact Or.inr rfl | assumption
      refine ok_zreturn (L := [some (.inr (.inr (.inl 27))), some (.inr (.inr (.inr 21))), none]) (M := mm V h) (x := 0) rfl rfl hz ?_
      exact ⟨rfl, rfl, hz⟩
set_option maxRecDepth 20000 in
set_option maxHeartbeats 4000000 in
theorem s_Tape_isWord_5_o26w12_n {X : Xs} {d : Nat} {V : VV} {h : HP} {q : Int} : ∀ (n : Nat) (v2 : Int), f_Tape_isWord_5 26 27 100 12 n V v2 = some q → Ok X (d + 6) 59 5 ([some (.inr (.inr (.inl 27))), some (.inr (.inr (.inr 22))), some (.inl v2)], [], mm V h) (fun M r => M = mm V h ∧ r = some (.inl q) ∧ (q = 0 ∨ q = 1)) := by
  intro n
  induction n with
  | zero => intro v2 hf; cases hf
  | succ n ih =>
    intro v2 hf
    let QQ : Mm → Option AV → Prop := fun M r => M = mm V h ∧ r = some (.inl q) ∧ (q = 0 ∨ q = 1)
    show Ok X (d + 6) 59 5 ([some (.inr (.inr (.inl 27))), some (.inr (.inr (.inr 22))), some (.inl v2)], [], mm V h) QQ
    refine ok_callA (L := [some (.inr (.inr (.inl 27))), some (.inr (.inr (.inr 22))), some (.inl v2)]) (M := mm V h) (args := [.inr (.inr (.inr 22))]) (rest := [.inl v2]) (y2 := 60) rfl rfl rfl (Or.inl rfl) rfl rfl (Nat.le_of_ble_eq_true rfl) rfl rfl (Nat.le_of_ble_eq_true rfl) (Nat.le_of_ble_eq_true rfl) (w_strlen (j := 12) (by decide) rfl) ?_
    rintro _ _ ⟨rfl, rfl⟩
    refine ok_ic_ge (x := v2) (u := lenW 12) (L := [some (.inr (.inr (.inl 27))), some (.inr (.inr (.inr 22))), some (.inl v2)]) (S := []) (M := mm V h) rfl rfl (fun c2 => ?_) (fun c2 => ?_)
    ·
      replace hf := (if_neg (Int.not_lt.mpr c2)).symm.trans hf
      obtain rfl := Option.some.inj hf
      have hz : (1 : Int) = 0 ∨ (1 : Int) = 1 := by
        first | exact Or.inl rfl | exact Or.inr rfl | assumption | (repeat' split) <;> first | exact Or.inl rfl | exact Or.inr rfl | assumption
      refine ok_zreturn (L := [some (.inr (.inr (.inl 27))), some (.inr (.inr (.inr 22))), some (.inl v2)]) (M := mm V h) (x := 1) rfl rfl hz ?_
      exact ⟨rfl, rfl, hz⟩
    ·
      replace hf := (if_pos c2).symm.trans hf
      refine ok_callA (L := [some (.inr (.inr (.inl 27))), some (.inr (.inr (.inr 22))), some (.inl v2)]) (M := mm V h) (args := [.inr (.inr (.inl 28)), .inl (w32 ((V 26 6) + v2))]) (rest := []) (y2 := 21) rfl rfl rfl (Or.inr (Or.inl rfl)) rfl rfl (Nat.le_of_ble_eq_true rfl) rfl rfl (Nat.le_of_ble_eq_true rfl) (Nat.le_of_ble_eq_true rfl) (w_at rfl rfl) ?_
      rintro _ _ ⟨rfl, rfl⟩
      obtain ⟨q4, e4, hf⟩ := obind hf
      refine ok_callA (L := [some (.inr (.inr (.inl 27))), some (.inr (.inr (.inr 22))), some (.inl v2)]) (M := mm V h) (args := [.inr (.inr (.inr 22)), .inl v2]) (rest := [.inl (atV V 27 100 (w32 ((V 26 6) + v2)))]) (y2 := 62) rfl rfl rfl (Or.inl rfl) rfl rfl (Nat.le_of_ble_eq_true rfl) rfl rfl (Nat.le_of_ble_eq_true rfl) (Nat.le_of_ble_eq_true rfl) (w_strchar (j := 12) (by decide) e4) ?_
      rintro _ _ ⟨rfl, rfl, hz4⟩
      refine ok_ic_eq (x := atV V 27 100 (w32 ((V 26 6) + v2))) (u := q4) (L := [some (.inr (.inr (.inl 27))), some (.inr (.inr (.inr 22))), some (.inl v2)]) (S := []) (M := mm V h) rfl rfl (fun c5 => ?_) (fun c5 => ?_)
      ·
        replace hf := (if_pos c5).symm.trans hf
        refine ok_goto (L := [some (.inr (.inr (.inl 27))), some (.inr (.inr (.inr 22))), some (.inl (w32 (v2 + 1)))]) (S := []) (M := mm V h) rfl rfl ?_
        exact ih (w32 (v2 + 1)) hf
      ·
        replace hf := (if_neg c5).symm.trans hf
        obtain rfl := Option.some.inj hf
        have hz : (0 : Int) = 0 ∨ (0 : Int) = 1 := by
          first | exact Or.inl rfl | exact Or.inr rfl | assumption | (repeat' split) <;> first | exact Or.inl rfl | exact Or.inr rfl | assumption
        refine ok_zreturn (L := [some (.inr (.inr (.inl 27))), some (.inr (.inr (.inr 22))), some (.inl v2)]) (M := mm V h) (x := 0) rfl rfl hz ?_
        exact ⟨rfl, rfl, hz⟩
theorem s_Tape_isWord_5_o26w12 {X : Xs} {d : Nat} {V : VV} {h : HP} {v2 : Int} {n : Nat} {q : Int} (hf : f_Tape_isWord_5 26 27 100 12 n V v2 = some q) : Ok X (d + 6) 59 5 ([some (.inr (.inr (.inl 27))), some (.inr (.inr (.inr 22))), some (.inl v2)], [], mm V h) (fun M r => M = mm V h ∧ r = some (.inl q) ∧ (q = 0 ∨ q = 1)) :=
  s_Tape_isWord_5_o26w12_n n v2 hf
set_option maxRecDepth 20000 in
set_option maxHeartbeats 4000000 in
theorem s_Tape_isWord_o26w12 {X : Xs} {d : Nat} {V : VV} {h : HP} {q : Int} (hf : f_Tape_isWord 26 27 100 12 V = some q) : Ok X (d + 6) 59 0 ([some (.inr (.inr (.inl 27))), some (.inr (.inr (.inr 22))), none], [], mm V h) (fun M r => M = mm V h ∧ r = some (.inl q) ∧ (q = 0 ∨ q = 1)) := by
  let QQ : Mm → Option AV → Prop := fun M r => M = mm V h ∧ r = some (.inl q) ∧ (q = 0 ∨ q = 1)
  show Ok X (d + 6) 59 0 ([some (.inr (.inr (.inl 27))), some (.inr (.inr (.inr 22))), none], [], mm V h) QQ
  refine ok_ic_ne (x := V 26 2) (u := 1) (L := [some (.inr (.inr (.inl 27))), some (.inr (.inr (.inr 22))), none]) (S := []) (M := mm V h) rfl rfl (fun c1 => ?_) (fun c1 => ?_)
  ·
    replace hf := (if_neg c1).symm.trans hf
    obtain rfl := Option.some.inj hf
    have hz : (0 : Int) = 0 ∨ (0 : Int) = 1 := by
      first | exact Or.inl rfl | exact Or.inr rfl | assumption | (repeat' split) <;> first | exact Or.inl rfl | exact Or.inr rfl | assumption
    refine ok_zreturn (L := [some (.inr (.inr (.inl 27))), some (.inr (.inr (.inr 22))), none]) (M := mm V h) (x := 0) rfl rfl hz ?_
    exact ⟨rfl, rfl, hz⟩
  ·
    replace hf := (if_pos c1).symm.trans hf
    refine ok_callA (L := [some (.inr (.inr (.inl 27))), some (.inr (.inr (.inr 22))), none]) (M := mm V h) (args := [.inr (.inr (.inr 22))]) (rest := [.inl (w32 ((V 26 7) - (V 26 6)))]) (y2 := 60) rfl rfl rfl (Or.inl rfl) rfl rfl (Nat.le_of_ble_eq_true rfl) rfl rfl (Nat.le_of_ble_eq_true rfl) (Nat.le_of_ble_eq_true rfl) (w_strlen (j := 12) (by decide) rfl) ?_
    rintro _ _ ⟨rfl, rfl⟩
    refine ok_ic_eq (x := w32 ((V 26 7) - (V 26 6))) (u := lenW 12) (L := [some (.inr (.inr (.inl 27))), some (.inr (.inr (.inr 22))), none]) (S := []) (M := mm V h) rfl rfl (fun c3 => ?_) (fun c3 => ?_)
    ·
      replace hf := (if_pos c3).symm.trans hf
      refine ok_thru (L := [some (.inr (.inr (.inl 27))), some (.inr (.inr (.inr 22))), some (.inl 0)]) (S := []) (M := mm V h) rfl rfl ?_
      exact s_Tape_isWord_5_o26w12 hf
    ·
      replace hf := (if_neg c3).symm.trans hf
      obtain rfl := Option.some.inj hf
      have hz : (0 : Int) = 0 ∨ (0 : Int) = 1 := by
        first | exact Or.inl rfl | exact Or.inr rfl | assumption | (repeat' split) <;> first | exact Or.inl rfl | exact Or.inr rfl | assumption
      refine ok_zreturn (L := [some (.inr (.inr (.inl 27))), some (.inr (.inr (.inr 22))), none]) (M := mm V h) (x := 0) rfl rfl hz ?_
      exact ⟨rfl, rfl, hz⟩
