/-! shallow functions of the program (printed by wip/tools/gen20.py) -/
def f_Hours_holds (V : VV) (v1 : Int) (v2 : Int) : Int := (if (atV V 20 40 v1) = (-1) then 1 else (if (atV V 20 40 v1) = v2 then 1 else 0 : Int) : Int)
set_option maxRecDepth 20000 in
set_option maxHeartbeats 4000000 in
theorem s_Hours_holds {X : Xs} {d : Nat} {V : VV} {h : HP} {v1 : Int} {v2 : Int} {q : Int} (hf : f_Hours_holds V v1 v2 = q) : Ok X (d + 2) 73 0 ([some (.inr (.inr (.inl 19))), some (.inl v1), some (.inl v2), none], [], mm V h) (fun M r => M = mm V h ∧ r = some (.inl q) ∧ (q = 0 ∨ q = 1)) := by
  let QQ : Mm → Option AV → Prop := fun M r => M = mm V h ∧ r = some (.inl q) ∧ (q = 0 ∨ q = 1)
  show Ok X (d + 2) 73 0 ([some (.inr (.inr (.inl 19))), some (.inl v1), some (.inl v2), none], [], mm V h) QQ
  refine ok_callA (L := [some (.inr (.inr (.inl 19))), some (.inl v1), some (.inl v2), none]) (M := mm V h) (args := [.inr (.inr (.inl 21)), .inl v1]) (rest := []) (y2 := 21) rfl rfl rfl (Or.inr (Or.inl rfl)) rfl rfl (Nat.le_of_ble_eq_true rfl) rfl rfl (Nat.le_of_ble_eq_true rfl) (Nat.le_of_ble_eq_true rfl) (w_at rfl rfl) ?_
  rintro _ _ ⟨rfl, rfl⟩
  have JN2 : Ok X (d + 2) 73 5 ([some (.inr (.inr (.inl 19))), some (.inl v1), some (.inl v2), some (.inl (atV V 20 40 v1))], [.inl (if (atV V 20 40 v1) = (-1) then 1 else (if (atV V 20 40 v1) = v2 then 1 else 0 : Int) : Int)], mm V h) QQ := by
    have hq : ((if (atV V 20 40 v1) = (-1) then 1 else (if (atV V 20 40 v1) = v2 then 1 else 0 : Int) : Int)) = q := hf
    subst hq
    have hz : ((if (atV V 20 40 v1) = (-1) then 1 else (if (atV V 20 40 v1) = v2 then 1 else 0 : Int) : Int) : Int) = 0 ∨ ((if (atV V 20 40 v1) = (-1) then 1 else (if (atV V 20 40 v1) = v2 then 1 else 0 : Int) : Int) : Int) = 1 := by
      first | exact Or.inl rfl | exact Or.inr rfl | assumption | (repeat' split) <;> first | exact Or.inl rfl | exact Or.inr rfl | assumption
    refine ok_zreturn (L := [some (.inr (.inr (.inl 19))), some (.inl v1), some (.inl v2), some (.inl (atV V 20 40 v1))]) (M := mm V h) (x := (if (atV V 20 40 v1) = (-1) then 1 else (if (atV V 20 40 v1) = v2 then 1 else 0 : Int) : Int)) rfl rfl hz ?_
    exact ⟨rfl, rfl, hz⟩
  clear hf
  refine ok_ic_eq (x := atV V 20 40 v1) (u := (-1)) (L := [some (.inr (.inr (.inl 19))), some (.inl v1), some (.inl v2), some (.inl (atV V 20 40 v1))]) (S := []) (M := mm V h) rfl rfl (fun c3 => ?_) (fun c3 => ?_)
  ·
    simp only [if_pos c3] at JN2
    refine ok_goto (L := [some (.inr (.inr (.inl 19))), some (.inl v1), some (.inl v2), some (.inl (atV V 20 40 v1))]) (S := [.inl 1]) (M := mm V h) rfl rfl ?_
    first | exact JN2 | (simp only [if_pos c3]; exact JN2)
  ·
    simp only [if_neg c3] at JN2
    refine ok_ic_ne (x := atV V 20 40 v1) (u := v2) (L := [some (.inr (.inr (.inl 19))), some (.inl v1), some (.inl v2), some (.inl (atV V 20 40 v1))]) (S := []) (M := mm V h) rfl rfl (fun c4 => ?_) (fun c4 => ?_)
    ·
      simp only [if_neg c4] at JN2
      refine ok_thru (L := [some (.inr (.inr (.inl 19))), some (.inl v1), some (.inl v2), some (.inl (atV V 20 40 v1))]) (S := [.inl 0]) (M := mm V h) rfl rfl ?_
      first | exact JN2 | (simp only [if_neg c3, if_neg c4]; exact JN2)
    ·
      simp only [if_pos c4] at JN2
      refine ok_goto (L := [some (.inr (.inr (.inl 19))), some (.inl v1), some (.inl v2), some (.inl (atV V 20 40 v1))]) (S := [.inl 1]) (M := mm V h) rfl rfl ?_
      first | exact JN2 | (simp only [if_neg c3, if_pos c4]; exact JN2)
def f_Hours_mark_2 : Nat → VV → Int → Int → Int → Int → (Option (VV))
  | 0, _, _, _, _, _ => none
  | n + 1, V, v1, v2, v3, v4 => if (atV V 23 40 v2) < v4 then some V else lt_ (setV V 24 12960 (w32 ((w32 (v1 * 4320)) + v4)) (iorI (atV V 24 12960 (w32 ((w32 (v1 * 4320)) + v4))) v3)) (fun q4 => f_Hours_mark_2 n q4 v1 v2 v3 (w32 (v4 + 1)))
set_option maxRecDepth 20000 in
set_option maxHeartbeats 4000000 in
theorem s_Hours_mark_2_n {X : Xs} {d : Nat} {h : HP} {q : VV} : ∀ (n : Nat) (V : VV) (v1 : Int) (v2 : Int) (v3 : Int) (v4 : Int) (z5 : Option AV), f_Hours_mark_2 n V v1 v2 v3 v4 = some q → Ok X (d + 2) 74 2 ([some (.inr (.inr (.inl 19))), some (.inl v1), some (.inl v2), some (.inl v3), some (.inl v4), z5], [], mm V h) (fun M r => M = mm q h ∧ r = none) := by
  intro n
  induction n with
  | zero => intro V v1 v2 v3 v4 z5 hf; cases hf
  | succ n ih =>
    intro V v1 v2 v3 v4 z5 hf
    let QQ : Mm → Option AV → Prop := fun M r => M = mm q h ∧ r = none
    show Ok X (d + 2) 74 2 ([some (.inr (.inr (.inl 19))), some (.inl v1), some (.inl v2), some (.inl v3), some (.inl v4), z5], [], mm V h) QQ
    refine ok_callA (L := [some (.inr (.inr (.inl 19))), some (.inl v1), some (.inl v2), some (.inl v3), some (.inl v4), z5]) (M := mm V h) (args := [.inr (.inr (.inl 24)), .inl v2]) (rest := [.inl v4]) (y2 := 21) rfl rfl rfl (Or.inr (Or.inl rfl)) rfl rfl (Nat.le_of_ble_eq_true rfl) rfl rfl (Nat.le_of_ble_eq_true rfl) (Nat.le_of_ble_eq_true rfl) (w_at rfl rfl) ?_
    rintro _ _ ⟨rfl, rfl⟩
    refine ok_ic_gt (x := v4) (u := atV V 23 40 v2) (L := [some (.inr (.inr (.inl 19))), some (.inl v1), some (.inl v2), some (.inl v3), some (.inl v4), z5]) (S := []) (M := mm V h) rfl rfl (fun c2 => ?_) (fun c2 => ?_)
    ·
      replace hf := (if_pos c2).symm.trans hf
      obtain rfl := Option.some.inj hf
      refine ok_return (L := [some (.inr (.inr (.inl 19))), some (.inl v1), some (.inl v2), some (.inl v3), some (.inl v4), z5]) (M := mm V h) rfl rfl ?_
      exact ⟨rfl, rfl⟩
    ·
      replace hf := (if_neg (Int.not_lt.mpr c2)).symm.trans hf
      refine ok_callA (L := [some (.inr (.inr (.inl 19))), some (.inl v1), some (.inl v2), some (.inl v3), some (.inl v4), some (.inl (w32 ((w32 (v1 * 4320)) + v4)))]) (M := mm V h) (args := [.inr (.inr (.inl 25)), .inl (w32 ((w32 (v1 * 4320)) + v4))]) (rest := [.inl (w32 ((w32 (v1 * 4320)) + v4)), .inr (.inr (.inl 25))]) (y2 := 21) rfl rfl rfl (Or.inr (Or.inl rfl)) rfl rfl (Nat.le_of_ble_eq_true rfl) rfl rfl (Nat.le_of_ble_eq_true rfl) (Nat.le_of_ble_eq_true rfl) (w_at rfl rfl) ?_
      rintro _ _ ⟨rfl, rfl⟩
      obtain ⟨q4, e4, hf⟩ := lt_x hf
      refine ok_callA (L := [some (.inr (.inr (.inl 19))), some (.inl v1), some (.inl v2), some (.inl v3), some (.inl v4), some (.inl (w32 ((w32 (v1 * 4320)) + v4)))]) (M := mm V h) (args := [.inr (.inr (.inl 25)), .inl (w32 ((w32 (v1 * 4320)) + v4)), .inl (iorI (atV V 24 12960 (w32 ((w32 (v1 * 4320)) + v4))) v3)]) (rest := []) (y2 := 9) rfl rfl rfl (Or.inr (Or.inl rfl)) rfl rfl (Nat.le_of_ble_eq_true rfl) rfl rfl (Nat.le_of_ble_eq_true rfl) (Nat.le_of_ble_eq_true rfl) (w_set rfl e4) ?_
      rintro _ _ ⟨rfl, rfl⟩
      refine ok_goto (L := [some (.inr (.inr (.inl 19))), some (.inl v1), some (.inl v2), some (.inl v3), some (.inl (w32 (v4 + 1))), some (.inl (w32 ((w32 (v1 * 4320)) + v4)))]) (S := []) (M := mm q4 h) rfl rfl ?_
      exact ih q4 v1 v2 v3 (w32 (v4 + 1)) (some (.inl (w32 ((w32 (v1 * 4320)) + v4)))) hf
theorem s_Hours_mark_2 {X : Xs} {d : Nat} {h : HP} {V : VV} {v1 : Int} {v2 : Int} {v3 : Int} {v4 : Int} {z5 : Option AV} {n : Nat} {q : VV} (hf : f_Hours_mark_2 n V v1 v2 v3 v4 = some q) : Ok X (d + 2) 74 2 ([some (.inr (.inr (.inl 19))), some (.inl v1), some (.inl v2), some (.inl v3), some (.inl v4), z5], [], mm V h) (fun M r => M = mm q h ∧ r = none) :=
  s_Hours_mark_2_n n V v1 v2 v3 v4 z5 hf
def f_Hours_mark (V : VV) (v1 : Int) (v2 : Int) (v3 : Int) : Option (VV) := f_Hours_mark_2 FU V v1 v2 v3 (atV V 22 40 v2)
set_option maxRecDepth 20000 in
set_option maxHeartbeats 4000000 in
theorem s_Hours_mark {X : Xs} {d : Nat} {V : VV} {h : HP} {v1 : Int} {v2 : Int} {v3 : Int} {q : VV} (hf : f_Hours_mark V v1 v2 v3 = some q) : Ok X (d + 2) 74 0 ([some (.inr (.inr (.inl 19))), some (.inl v1), some (.inl v2), some (.inl v3), none, none], [], mm V h) (fun M r => M = mm q h ∧ r = none) := by
  let QQ : Mm → Option AV → Prop := fun M r => M = mm q h ∧ r = none
  show Ok X (d + 2) 74 0 ([some (.inr (.inr (.inl 19))), some (.inl v1), some (.inl v2), some (.inl v3), none, none], [], mm V h) QQ
  refine ok_callA (L := [some (.inr (.inr (.inl 19))), some (.inl v1), some (.inl v2), some (.inl v3), none, none]) (M := mm V h) (args := [.inr (.inr (.inl 23)), .inl v2]) (rest := []) (y2 := 21) rfl rfl rfl (Or.inr (Or.inl rfl)) rfl rfl (Nat.le_of_ble_eq_true rfl) rfl rfl (Nat.le_of_ble_eq_true rfl) (Nat.le_of_ble_eq_true rfl) (w_at rfl rfl) ?_
  rintro _ _ ⟨rfl, rfl⟩
  refine ok_thru (L := [some (.inr (.inr (.inl 19))), some (.inl v1), some (.inl v2), some (.inl v3), some (.inl (atV V 22 40 v2)), none]) (S := []) (M := mm V h) rfl rfl ?_
  exact s_Hours_mark_2 hf
def f_Hours_shutBit (V : VV) (v0 : Int) : Int := ishlI 2 v0
set_option maxRecDepth 20000 in
set_option maxHeartbeats 4000000 in
theorem s_Hours_shutBit {X : Xs} {d : Nat} {V : VV} {h : HP} {v0 : Int} {q : Int} (hf : f_Hours_shutBit V v0 = q) : Ok X (d + 1) 75 0 ([some (.inl v0)], [], mm V h) (fun M r => M = mm V h ∧ r = some (.inl q)) := by
  let QQ : Mm → Option AV → Prop := fun M r => M = mm V h ∧ r = some (.inl q)
  show Ok X (d + 1) 75 0 ([some (.inl v0)], [], mm V h) QQ
  have hq : (ishlI 2 v0) = q := hf
  subst hq
  refine ok_ireturn (L := [some (.inl v0)]) (M := mm V h) (x := ishlI 2 v0) rfl rfl ?_
  exact ⟨rfl, rfl⟩
def f_Hours_wet_2 : Nat → VV → Int → Int → Int → (Option (VV))
  | 0, _, _, _, _ => none
  | n + 1, V, v1, v2, v3 => if (atV V 23 40 v2) < v3 then some V else lt_ (setV V 24 12960 (w32 ((w32 (v1 * 4320)) + v3)) (iandI (atV V 24 12960 (w32 ((w32 (v1 * 4320)) + v3))) (-2))) (fun q4 => f_Hours_wet_2 n q4 v1 v2 (w32 (v3 + 1)))
set_option maxRecDepth 20000 in
set_option maxHeartbeats 4000000 in
theorem s_Hours_wet_2_n {X : Xs} {d : Nat} {h : HP} {q : VV} : ∀ (n : Nat) (V : VV) (v1 : Int) (v2 : Int) (v3 : Int) (z4 : Option AV), f_Hours_wet_2 n V v1 v2 v3 = some q → Ok X (d + 2) 76 2 ([some (.inr (.inr (.inl 19))), some (.inl v1), some (.inl v2), some (.inl v3), z4], [], mm V h) (fun M r => M = mm q h ∧ r = none) := by
  intro n
  induction n with
  | zero => intro V v1 v2 v3 z4 hf; cases hf
  | succ n ih =>
    intro V v1 v2 v3 z4 hf
    let QQ : Mm → Option AV → Prop := fun M r => M = mm q h ∧ r = none
    show Ok X (d + 2) 76 2 ([some (.inr (.inr (.inl 19))), some (.inl v1), some (.inl v2), some (.inl v3), z4], [], mm V h) QQ
    refine ok_callA (L := [some (.inr (.inr (.inl 19))), some (.inl v1), some (.inl v2), some (.inl v3), z4]) (M := mm V h) (args := [.inr (.inr (.inl 24)), .inl v2]) (rest := [.inl v3]) (y2 := 21) rfl rfl rfl (Or.inr (Or.inl rfl)) rfl rfl (Nat.le_of_ble_eq_true rfl) rfl rfl (Nat.le_of_ble_eq_true rfl) (Nat.le_of_ble_eq_true rfl) (w_at rfl rfl) ?_
    rintro _ _ ⟨rfl, rfl⟩
    refine ok_ic_gt (x := v3) (u := atV V 23 40 v2) (L := [some (.inr (.inr (.inl 19))), some (.inl v1), some (.inl v2), some (.inl v3), z4]) (S := []) (M := mm V h) rfl rfl (fun c2 => ?_) (fun c2 => ?_)
    ·
      replace hf := (if_pos c2).symm.trans hf
      obtain rfl := Option.some.inj hf
      refine ok_return (L := [some (.inr (.inr (.inl 19))), some (.inl v1), some (.inl v2), some (.inl v3), z4]) (M := mm V h) rfl rfl ?_
      exact ⟨rfl, rfl⟩
    ·
      replace hf := (if_neg (Int.not_lt.mpr c2)).symm.trans hf
      refine ok_callA (L := [some (.inr (.inr (.inl 19))), some (.inl v1), some (.inl v2), some (.inl v3), some (.inl (w32 ((w32 (v1 * 4320)) + v3)))]) (M := mm V h) (args := [.inr (.inr (.inl 25)), .inl (w32 ((w32 (v1 * 4320)) + v3))]) (rest := [.inl (w32 ((w32 (v1 * 4320)) + v3)), .inr (.inr (.inl 25))]) (y2 := 21) rfl rfl rfl (Or.inr (Or.inl rfl)) rfl rfl (Nat.le_of_ble_eq_true rfl) rfl rfl (Nat.le_of_ble_eq_true rfl) (Nat.le_of_ble_eq_true rfl) (w_at rfl rfl) ?_
      rintro _ _ ⟨rfl, rfl⟩
      obtain ⟨q4, e4, hf⟩ := lt_x hf
      refine ok_callA (L := [some (.inr (.inr (.inl 19))), some (.inl v1), some (.inl v2), some (.inl v3), some (.inl (w32 ((w32 (v1 * 4320)) + v3)))]) (M := mm V h) (args := [.inr (.inr (.inl 25)), .inl (w32 ((w32 (v1 * 4320)) + v3)), .inl (iandI (atV V 24 12960 (w32 ((w32 (v1 * 4320)) + v3))) (-2))]) (rest := []) (y2 := 9) rfl rfl rfl (Or.inr (Or.inl rfl)) rfl rfl (Nat.le_of_ble_eq_true rfl) rfl rfl (Nat.le_of_ble_eq_true rfl) (Nat.le_of_ble_eq_true rfl) (w_set rfl e4) ?_
      rintro _ _ ⟨rfl, rfl⟩
      refine ok_goto (L := [some (.inr (.inr (.inl 19))), some (.inl v1), some (.inl v2), some (.inl (w32 (v3 + 1))), some (.inl (w32 ((w32 (v1 * 4320)) + v3)))]) (S := []) (M := mm q4 h) rfl rfl ?_
      exact ih q4 v1 v2 (w32 (v3 + 1)) (some (.inl (w32 ((w32 (v1 * 4320)) + v3)))) hf
theorem s_Hours_wet_2 {X : Xs} {d : Nat} {h : HP} {V : VV} {v1 : Int} {v2 : Int} {v3 : Int} {z4 : Option AV} {n : Nat} {q : VV} (hf : f_Hours_wet_2 n V v1 v2 v3 = some q) : Ok X (d + 2) 76 2 ([some (.inr (.inr (.inl 19))), some (.inl v1), some (.inl v2), some (.inl v3), z4], [], mm V h) (fun M r => M = mm q h ∧ r = none) :=
  s_Hours_wet_2_n n V v1 v2 v3 z4 hf
def f_Hours_wet (V : VV) (v1 : Int) (v2 : Int) : Option (VV) := f_Hours_wet_2 FU V v1 v2 (atV V 22 40 v2)
set_option maxRecDepth 20000 in
set_option maxHeartbeats 4000000 in
theorem s_Hours_wet {X : Xs} {d : Nat} {V : VV} {h : HP} {v1 : Int} {v2 : Int} {q : VV} (hf : f_Hours_wet V v1 v2 = some q) : Ok X (d + 2) 76 0 ([some (.inr (.inr (.inl 19))), some (.inl v1), some (.inl v2), none, none], [], mm V h) (fun M r => M = mm q h ∧ r = none) := by
  let QQ : Mm → Option AV → Prop := fun M r => M = mm q h ∧ r = none
  show Ok X (d + 2) 76 0 ([some (.inr (.inr (.inl 19))), some (.inl v1), some (.inl v2), none, none], [], mm V h) QQ
  refine ok_callA (L := [some (.inr (.inr (.inl 19))), some (.inl v1), some (.inl v2), none, none]) (M := mm V h) (args := [.inr (.inr (.inl 23)), .inl v2]) (rest := []) (y2 := 21) rfl rfl rfl (Or.inr (Or.inl rfl)) rfl rfl (Nat.le_of_ble_eq_true rfl) rfl rfl (Nat.le_of_ble_eq_true rfl) (Nat.le_of_ble_eq_true rfl) (w_at rfl rfl) ?_
  rintro _ _ ⟨rfl, rfl⟩
  refine ok_thru (L := [some (.inr (.inr (.inl 19))), some (.inl v1), some (.inl v2), some (.inl (atV V 22 40 v2)), none]) (S := []) (M := mm V h) rfl rfl ?_
  exact s_Hours_wet_2 hf
def f_Hours_markWorld_31 (k17 : VV → Int → Int → (Option (VV))) (V : VV) (v1 : Int) (v3 : Int) : Option (VV) := k17 V v1 (w32 (v3 + 1))
set_option maxRecDepth 20000 in
set_option maxHeartbeats 4000000 in
theorem s_Hours_markWorld_31 {X : Xs} {d : Nat} {k17 : VV → Int → Int → (Option (VV))} {V : VV} {h : HP} {v1 : Int} {v3 : Int} {w2 : Int} {q : VV} (hf : f_Hours_markWorld_31 k17 V v1 v3 = some q) (K17 : ∀ (V : VV) (v1 : Int) (v3 : Int) (w2 : Int), k17 V v1 v3 = some q → Ok X (d + 3) 72 17 ([some (.inr (.inr (.inl 19))), some (.inl v1), some (.inl w2), some (.inl v3)], [], mm V h) (fun M r => M = mm q h ∧ r = none)) : Ok X (d + 3) 72 31 ([some (.inr (.inr (.inl 19))), some (.inl v1), some (.inl w2), some (.inl v3)], [], mm V h) (fun M r => M = mm q h ∧ r = none) := by
  let QQ : Mm → Option AV → Prop := fun M r => M = mm q h ∧ r = none
  show Ok X (d + 3) 72 31 ([some (.inr (.inr (.inl 19))), some (.inl v1), some (.inl w2), some (.inl v3)], [], mm V h) QQ
  refine ok_goto (L := [some (.inr (.inr (.inl 19))), some (.inl v1), some (.inl w2), some (.inl (w32 (v3 + 1)))]) (S := []) (M := mm V h) rfl rfl ?_
  exact K17 V v1 (w32 (v3 + 1)) w2 hf
def f_Hours_markWorld_24 (k17 : VV → Int → Int → (Option (VV))) (V : VV) (v1 : Int) (v3 : Int) : Option (VV) := if (atV V 19 40 v3) = 2 then if (f_Hours_holds V v3 v1) = 0 then f_Hours_markWorld_31 k17 V v1 v3 else Option.bind (f_Hours_mark V v1 v3 (f_Hours_shutBit V (atV V 21 40 v3))) (fun q7 => f_Hours_markWorld_31 k17 q7 v1 v3) else f_Hours_markWorld_31 k17 V v1 v3
set_option maxRecDepth 20000 in
set_option maxHeartbeats 4000000 in
theorem s_Hours_markWorld_24 {X : Xs} {d : Nat} {k17 : VV → Int → Int → (Option (VV))} {V : VV} {h : HP} {v1 : Int} {v3 : Int} {w2 : Int} {q : VV} (hf : f_Hours_markWorld_24 k17 V v1 v3 = some q) (K17 : ∀ (V : VV) (v1 : Int) (v3 : Int) (w2 : Int), k17 V v1 v3 = some q → Ok X (d + 3) 72 17 ([some (.inr (.inr (.inl 19))), some (.inl v1), some (.inl w2), some (.inl v3)], [], mm V h) (fun M r => M = mm q h ∧ r = none)) : Ok X (d + 3) 72 24 ([some (.inr (.inr (.inl 19))), some (.inl v1), some (.inl w2), some (.inl v3)], [], mm V h) (fun M r => M = mm q h ∧ r = none) := by
  let QQ : Mm → Option AV → Prop := fun M r => M = mm q h ∧ r = none
  show Ok X (d + 3) 72 24 ([some (.inr (.inr (.inl 19))), some (.inl v1), some (.inl w2), some (.inl v3)], [], mm V h) QQ
  refine ok_callA (L := [some (.inr (.inr (.inl 19))), some (.inl v1), some (.inl w2), some (.inl v3)]) (M := mm V h) (args := [.inr (.inr (.inl 20)), .inl v3]) (rest := []) (y2 := 21) rfl rfl rfl (Or.inr (Or.inl rfl)) rfl rfl (Nat.le_of_ble_eq_true rfl) rfl rfl (Nat.le_of_ble_eq_true rfl) (Nat.le_of_ble_eq_true rfl) (w_at rfl rfl) ?_
  rintro _ _ ⟨rfl, rfl⟩
  refine ok_ic_ne (x := atV V 19 40 v3) (u := 2) (L := [some (.inr (.inr (.inl 19))), some (.inl v1), some (.inl w2), some (.inl v3)]) (S := []) (M := mm V h) rfl rfl (fun c2 => ?_) (fun c2 => ?_)
  ·
    replace hf := (if_neg c2).symm.trans hf
    exact s_Hours_markWorld_31 hf K17
  ·
    replace hf := (if_pos c2).symm.trans hf
    refine ok_callA (L := [some (.inr (.inr (.inl 19))), some (.inl v1), some (.inl w2), some (.inl v3)]) (M := mm V h) (args := [.inr (.inr (.inl 19)), .inl v3, .inl v1]) (rest := []) (y2 := 73) rfl rfl rfl (Or.inl rfl) rfl rfl (Nat.le_of_ble_eq_true rfl) rfl rfl (Nat.le_of_ble_eq_true rfl) (Nat.le_of_ble_eq_true rfl) (s_Hours_holds rfl) ?_
    rintro _ _ ⟨rfl, rfl, hz3⟩
    refine ok_if_eq (x := f_Hours_holds V v3 v1) (L := [some (.inr (.inr (.inl 19))), some (.inl v1), some (.inl w2), some (.inl v3)]) (S := []) (M := mm V h) rfl rfl (fun c4 => ?_) (fun c4 => ?_)
    ·
      replace hf := (if_pos c4).symm.trans hf
      exact s_Hours_markWorld_31 hf K17
    ·
      replace hf := (if_neg c4).symm.trans hf
      refine ok_callA (L := [some (.inr (.inr (.inl 19))), some (.inl v1), some (.inl w2), some (.inl v3)]) (M := mm V h) (args := [.inr (.inr (.inl 22)), .inl v3]) (rest := [.inl v3, .inl v1, .inr (.inr (.inl 19))]) (y2 := 21) rfl rfl rfl (Or.inr (Or.inl rfl)) rfl rfl (Nat.le_of_ble_eq_true rfl) rfl rfl (Nat.le_of_ble_eq_true rfl) (Nat.le_of_ble_eq_true rfl) (w_at rfl rfl) ?_
      rintro _ _ ⟨rfl, rfl⟩
      refine ok_callA (L := [some (.inr (.inr (.inl 19))), some (.inl v1), some (.inl w2), some (.inl v3)]) (M := mm V h) (args := [.inl (atV V 21 40 v3)]) (rest := [.inl v3, .inl v1, .inr (.inr (.inl 19))]) (y2 := 75) rfl rfl rfl (Or.inr (Or.inl rfl)) rfl rfl (Nat.le_of_ble_eq_true rfl) rfl rfl (Nat.le_of_ble_eq_true rfl) (Nat.le_of_ble_eq_true rfl) (s_Hours_shutBit rfl) ?_
      rintro _ _ ⟨rfl, rfl⟩
      obtain ⟨q7, e7, hf⟩ := obind hf
      refine ok_callA (L := [some (.inr (.inr (.inl 19))), some (.inl v1), some (.inl w2), some (.inl v3)]) (M := mm V h) (args := [.inr (.inr (.inl 19)), .inl v1, .inl v3, .inl (f_Hours_shutBit V (atV V 21 40 v3))]) (rest := []) (y2 := 74) rfl rfl rfl (Or.inl rfl) rfl rfl (Nat.le_of_ble_eq_true rfl) rfl rfl (Nat.le_of_ble_eq_true rfl) (Nat.le_of_ble_eq_true rfl) (s_Hours_mark e7) ?_
      rintro _ _ ⟨rfl, rfl⟩
      exact s_Hours_markWorld_31 hf K17
def f_Hours_markWorld_39 (k33 : VV → Int → Int → (Option (VV))) (V : VV) (v1 : Int) (v3 : Int) : Option (VV) := k33 V v1 (w32 (v3 + 1))
set_option maxRecDepth 20000 in
set_option maxHeartbeats 4000000 in
theorem s_Hours_markWorld_39 {X : Xs} {d : Nat} {k33 : VV → Int → Int → (Option (VV))} {V : VV} {h : HP} {v1 : Int} {v3 : Int} {w2 : Int} {q : VV} (hf : f_Hours_markWorld_39 k33 V v1 v3 = some q) (K33 : ∀ (V : VV) (v1 : Int) (v3 : Int) (w2 : Int), k33 V v1 v3 = some q → Ok X (d + 3) 72 33 ([some (.inr (.inr (.inl 19))), some (.inl v1), some (.inl w2), some (.inl v3)], [], mm V h) (fun M r => M = mm q h ∧ r = none)) : Ok X (d + 3) 72 39 ([some (.inr (.inr (.inl 19))), some (.inl v1), some (.inl w2), some (.inl v3)], [], mm V h) (fun M r => M = mm q h ∧ r = none) := by
  let QQ : Mm → Option AV → Prop := fun M r => M = mm q h ∧ r = none
  show Ok X (d + 3) 72 39 ([some (.inr (.inr (.inl 19))), some (.inl v1), some (.inl w2), some (.inl v3)], [], mm V h) QQ
  refine ok_goto (L := [some (.inr (.inr (.inl 19))), some (.inl v1), some (.inl w2), some (.inl (w32 (v3 + 1)))]) (S := []) (M := mm V h) rfl rfl ?_
  exact K33 V v1 (w32 (v3 + 1)) w2 hf
def f_Hours_markWorld_33 : Nat → VV → Int → Int → (Option (VV))
  | 0, _, _, _ => none
  | n + 1, V, v1, v3 => if v3 < (V 18 6) then if (atV V 19 40 v3) = 4 then if (f_Hours_holds V v3 v1) = 0 then f_Hours_markWorld_39 (f_Hours_markWorld_33 n) V v1 v3 else Option.bind (f_Hours_wet V v1 v3) (fun q6 => f_Hours_markWorld_39 (f_Hours_markWorld_33 n) q6 v1 v3) else f_Hours_markWorld_39 (f_Hours_markWorld_33 n) V v1 v3 else some V
set_option maxRecDepth 20000 in
set_option maxHeartbeats 4000000 in
theorem s_Hours_markWorld_33_n {X : Xs} {d : Nat} {h : HP} {q : VV} : ∀ (n : Nat) (V : VV) (v1 : Int) (v3 : Int) (w2 : Int), f_Hours_markWorld_33 n V v1 v3 = some q → Ok X (d + 3) 72 33 ([some (.inr (.inr (.inl 19))), some (.inl v1), some (.inl w2), some (.inl v3)], [], mm V h) (fun M r => M = mm q h ∧ r = none) := by
  intro n
  induction n with
  | zero => intro V v1 v3 w2 hf; cases hf
  | succ n ih =>
    intro V v1 v3 w2 hf
    let QQ : Mm → Option AV → Prop := fun M r => M = mm q h ∧ r = none
    show Ok X (d + 3) 72 33 ([some (.inr (.inr (.inl 19))), some (.inl v1), some (.inl w2), some (.inl v3)], [], mm V h) QQ
    refine ok_ic_ge (x := v3) (u := V 18 6) (L := [some (.inr (.inr (.inl 19))), some (.inl v1), some (.inl w2), some (.inl v3)]) (S := []) (M := mm V h) rfl rfl (fun c1 => ?_) (fun c1 => ?_)
    ·
      replace hf := (if_neg (Int.not_lt.mpr c1)).symm.trans hf
      obtain rfl := Option.some.inj hf
      refine ok_return (L := [some (.inr (.inr (.inl 19))), some (.inl v1), some (.inl w2), some (.inl v3)]) (M := mm V h) rfl rfl ?_
      exact ⟨rfl, rfl⟩
    ·
      replace hf := (if_pos c1).symm.trans hf
      refine ok_callA (L := [some (.inr (.inr (.inl 19))), some (.inl v1), some (.inl w2), some (.inl v3)]) (M := mm V h) (args := [.inr (.inr (.inl 20)), .inl v3]) (rest := []) (y2 := 21) rfl rfl rfl (Or.inr (Or.inl rfl)) rfl rfl (Nat.le_of_ble_eq_true rfl) rfl rfl (Nat.le_of_ble_eq_true rfl) (Nat.le_of_ble_eq_true rfl) (w_at rfl rfl) ?_
      rintro _ _ ⟨rfl, rfl⟩
      refine ok_ic_ne (x := atV V 19 40 v3) (u := 4) (L := [some (.inr (.inr (.inl 19))), some (.inl v1), some (.inl w2), some (.inl v3)]) (S := []) (M := mm V h) rfl rfl (fun c3 => ?_) (fun c3 => ?_)
      ·
        replace hf := (if_neg c3).symm.trans hf
        exact s_Hours_markWorld_39 hf ih
      ·
        replace hf := (if_pos c3).symm.trans hf
        refine ok_callA (L := [some (.inr (.inr (.inl 19))), some (.inl v1), some (.inl w2), some (.inl v3)]) (M := mm V h) (args := [.inr (.inr (.inl 19)), .inl v3, .inl v1]) (rest := []) (y2 := 73) rfl rfl rfl (Or.inl rfl) rfl rfl (Nat.le_of_ble_eq_true rfl) rfl rfl (Nat.le_of_ble_eq_true rfl) (Nat.le_of_ble_eq_true rfl) (s_Hours_holds rfl) ?_
        rintro _ _ ⟨rfl, rfl, hz4⟩
        refine ok_if_eq (x := f_Hours_holds V v3 v1) (L := [some (.inr (.inr (.inl 19))), some (.inl v1), some (.inl w2), some (.inl v3)]) (S := []) (M := mm V h) rfl rfl (fun c5 => ?_) (fun c5 => ?_)
        ·
          replace hf := (if_pos c5).symm.trans hf
          exact s_Hours_markWorld_39 hf ih
        ·
          replace hf := (if_neg c5).symm.trans hf
          obtain ⟨q6, e6, hf⟩ := obind hf
          refine ok_callA (L := [some (.inr (.inr (.inl 19))), some (.inl v1), some (.inl w2), some (.inl v3)]) (M := mm V h) (args := [.inr (.inr (.inl 19)), .inl v1, .inl v3]) (rest := []) (y2 := 76) rfl rfl rfl (Or.inl rfl) rfl rfl (Nat.le_of_ble_eq_true rfl) rfl rfl (Nat.le_of_ble_eq_true rfl) (Nat.le_of_ble_eq_true rfl) (s_Hours_wet e6) ?_
          rintro _ _ ⟨rfl, rfl⟩
          exact s_Hours_markWorld_39 hf ih
theorem s_Hours_markWorld_33 {X : Xs} {d : Nat} {h : HP} {V : VV} {v1 : Int} {v3 : Int} {w2 : Int} {n : Nat} {q : VV} (hf : f_Hours_markWorld_33 n V v1 v3 = some q) : Ok X (d + 3) 72 33 ([some (.inr (.inr (.inl 19))), some (.inl v1), some (.inl w2), some (.inl v3)], [], mm V h) (fun M r => M = mm q h ∧ r = none) :=
  s_Hours_markWorld_33_n n V v1 v3 w2 hf
def f_Hours_markWorld_17 : Nat → VV → Int → Int → (Option (VV))
  | 0, _, _, _ => none
  | n + 1, V, v1, v3 => if v3 < (V 18 6) then if (atV V 19 40 v3) = 3 then if (f_Hours_holds V v3 v1) = 0 then f_Hours_markWorld_24 (f_Hours_markWorld_17 n) V v1 v3 else Option.bind (f_Hours_mark V v1 v3 1) (fun q6 => f_Hours_markWorld_31 (f_Hours_markWorld_17 n) q6 v1 v3) else f_Hours_markWorld_24 (f_Hours_markWorld_17 n) V v1 v3 else f_Hours_markWorld_33 FU V v1 0
set_option maxRecDepth 20000 in
set_option maxHeartbeats 4000000 in
theorem s_Hours_markWorld_17_n {X : Xs} {d : Nat} {h : HP} {q : VV} : ∀ (n : Nat) (V : VV) (v1 : Int) (v3 : Int) (w2 : Int), f_Hours_markWorld_17 n V v1 v3 = some q → Ok X (d + 3) 72 17 ([some (.inr (.inr (.inl 19))), some (.inl v1), some (.inl w2), some (.inl v3)], [], mm V h) (fun M r => M = mm q h ∧ r = none) := by
  intro n
  induction n with
  | zero => intro V v1 v3 w2 hf; cases hf
  | succ n ih =>
    intro V v1 v3 w2 hf
    let QQ : Mm → Option AV → Prop := fun M r => M = mm q h ∧ r = none
    show Ok X (d + 3) 72 17 ([some (.inr (.inr (.inl 19))), some (.inl v1), some (.inl w2), some (.inl v3)], [], mm V h) QQ
    refine ok_ic_ge (x := v3) (u := V 18 6) (L := [some (.inr (.inr (.inl 19))), some (.inl v1), some (.inl w2), some (.inl v3)]) (S := []) (M := mm V h) rfl rfl (fun c1 => ?_) (fun c1 => ?_)
    ·
      replace hf := (if_neg (Int.not_lt.mpr c1)).symm.trans hf
      refine ok_thru (L := [some (.inr (.inr (.inl 19))), some (.inl v1), some (.inl w2), some (.inl 0)]) (S := []) (M := mm V h) rfl rfl ?_
      exact s_Hours_markWorld_33 hf
    ·
      replace hf := (if_pos c1).symm.trans hf
      refine ok_callA (L := [some (.inr (.inr (.inl 19))), some (.inl v1), some (.inl w2), some (.inl v3)]) (M := mm V h) (args := [.inr (.inr (.inl 20)), .inl v3]) (rest := []) (y2 := 21) rfl rfl rfl (Or.inr (Or.inl rfl)) rfl rfl (Nat.le_of_ble_eq_true rfl) rfl rfl (Nat.le_of_ble_eq_true rfl) (Nat.le_of_ble_eq_true rfl) (w_at rfl rfl) ?_
      rintro _ _ ⟨rfl, rfl⟩
      refine ok_ic_ne (x := atV V 19 40 v3) (u := 3) (L := [some (.inr (.inr (.inl 19))), some (.inl v1), some (.inl w2), some (.inl v3)]) (S := []) (M := mm V h) rfl rfl (fun c3 => ?_) (fun c3 => ?_)
      ·
        replace hf := (if_neg c3).symm.trans hf
        exact s_Hours_markWorld_24 hf ih
      ·
        replace hf := (if_pos c3).symm.trans hf
        refine ok_callA (L := [some (.inr (.inr (.inl 19))), some (.inl v1), some (.inl w2), some (.inl v3)]) (M := mm V h) (args := [.inr (.inr (.inl 19)), .inl v3, .inl v1]) (rest := []) (y2 := 73) rfl rfl rfl (Or.inl rfl) rfl rfl (Nat.le_of_ble_eq_true rfl) rfl rfl (Nat.le_of_ble_eq_true rfl) (Nat.le_of_ble_eq_true rfl) (s_Hours_holds rfl) ?_
        rintro _ _ ⟨rfl, rfl, hz4⟩
        refine ok_if_eq (x := f_Hours_holds V v3 v1) (L := [some (.inr (.inr (.inl 19))), some (.inl v1), some (.inl w2), some (.inl v3)]) (S := []) (M := mm V h) rfl rfl (fun c5 => ?_) (fun c5 => ?_)
        ·
          replace hf := (if_pos c5).symm.trans hf
          exact s_Hours_markWorld_24 hf ih
        ·
          replace hf := (if_neg c5).symm.trans hf
          obtain ⟨q6, e6, hf⟩ := obind hf
          refine ok_callA (L := [some (.inr (.inr (.inl 19))), some (.inl v1), some (.inl w2), some (.inl v3)]) (M := mm V h) (args := [.inr (.inr (.inl 19)), .inl v1, .inl v3, .inl 1]) (rest := []) (y2 := 74) rfl rfl rfl (Or.inl rfl) rfl rfl (Nat.le_of_ble_eq_true rfl) rfl rfl (Nat.le_of_ble_eq_true rfl) (Nat.le_of_ble_eq_true rfl) (s_Hours_mark e6) ?_
          rintro _ _ ⟨rfl, rfl⟩
          refine ok_goto (L := [some (.inr (.inr (.inl 19))), some (.inl v1), some (.inl w2), some (.inl v3)]) (S := []) (M := mm q6 h) rfl rfl ?_
          exact s_Hours_markWorld_31 hf ih
theorem s_Hours_markWorld_17 {X : Xs} {d : Nat} {h : HP} {V : VV} {v1 : Int} {v3 : Int} {w2 : Int} {n : Nat} {q : VV} (hf : f_Hours_markWorld_17 n V v1 v3 = some q) : Ok X (d + 3) 72 17 ([some (.inr (.inr (.inl 19))), some (.inl v1), some (.inl w2), some (.inl v3)], [], mm V h) (fun M r => M = mm q h ∧ r = none) :=
  s_Hours_markWorld_17_n n V v1 v3 w2 hf
def f_Hours_markWorld_10 : Nat → VV → Int → Int → Int → (Option (VV))
  | 0, _, _, _, _ => none
  | n + 1, V, v1, v2, v3 => if v3 < 4320 then lt_ (setV V 24 12960 (w32 ((w32 (v1 * 4320)) + v3)) (if v2 = 0 then 1 else 0 : Int)) (fun q3 => f_Hours_markWorld_10 n q3 v1 v2 (w32 (v3 + 1))) else f_Hours_markWorld_17 FU V v1 0
set_option maxRecDepth 20000 in
set_option maxHeartbeats 4000000 in
theorem s_Hours_markWorld_10_n {X : Xs} {d : Nat} {h : HP} {q : VV} : ∀ (n : Nat) (V : VV) (v1 : Int) (v2 : Int) (v3 : Int), f_Hours_markWorld_10 n V v1 v2 v3 = some q → Ok X (d + 3) 72 10 ([some (.inr (.inr (.inl 19))), some (.inl v1), some (.inl v2), some (.inl v3)], [], mm V h) (fun M r => M = mm q h ∧ r = none) := by
  intro n
  induction n with
  | zero => intro V v1 v2 v3 hf; cases hf
  | succ n ih =>
    intro V v1 v2 v3 hf
    let QQ : Mm → Option AV → Prop := fun M r => M = mm q h ∧ r = none
    show Ok X (d + 3) 72 10 ([some (.inr (.inr (.inl 19))), some (.inl v1), some (.inl v2), some (.inl v3)], [], mm V h) QQ
    refine ok_ic_ge (x := v3) (u := 4320) (L := [some (.inr (.inr (.inl 19))), some (.inl v1), some (.inl v2), some (.inl v3)]) (S := []) (M := mm V h) rfl rfl (fun c1 => ?_) (fun c1 => ?_)
    ·
      replace hf := (if_neg (Int.not_lt.mpr c1)).symm.trans hf
      refine ok_thru (L := [some (.inr (.inr (.inl 19))), some (.inl v1), some (.inl v2), some (.inl 0)]) (S := []) (M := mm V h) rfl rfl ?_
      exact s_Hours_markWorld_17 hf
    ·
      replace hf := (if_pos c1).symm.trans hf
      have JN2 : Ok X (d + 3) 72 14 ([some (.inr (.inr (.inl 19))), some (.inl v1), some (.inl v2), some (.inl v3)], [.inl (if v2 = 0 then 1 else 0 : Int), .inl (w32 ((w32 (v1 * 4320)) + v3)), .inr (.inr (.inl 25))], mm V h) QQ := by
        obtain ⟨q3, e3, hf⟩ := lt_x hf
        refine ok_callA (L := [some (.inr (.inr (.inl 19))), some (.inl v1), some (.inl v2), some (.inl v3)]) (M := mm V h) (args := [.inr (.inr (.inl 25)), .inl (w32 ((w32 (v1 * 4320)) + v3)), .inl (if v2 = 0 then 1 else 0 : Int)]) (rest := []) (y2 := 9) rfl rfl rfl (Or.inr (Or.inl rfl)) rfl rfl (Nat.le_of_ble_eq_true rfl) rfl rfl (Nat.le_of_ble_eq_true rfl) (Nat.le_of_ble_eq_true rfl) (w_set rfl e3) ?_
        rintro _ _ ⟨rfl, rfl⟩
        refine ok_goto (L := [some (.inr (.inr (.inl 19))), some (.inl v1), some (.inl v2), some (.inl (w32 (v3 + 1)))]) (S := []) (M := mm q3 h) rfl rfl ?_
        exact ih q3 v1 v2 (w32 (v3 + 1)) hf
      clear hf
      refine ok_if_eq (x := v2) (L := [some (.inr (.inr (.inl 19))), some (.inl v1), some (.inl v2), some (.inl v3)]) (S := [.inl (w32 ((w32 (v1 * 4320)) + v3)), .inr (.inr (.inl 25))]) (M := mm V h) rfl rfl (fun c4 => ?_) (fun c4 => ?_)
      ·
        simp only [if_pos c4] at JN2
        refine ok_thru (L := [some (.inr (.inr (.inl 19))), some (.inl v1), some (.inl v2), some (.inl v3)]) (S := [.inl 1, .inl (w32 ((w32 (v1 * 4320)) + v3)), .inr (.inr (.inl 25))]) (M := mm V h) rfl rfl ?_
        first | exact JN2 | (simp only [if_pos c4]; exact JN2)
      ·
        simp only [if_neg c4] at JN2
        refine ok_goto (L := [some (.inr (.inr (.inl 19))), some (.inl v1), some (.inl v2), some (.inl v3)]) (S := [.inl 0, .inl (w32 ((w32 (v1 * 4320)) + v3)), .inr (.inr (.inl 25))]) (M := mm V h) rfl rfl ?_
        first | exact JN2 | (simp only [if_neg c4]; exact JN2)
theorem s_Hours_markWorld_10 {X : Xs} {d : Nat} {h : HP} {V : VV} {v1 : Int} {v2 : Int} {v3 : Int} {n : Nat} {q : VV} (hf : f_Hours_markWorld_10 n V v1 v2 v3 = some q) : Ok X (d + 3) 72 10 ([some (.inr (.inr (.inl 19))), some (.inl v1), some (.inl v2), some (.inl v3)], [], mm V h) (fun M r => M = mm q h ∧ r = none) :=
  s_Hours_markWorld_10_n n V v1 v2 v3 hf
def f_Hours_markWorld_1 : Nat → VV → Int → Int → Int → (Option (VV))
  | 0, _, _, _, _ => none
  | n + 1, V, v1, v2, v3 => if v3 < (V 18 6) then f_Hours_markWorld_1 n V v1 (iorI v2 (if (atV V 19 40 v3) = 3 then (if (f_Hours_holds V v3 v1) = 0 then 0 else 1 : Int) else 0 : Int)) (w32 (v3 + 1)) else f_Hours_markWorld_10 FU V v1 v2 0
set_option maxRecDepth 20000 in
set_option maxHeartbeats 4000000 in
theorem s_Hours_markWorld_1_n {X : Xs} {d : Nat} {h : HP} {q : VV} : ∀ (n : Nat) (V : VV) (v1 : Int) (v2 : Int) (v3 : Int), f_Hours_markWorld_1 n V v1 v2 v3 = some q → Ok X (d + 3) 72 1 ([some (.inr (.inr (.inl 19))), some (.inl v1), some (.inl v2), some (.inl v3)], [], mm V h) (fun M r => M = mm q h ∧ r = none) := by
  intro n
  induction n with
  | zero => intro V v1 v2 v3 hf; cases hf
  | succ n ih =>
    intro V v1 v2 v3 hf
    let QQ : Mm → Option AV → Prop := fun M r => M = mm q h ∧ r = none
    show Ok X (d + 3) 72 1 ([some (.inr (.inr (.inl 19))), some (.inl v1), some (.inl v2), some (.inl v3)], [], mm V h) QQ
    refine ok_ic_ge (x := v3) (u := V 18 6) (L := [some (.inr (.inr (.inl 19))), some (.inl v1), some (.inl v2), some (.inl v3)]) (S := []) (M := mm V h) rfl rfl (fun c1 => ?_) (fun c1 => ?_)
    ·
      replace hf := (if_neg (Int.not_lt.mpr c1)).symm.trans hf
      refine ok_thru (L := [some (.inr (.inr (.inl 19))), some (.inl v1), some (.inl v2), some (.inl 0)]) (S := []) (M := mm V h) rfl rfl ?_
      exact s_Hours_markWorld_10 hf
    ·
      replace hf := (if_pos c1).symm.trans hf
      refine ok_callA (L := [some (.inr (.inr (.inl 19))), some (.inl v1), some (.inl v2), some (.inl v3)]) (M := mm V h) (args := [.inr (.inr (.inl 20)), .inl v3]) (rest := [.inl v2]) (y2 := 21) rfl rfl rfl (Or.inr (Or.inl rfl)) rfl rfl (Nat.le_of_ble_eq_true rfl) rfl rfl (Nat.le_of_ble_eq_true rfl) (Nat.le_of_ble_eq_true rfl) (w_at rfl rfl) ?_
      rintro _ _ ⟨rfl, rfl⟩
      have JN3 : Ok X (d + 3) 72 8 ([some (.inr (.inr (.inl 19))), some (.inl v1), some (.inl v2), some (.inl v3)], [.inl (if (atV V 19 40 v3) = 3 then (if (f_Hours_holds V v3 v1) = 0 then 0 else 1 : Int) else 0 : Int), .inl v2], mm V h) QQ := by
        refine ok_goto (L := [some (.inr (.inr (.inl 19))), some (.inl v1), some (.inl (iorI v2 (if (atV V 19 40 v3) = 3 then (if (f_Hours_holds V v3 v1) = 0 then 0 else 1 : Int) else 0 : Int))), some (.inl (w32 (v3 + 1)))]) (S := []) (M := mm V h) rfl rfl ?_
        exact ih V v1 (iorI v2 (if (atV V 19 40 v3) = 3 then (if (f_Hours_holds V v3 v1) = 0 then 0 else 1 : Int) else 0 : Int)) (w32 (v3 + 1)) hf
      clear hf
      refine ok_ic_ne (x := atV V 19 40 v3) (u := 3) (L := [some (.inr (.inr (.inl 19))), some (.inl v1), some (.inl v2), some (.inl v3)]) (S := [.inl v2]) (M := mm V h) rfl rfl (fun c4 => ?_) (fun c4 => ?_)
      ·
        simp only [if_neg c4] at JN3
        refine ok_thru (L := [some (.inr (.inr (.inl 19))), some (.inl v1), some (.inl v2), some (.inl v3)]) (S := [.inl 0, .inl v2]) (M := mm V h) rfl rfl ?_
        first | exact JN3 | (simp only [if_neg c4]; exact JN3)
      ·
        simp only [if_pos c4] at JN3
        refine ok_callA (L := [some (.inr (.inr (.inl 19))), some (.inl v1), some (.inl v2), some (.inl v3)]) (M := mm V h) (args := [.inr (.inr (.inl 19)), .inl v3, .inl v1]) (rest := [.inl v2]) (y2 := 73) rfl rfl rfl (Or.inl rfl) rfl rfl (Nat.le_of_ble_eq_true rfl) rfl rfl (Nat.le_of_ble_eq_true rfl) (Nat.le_of_ble_eq_true rfl) (s_Hours_holds rfl) ?_
        rintro _ _ ⟨rfl, rfl, hz5⟩
        refine ok_if_eq (x := f_Hours_holds V v3 v1) (L := [some (.inr (.inr (.inl 19))), some (.inl v1), some (.inl v2), some (.inl v3)]) (S := [.inl v2]) (M := mm V h) rfl rfl (fun c6 => ?_) (fun c6 => ?_)
        ·
          simp only [if_pos c6] at JN3
          refine ok_thru (L := [some (.inr (.inr (.inl 19))), some (.inl v1), some (.inl v2), some (.inl v3)]) (S := [.inl 0, .inl v2]) (M := mm V h) rfl rfl ?_
          first | exact JN3 | (simp only [if_pos c4, if_pos c6]; exact JN3)
        ·
          simp only [if_neg c6] at JN3
          refine ok_goto (L := [some (.inr (.inr (.inl 19))), some (.inl v1), some (.inl v2), some (.inl v3)]) (S := [.inl 1, .inl v2]) (M := mm V h) rfl rfl ?_
          first | exact JN3 | (simp only [if_pos c4, if_neg c6]; exact JN3)
theorem s_Hours_markWorld_1 {X : Xs} {d : Nat} {h : HP} {V : VV} {v1 : Int} {v2 : Int} {v3 : Int} {n : Nat} {q : VV} (hf : f_Hours_markWorld_1 n V v1 v2 v3 = some q) : Ok X (d + 3) 72 1 ([some (.inr (.inr (.inl 19))), some (.inl v1), some (.inl v2), some (.inl v3)], [], mm V h) (fun M r => M = mm q h ∧ r = none) :=
  s_Hours_markWorld_1_n n V v1 v2 v3 hf
def f_Hours_markWorld (V : VV) (v1 : Int) : Option (VV) := f_Hours_markWorld_1 FU V v1 0 0
set_option maxRecDepth 20000 in
set_option maxHeartbeats 4000000 in
theorem s_Hours_markWorld {X : Xs} {d : Nat} {V : VV} {h : HP} {v1 : Int} {q : VV} (hf : f_Hours_markWorld V v1 = some q) : Ok X (d + 3) 72 0 ([some (.inr (.inr (.inl 19))), some (.inl v1), none, none], [], mm V h) (fun M r => M = mm q h ∧ r = none) := by
  let QQ : Mm → Option AV → Prop := fun M r => M = mm q h ∧ r = none
  show Ok X (d + 3) 72 0 ([some (.inr (.inr (.inl 19))), some (.inl v1), none, none], [], mm V h) QQ
  refine ok_thru (L := [some (.inr (.inr (.inl 19))), some (.inl v1), some (.inl 0), some (.inl 0)]) (S := []) (M := mm V h) rfl rfl ?_
  exact s_Hours_markWorld_1 hf
def f_Hours_read_7 : Nat → VV → Int → (Option (VV × Int))
  | 0, _, _ => none
  | n + 1, V, v2 => if v2 < (V 18 7) then Option.bind (f_Hours_markWorld V v2) (fun q2 => f_Hours_read_7 n q2 (w32 (v2 + 1))) else some (V, 1)
set_option maxRecDepth 20000 in
set_option maxHeartbeats 4000000 in
theorem s_Hours_read_7_n {X : Xs} {d : Nat} {h : HP} {q : VV × Int} : ∀ (n : Nat) (V : VV) (v2 : Int), f_Hours_read_7 n V v2 = some q → Ok X (d + 10) 49 7 ([some (.inr (.inr (.inl 19))), some (.inr (.inr (.inl 17))), some (.inl v2)], [], mm V h) (fun M r => M = mm q.1 h ∧ r = some (.inl q.2) ∧ (q.2 = 0 ∨ q.2 = 1)) := by
  intro n
  induction n with
  | zero => intro V v2 hf; cases hf
  | succ n ih =>
    intro V v2 hf
    let QQ : Mm → Option AV → Prop := fun M r => M = mm q.1 h ∧ r = some (.inl q.2) ∧ (q.2 = 0 ∨ q.2 = 1)
    show Ok X (d + 10) 49 7 ([some (.inr (.inr (.inl 19))), some (.inr (.inr (.inl 17))), some (.inl v2)], [], mm V h) QQ
    refine ok_ic_ge (x := v2) (u := V 18 7) (L := [some (.inr (.inr (.inl 19))), some (.inr (.inr (.inl 17))), some (.inl v2)]) (S := []) (M := mm V h) rfl rfl (fun c1 => ?_) (fun c1 => ?_)
    ·
      replace hf := (if_neg (Int.not_lt.mpr c1)).symm.trans hf
      obtain rfl := Option.some.inj hf
      have hz : (1 : Int) = 0 ∨ (1 : Int) = 1 := by
        first | exact Or.inl rfl | exact Or.inr rfl | assumption | (repeat' split) <;> first | exact Or.inl rfl | exact Or.inr rfl | assumption
      refine ok_zreturn (L := [some (.inr (.inr (.inl 19))), some (.inr (.inr (.inl 17))), some (.inl v2)]) (M := mm V h) (x := 1) rfl rfl hz ?_
      exact ⟨rfl, rfl, hz⟩
    ·
      replace hf := (if_pos c1).symm.trans hf
      obtain ⟨q2, e2, hf⟩ := obind hf
      refine ok_callA (L := [some (.inr (.inr (.inl 19))), some (.inr (.inr (.inl 17))), some (.inl v2)]) (M := mm V h) (args := [.inr (.inr (.inl 19)), .inl v2]) (rest := []) (y2 := 72) rfl rfl rfl (Or.inl rfl) rfl rfl (Nat.le_of_ble_eq_true rfl) rfl rfl (Nat.le_of_ble_eq_true rfl) (Nat.le_of_ble_eq_true rfl) (s_Hours_markWorld e2) ?_
      rintro _ _ ⟨rfl, rfl⟩
      refine ok_goto (L := [some (.inr (.inr (.inl 19))), some (.inr (.inr (.inl 17))), some (.inl (w32 (v2 + 1)))]) (S := []) (M := mm q2 h) rfl rfl ?_
      exact ih q2 (w32 (v2 + 1)) hf
theorem s_Hours_read_7 {X : Xs} {d : Nat} {h : HP} {V : VV} {v2 : Int} {n : Nat} {q : VV × Int} (hf : f_Hours_read_7 n V v2 = some q) : Ok X (d + 10) 49 7 ([some (.inr (.inr (.inl 19))), some (.inr (.inr (.inl 17))), some (.inl v2)], [], mm V h) (fun M r => M = mm q.1 h ∧ r = some (.inl q.2) ∧ (q.2 = 0 ∨ q.2 = 1)) :=
  s_Hours_read_7_n n V v2 hf
def f_Hours_read (V : VV)  : Option (VV × Int) := Option.bind (f_Hours_scan V 0) (fun q1 => if (f_Tape_isSound 16 17 400 q1) = 0 then some (q1, 0) else Option.bind (f_Hours_scan q1 1) (fun q4 => f_Hours_read_7 FU (up (up q4 18 6 (q4 18 8)) 18 7 (max 1 (q4 18 9))) 0))
set_option maxRecDepth 20000 in
set_option maxHeartbeats 4000000 in
theorem s_Hours_read {X : Xs} {d : Nat} {V : VV} {h : HP} {q : VV × Int} (hf : f_Hours_read V = some q) : Ok X (d + 10) 49 0 ([some (.inr (.inr (.inl 19))), some (.inr (.inr (.inl 17))), none], [], mm V h) (fun M r => M = mm q.1 h ∧ r = some (.inl q.2) ∧ (q.2 = 0 ∨ q.2 = 1)) := by
  let QQ : Mm → Option AV → Prop := fun M r => M = mm q.1 h ∧ r = some (.inl q.2) ∧ (q.2 = 0 ∨ q.2 = 1)
  show Ok X (d + 10) 49 0 ([some (.inr (.inr (.inl 19))), some (.inr (.inr (.inl 17))), none], [], mm V h) QQ
  obtain ⟨q1, e1, hf⟩ := obind hf
  refine ok_callA (L := [some (.inr (.inr (.inl 19))), some (.inr (.inr (.inl 17))), none]) (M := mm V h) (args := [.inr (.inr (.inl 19)), .inr (.inr (.inl 17)), .inl 0]) (rest := []) (y2 := 50) rfl rfl rfl (Or.inl rfl) rfl rfl (Nat.le_of_ble_eq_true rfl) rfl rfl (Nat.le_of_ble_eq_true rfl) (Nat.le_of_ble_eq_true rfl) (s_Hours_scan e1) ?_
  rintro _ _ ⟨rfl, rfl⟩
  refine ok_callA (L := [some (.inr (.inr (.inl 19))), some (.inr (.inr (.inl 17))), none]) (M := mm q1 h) (args := [.inr (.inr (.inl 17))]) (rest := []) (y2 := 56) rfl rfl rfl (Or.inl rfl) rfl rfl (Nat.le_of_ble_eq_true rfl) rfl rfl (Nat.le_of_ble_eq_true rfl) (Nat.le_of_ble_eq_true rfl) (s_Tape_isSound_o16 rfl) ?_
  rintro _ _ ⟨rfl, rfl, hz2⟩
  refine ok_if_ne (x := f_Tape_isSound 16 17 400 q1) (L := [some (.inr (.inr (.inl 19))), some (.inr (.inr (.inl 17))), none]) (S := []) (M := mm q1 h) rfl rfl (fun c3 => ?_) (fun c3 => ?_)
  ·
    replace hf := (if_neg c3).symm.trans hf
    obtain ⟨q4, e4, hf⟩ := obind hf
    refine ok_callA (L := [some (.inr (.inr (.inl 19))), some (.inr (.inr (.inl 17))), none]) (M := mm q1 h) (args := [.inr (.inr (.inl 19)), .inr (.inr (.inl 17)), .inl 1]) (rest := []) (y2 := 50) rfl rfl rfl (Or.inl rfl) rfl rfl (Nat.le_of_ble_eq_true rfl) rfl rfl (Nat.le_of_ble_eq_true rfl) (Nat.le_of_ble_eq_true rfl) (s_Hours_scan e4) ?_
    rintro _ _ ⟨rfl, rfl⟩
    refine ok_mmax (u := 1) (v := q4 18 9) (L := [some (.inr (.inr (.inl 19))), some (.inr (.inr (.inl 17))), none]) (S := [.inr (.inr (.inl 19))]) (M := mm (up q4 18 6 (q4 18 8)) h) rfl rfl rfl (Nat.le_of_ble_eq_true rfl) ?_
    refine ok_thru (L := [some (.inr (.inr (.inl 19))), some (.inr (.inr (.inl 17))), some (.inl 0)]) (S := []) (M := mm (up (up q4 18 6 (q4 18 8)) 18 7 (max 1 (q4 18 9))) h) rfl rfl ?_
    exact s_Hours_read_7 hf
  ·
    replace hf := (if_pos c3).symm.trans hf
    obtain rfl := Option.some.inj hf
    have hz : (0 : Int) = 0 ∨ (0 : Int) = 1 := by
      first | exact Or.inl rfl | exact Or.inr rfl | assumption | (repeat' split) <;> first | exact Or.inl rfl | exact Or.inr rfl | assumption
    refine ok_zreturn (L := [some (.inr (.inr (.inl 19))), some (.inr (.inr (.inl 17))), none]) (M := mm q1 h) (x := 0) rfl rfl hz ?_
    exact ⟨rfl, rfl, hz⟩
def f_Br_tapeWasRead (V : VV)  : VV := up (up (up V 0 16 (V 16 4)) 0 17 (V 16 5)) 16 1 0
set_option maxRecDepth 20000 in
set_option maxHeartbeats 4000000 in
theorem s_Br_tapeWasRead {X : Xs} {d : Nat} {V : VV} {h : HP} {q : VV} (hf : f_Br_tapeWasRead V = q) : Ok X (d + 1) 77 0 ([some (.inr (.inr (.inl 1)))], [], mm V h) (fun M r => M = mm q h ∧ r = none) := by
  let QQ : Mm → Option AV → Prop := fun M r => M = mm q h ∧ r = none
  show Ok X (d + 1) 77 0 ([some (.inr (.inr (.inl 1)))], [], mm V h) QQ
  have hq : (up (up (up V 0 16 (V 16 4)) 0 17 (V 16 5)) 16 1 0) = q := hf
  subst hq
  refine ok_return (L := [some (.inr (.inr (.inl 1)))]) (M := mm (up (up (up V 0 16 (V 16 4)) 0 17 (V 16 5)) 16 1 0) h) rfl rfl ?_
  exact ⟨rfl, rfl⟩
def f_Br_hours (V : VV)  : Option (VV × Int) := Option.bind (f_Hours_read V) (fun q1 => lt_ (f_Br_tapeWasRead q1.1) (fun q2 => if q1.2 = 0 then some (q2, (-1)) else lt_ (f_Br_changed q2) (fun q4 => some (q4, q4 18 6))))
set_option maxRecDepth 20000 in
set_option maxHeartbeats 4000000 in
theorem s_Br_hours {X : Xs} {d : Nat} {V : VV} {h : HP} {q : VV × Int} (hf : f_Br_hours V = some q) : Ok X (d + 11) 48 0 ([some (.inr (.inr (.inl 1))), none], [], mm V h) (fun M r => M = mm q.1 h ∧ r = some (.inl q.2)) := by
  let QQ : Mm → Option AV → Prop := fun M r => M = mm q.1 h ∧ r = some (.inl q.2)
  show Ok X (d + 11) 48 0 ([some (.inr (.inr (.inl 1))), none], [], mm V h) QQ
  obtain ⟨q1, e1, hf⟩ := obind hf
  refine ok_callA (L := [some (.inr (.inr (.inl 1))), none]) (M := mm V h) (args := [.inr (.inr (.inl 19)), .inr (.inr (.inl 17))]) (rest := []) (y2 := 49) rfl rfl rfl (Or.inl rfl) rfl rfl (Nat.le_of_ble_eq_true rfl) rfl rfl (Nat.le_of_ble_eq_true rfl) (Nat.le_of_ble_eq_true rfl) (s_Hours_read e1) ?_
  rintro _ _ ⟨rfl, rfl, hz1⟩
  obtain ⟨q2, e2, hf⟩ := lt_x hf
  refine ok_callA (L := [some (.inr (.inr (.inl 1))), some (.inl q1.2)]) (M := mm q1.1 h) (args := [.inr (.inr (.inl 1))]) (rest := []) (y2 := 77) rfl rfl rfl (Or.inl rfl) rfl rfl (Nat.le_of_ble_eq_true rfl) rfl rfl (Nat.le_of_ble_eq_true rfl) (Nat.le_of_ble_eq_true rfl) (s_Br_tapeWasRead e2) ?_
  rintro _ _ ⟨rfl, rfl⟩
  refine ok_if_ne (x := q1.2) (L := [some (.inr (.inr (.inl 1))), some (.inl q1.2)]) (S := []) (M := mm q2 h) rfl rfl (fun c3 => ?_) (fun c3 => ?_)
  ·
    replace hf := (if_neg c3).symm.trans hf
    obtain ⟨q4, e4, hf⟩ := lt_x hf
    refine ok_callA (L := [some (.inr (.inr (.inl 1))), some (.inl q1.2)]) (M := mm q2 h) (args := [.inr (.inr (.inl 1))]) (rest := []) (y2 := 29) rfl rfl rfl (Or.inl rfl) rfl rfl (Nat.le_of_ble_eq_true rfl) rfl rfl (Nat.le_of_ble_eq_true rfl) (Nat.le_of_ble_eq_true rfl) (s_Br_changed e4) ?_
    rintro _ _ ⟨rfl, rfl⟩
    obtain rfl := Option.some.inj hf
    refine ok_ireturn (L := [some (.inr (.inr (.inl 1))), some (.inl q1.2)]) (M := mm q4 h) (x := q4 18 6) rfl rfl ?_
    exact ⟨rfl, rfl⟩
  ·
    replace hf := (if_pos c3).symm.trans hf
    obtain rfl := Option.some.inj hf
    refine ok_ireturn (L := [some (.inr (.inr (.inl 1))), some (.inl q1.2)]) (M := mm q2 h) (x := (-1)) rfl rfl ?_
    exact ⟨rfl, rfl⟩
def f_Rate_opens (o : Nat) (ob : Nat) (on : Nat) (V : VV) (v2 : Int) (v3 : Int) : Option (VV × Int) := if (f_Tape_isSign o ob on V v2) = 0 then lt_ (f_Tape_fail o ob on V 1) (fun q6 => some (q6, 0)) else if v3 < 8 then Option.bind (f_Tape_next o ob on V) (fun q4 => some (q4, 1)) else lt_ (f_Tape_fail o ob on V 3) (fun q5 => some (q5, 0))
set_option maxRecDepth 20000 in
set_option maxHeartbeats 4000000 in
theorem s_Rate_opens_o16 {X : Xs} {d : Nat} {V : VV} {h : HP} {v2 : Int} {v3 : Int} {q : VV × Int} (hf : f_Rate_opens 16 17 400 V v2 v3 = some q) : Ok X (d + 3) 83 0 ([some (.inr (.inr (.inl 26))), some (.inr (.inr (.inl 17))), some (.inl v2), some (.inl v3)], [], mm V h) (fun M r => M = mm q.1 h ∧ r = some (.inl q.2) ∧ (q.2 = 0 ∨ q.2 = 1)) := by
  let QQ : Mm → Option AV → Prop := fun M r => M = mm q.1 h ∧ r = some (.inl q.2) ∧ (q.2 = 0 ∨ q.2 = 1)
  show Ok X (d + 3) 83 0 ([some (.inr (.inr (.inl 26))), some (.inr (.inr (.inl 17))), some (.inl v2), some (.inl v3)], [], mm V h) QQ
  refine ok_callA (L := [some (.inr (.inr (.inl 26))), some (.inr (.inr (.inl 17))), some (.inl v2), some (.inl v3)]) (M := mm V h) (args := [.inr (.inr (.inl 17)), .inl v2]) (rest := []) (y2 := 71) rfl rfl rfl (Or.inl rfl) rfl rfl (Nat.le_of_ble_eq_true rfl) rfl rfl (Nat.le_of_ble_eq_true rfl) (Nat.le_of_ble_eq_true rfl) (s_Tape_isSign_o16 rfl) ?_
  rintro _ _ ⟨rfl, rfl, hz1⟩
  refine ok_if_ne (x := f_Tape_isSign 16 17 400 V v2) (L := [some (.inr (.inr (.inl 26))), some (.inr (.inr (.inl 17))), some (.inl v2), some (.inl v3)]) (S := []) (M := mm V h) rfl rfl (fun c2 => ?_) (fun c2 => ?_)
  ·
    replace hf := (if_neg c2).symm.trans hf
    refine ok_ic_lt (x := v3) (u := 8) (L := [some (.inr (.inr (.inl 26))), some (.inr (.inr (.inl 17))), some (.inl v2), some (.inl v3)]) (S := []) (M := mm V h) rfl rfl (fun c3 => ?_) (fun c3 => ?_)
    ·
      replace hf := (if_pos c3).symm.trans hf
      obtain ⟨q4, e4, hf⟩ := obind hf
      refine ok_callA (L := [some (.inr (.inr (.inl 26))), some (.inr (.inr (.inl 17))), some (.inl v2), some (.inl v3)]) (M := mm V h) (args := [.inr (.inr (.inl 17))]) (rest := []) (y2 := 52) rfl rfl rfl (Or.inl rfl) rfl rfl (Nat.le_of_ble_eq_true rfl) rfl rfl (Nat.le_of_ble_eq_true rfl) (Nat.le_of_ble_eq_true rfl) (s_Tape_next_o16 e4) ?_
      rintro _ _ ⟨rfl, rfl⟩
      obtain rfl := Option.some.inj hf
      have hz : (1 : Int) = 0 ∨ (1 : Int) = 1 := by
        first | exact Or.inl rfl | exact Or.inr rfl | assumption | (repeat' split) <;> first | exact Or.inl rfl | exact Or.inr rfl | assumption
      refine ok_zreturn (L := [some (.inr (.inr (.inl 26))), some (.inr (.inr (.inl 17))), some (.inl v2), some (.inl v3)]) (M := mm q4 h) (x := 1) rfl rfl hz ?_
      exact ⟨rfl, rfl, hz⟩
    ·
      replace hf := (if_neg (Int.not_lt.mpr c3)).symm.trans hf
      obtain ⟨q5, e5, hf⟩ := lt_x hf
      refine ok_callA (L := [some (.inr (.inr (.inl 26))), some (.inr (.inr (.inl 17))), some (.inl v2), some (.inl v3)]) (M := mm V h) (args := [.inr (.inr (.inl 17)), .inl 3]) (rest := []) (y2 := 67) rfl rfl rfl (Or.inl rfl) rfl rfl (Nat.le_of_ble_eq_true rfl) rfl rfl (Nat.le_of_ble_eq_true rfl) (Nat.le_of_ble_eq_true rfl) (s_Tape_fail_o16 e5) ?_
      rintro _ _ ⟨rfl, rfl⟩
      obtain rfl := Option.some.inj hf
      have hz : (0 : Int) = 0 ∨ (0 : Int) = 1 := by
        first | exact Or.inl rfl | exact Or.inr rfl | assumption | (repeat' split) <;> first | exact Or.inl rfl | exact Or.inr rfl | assumption
      refine ok_zreturn (L := [some (.inr (.inr (.inl 26))), some (.inr (.inr (.inl 17))), some (.inl v2), some (.inl v3)]) (M := mm q5 h) (x := 0) rfl rfl hz ?_
      exact ⟨rfl, rfl, hz⟩
  ·
    replace hf := (if_pos c2).symm.trans hf
    obtain ⟨q6, e6, hf⟩ := lt_x hf
    refine ok_callA (L := [some (.inr (.inr (.inl 26))), some (.inr (.inr (.inl 17))), some (.inl v2), some (.inl v3)]) (M := mm V h) (args := [.inr (.inr (.inl 17)), .inl 1]) (rest := []) (y2 := 67) rfl rfl rfl (Or.inl rfl) rfl rfl (Nat.le_of_ble_eq_true rfl) rfl rfl (Nat.le_of_ble_eq_true rfl) (Nat.le_of_ble_eq_true rfl) (s_Tape_fail_o16 e6) ?_
    rintro _ _ ⟨rfl, rfl⟩
    obtain rfl := Option.some.inj hf
    have hz : (0 : Int) = 0 ∨ (0 : Int) = 1 := by
      first | exact Or.inl rfl | exact Or.inr rfl | assumption | (repeat' split) <;> first | exact Or.inl rfl | exact Or.inr rfl | assumption
    refine ok_zreturn (L := [some (.inr (.inr (.inl 26))), some (.inr (.inr (.inl 17))), some (.inl v2), some (.inl v3)]) (M := mm q6 h) (x := 0) rfl rfl hz ?_
    exact ⟨rfl, rfl, hz⟩
set_option maxRecDepth 20000 in
set_option maxHeartbeats 4000000 in
theorem s_Rate_opens_o26 {X : Xs} {d : Nat} {V : VV} {h : HP} {v2 : Int} {v3 : Int} {q : VV × Int} (hf : f_Rate_opens 26 27 100 V v2 v3 = some q) : Ok X (d + 3) 83 0 ([some (.inr (.inr (.inl 26))), some (.inr (.inr (.inl 27))), some (.inl v2), some (.inl v3)], [], mm V h) (fun M r => M = mm q.1 h ∧ r = some (.inl q.2) ∧ (q.2 = 0 ∨ q.2 = 1)) := by
  let QQ : Mm → Option AV → Prop := fun M r => M = mm q.1 h ∧ r = some (.inl q.2) ∧ (q.2 = 0 ∨ q.2 = 1)
  show Ok X (d + 3) 83 0 ([some (.inr (.inr (.inl 26))), some (.inr (.inr (.inl 27))), some (.inl v2), some (.inl v3)], [], mm V h) QQ
  refine ok_callA (L := [some (.inr (.inr (.inl 26))), some (.inr (.inr (.inl 27))), some (.inl v2), some (.inl v3)]) (M := mm V h) (args := [.inr (.inr (.inl 27)), .inl v2]) (rest := []) (y2 := 71) rfl rfl rfl (Or.inl rfl) rfl rfl (Nat.le_of_ble_eq_true rfl) rfl rfl (Nat.le_of_ble_eq_true rfl) (Nat.le_of_ble_eq_true rfl) (s_Tape_isSign_o26 rfl) ?_
  rintro _ _ ⟨rfl, rfl, hz1⟩
  refine ok_if_ne (x := f_Tape_isSign 26 27 100 V v2) (L := [some (.inr (.inr (.inl 26))), some (.inr (.inr (.inl 27))), some (.inl v2), some (.inl v3)]) (S := []) (M := mm V h) rfl rfl (fun c2 => ?_) (fun c2 => ?_)
  ·
    replace hf := (if_neg c2).symm.trans hf
    refine ok_ic_lt (x := v3) (u := 8) (L := [some (.inr (.inr (.inl 26))), some (.inr (.inr (.inl 27))), some (.inl v2), some (.inl v3)]) (S := []) (M := mm V h) rfl rfl (fun c3 => ?_) (fun c3 => ?_)
    ·
      replace hf := (if_pos c3).symm.trans hf
      obtain ⟨q4, e4, hf⟩ := obind hf
      refine ok_callA (L := [some (.inr (.inr (.inl 26))), some (.inr (.inr (.inl 27))), some (.inl v2), some (.inl v3)]) (M := mm V h) (args := [.inr (.inr (.inl 27))]) (rest := []) (y2 := 52) rfl rfl rfl (Or.inl rfl) rfl rfl (Nat.le_of_ble_eq_true rfl) rfl rfl (Nat.le_of_ble_eq_true rfl) (Nat.le_of_ble_eq_true rfl) (s_Tape_next_o26 e4) ?_
      rintro _ _ ⟨rfl, rfl⟩
      obtain rfl := Option.some.inj hf
      have hz : (1 : Int) = 0 ∨ (1 : Int) = 1 := by
        first | exact Or.inl rfl | exact Or.inr rfl | assumption | (repeat' split) <;> first | exact Or.inl rfl | exact Or.inr rfl | assumption
      refine ok_zreturn (L := [some (.inr (.inr (.inl 26))), some (.inr (.inr (.inl 27))), some (.inl v2), some (.inl v3)]) (M := mm q4 h) (x := 1) rfl rfl hz ?_
      exact ⟨rfl, rfl, hz⟩
    ·
      replace hf := (if_neg (Int.not_lt.mpr c3)).symm.trans hf
      obtain ⟨q5, e5, hf⟩ := lt_x hf
      refine ok_callA (L := [some (.inr (.inr (.inl 26))), some (.inr (.inr (.inl 27))), some (.inl v2), some (.inl v3)]) (M := mm V h) (args := [.inr (.inr (.inl 27)), .inl 3]) (rest := []) (y2 := 67) rfl rfl rfl (Or.inl rfl) rfl rfl (Nat.le_of_ble_eq_true rfl) rfl rfl (Nat.le_of_ble_eq_true rfl) (Nat.le_of_ble_eq_true rfl) (s_Tape_fail_o26 e5) ?_
      rintro _ _ ⟨rfl, rfl⟩
      obtain rfl := Option.some.inj hf
      have hz : (0 : Int) = 0 ∨ (0 : Int) = 1 := by
        first | exact Or.inl rfl | exact Or.inr rfl | assumption | (repeat' split) <;> first | exact Or.inl rfl | exact Or.inr rfl | assumption
      refine ok_zreturn (L := [some (.inr (.inr (.inl 26))), some (.inr (.inr (.inl 27))), some (.inl v2), some (.inl v3)]) (M := mm q5 h) (x := 0) rfl rfl hz ?_
      exact ⟨rfl, rfl, hz⟩
  ·
    replace hf := (if_pos c2).symm.trans hf
    obtain ⟨q6, e6, hf⟩ := lt_x hf
    refine ok_callA (L := [some (.inr (.inr (.inl 26))), some (.inr (.inr (.inl 27))), some (.inl v2), some (.inl v3)]) (M := mm V h) (args := [.inr (.inr (.inl 27)), .inl 1]) (rest := []) (y2 := 67) rfl rfl rfl (Or.inl rfl) rfl rfl (Nat.le_of_ble_eq_true rfl) rfl rfl (Nat.le_of_ble_eq_true rfl) (Nat.le_of_ble_eq_true rfl) (s_Tape_fail_o26 e6) ?_
    rintro _ _ ⟨rfl, rfl⟩
    obtain rfl := Option.some.inj hf
    have hz : (0 : Int) = 0 ∨ (0 : Int) = 1 := by
      first | exact Or.inl rfl | exact Or.inr rfl | assumption | (repeat' split) <;> first | exact Or.inl rfl | exact Or.inr rfl | assumption
    refine ok_zreturn (L := [some (.inr (.inr (.inl 26))), some (.inr (.inr (.inl 27))), some (.inl v2), some (.inl v3)]) (M := mm q6 h) (x := 0) rfl rfl hz ?_
    exact ⟨rfl, rfl, hz⟩
def f_Rate_letter_14 (o : Nat) (ob : Nat) (on : Nat) (V : VV) (v2 : Int) : Option (VV × Int) := Option.bind (f_Tape_next o ob on V) (fun q1 => some (q1, v2))
def f_Rate_letter (o : Nat) (ob : Nat) (on : Nat) (V : VV)  : Option (VV × Int) := Option.bind (f_Tape_isWord o ob on 9 V) (fun q1 => if q1 = 0 then Option.bind (f_Tape_isWord o ob on 10 V) (fun q3 => if q3 = 0 then Option.bind (f_Tape_isWord o ob on 11 V) (fun q5 => if q5 = 0 then Option.bind (f_Tape_isWord o ob on 12 V) (fun q7 => if q7 = 0 then lt_ (f_Tape_fail o ob on V 1) (fun q9 => some (q9, 0)) else f_Rate_letter_14 o ob on V (V 25 4)) else f_Rate_letter_14 o ob on V (V 25 3)) else f_Rate_letter_14 o ob on V (V 25 2)) else f_Rate_letter_14 o ob on V (V 25 1))
set_option maxRecDepth 20000 in
set_option maxHeartbeats 4000000 in
theorem s_Rate_letter_14_o16 {X : Xs} {d : Nat} {V : VV} {h : HP} {v2 : Int} {z3 : Option AV} {q : VV × Int} (hf : f_Rate_letter_14 16 17 400 V v2 = some q) : Ok X (d + 7) 84 14 ([some (.inr (.inr (.inl 26))), some (.inr (.inr (.inl 17))), some (.inr (.inl v2)), z3], [], mm V h) (fun M r => M = mm q.1 h ∧ r = some (.inr (.inl q.2))) := by
  let QQ : Mm → Option AV → Prop := fun M r => M = mm q.1 h ∧ r = some (.inr (.inl q.2))
  show Ok X (d + 7) 84 14 ([some (.inr (.inr (.inl 26))), some (.inr (.inr (.inl 17))), some (.inr (.inl v2)), z3], [], mm V h) QQ
  obtain ⟨q1, e1, hf⟩ := obind hf
  refine ok_callA (L := [some (.inr (.inr (.inl 26))), some (.inr (.inr (.inl 17))), some (.inr (.inl v2)), z3]) (M := mm V h) (args := [.inr (.inr (.inl 17))]) (rest := []) (y2 := 52) rfl rfl rfl (Or.inl rfl) rfl rfl (Nat.le_of_ble_eq_true rfl) rfl rfl (Nat.le_of_ble_eq_true rfl) (Nat.le_of_ble_eq_true rfl) (s_Tape_next_o16 e1) ?_
  rintro _ _ ⟨rfl, rfl⟩
  obtain rfl := Option.some.inj hf
  refine ok_lreturn (L := [some (.inr (.inr (.inl 26))), some (.inr (.inr (.inl 17))), some (.inr (.inl v2)), z3]) (M := mm q1 h) (x := v2) rfl rfl ?_
  exact ⟨rfl, rfl⟩
set_option maxRecDepth 20000 in
set_option maxHeartbeats 4000000 in
theorem s_Rate_letter_o16 {X : Xs} {d : Nat} {V : VV} {h : HP} {q : VV × Int} (hf : f_Rate_letter 16 17 400 V = some q) : Ok X (d + 7) 84 0 ([some (.inr (.inr (.inl 26))), some (.inr (.inr (.inl 17))), none, none], [], mm V h) (fun M r => M = mm q.1 h ∧ r = some (.inr (.inl q.2))) := by
  let QQ : Mm → Option AV → Prop := fun M r => M = mm q.1 h ∧ r = some (.inr (.inl q.2))
  show Ok X (d + 7) 84 0 ([some (.inr (.inr (.inl 26))), some (.inr (.inr (.inl 17))), none, none], [], mm V h) QQ
  obtain ⟨q1, e1, hf⟩ := obind hf
  refine ok_callA (L := [some (.inr (.inr (.inl 26))), some (.inr (.inr (.inl 17))), some (.inr (.inl 0)), none]) (M := mm V h) (args := [.inr (.inr (.inl 17)), .inr (.inr (.inr 19))]) (rest := []) (y2 := 59) rfl rfl rfl (Or.inl rfl) rfl rfl (Nat.le_of_ble_eq_true rfl) rfl rfl (Nat.le_of_ble_eq_true rfl) (Nat.le_of_ble_eq_true rfl) (s_Tape_isWord_o16w9 e1) ?_
  rintro _ _ ⟨rfl, rfl, hz1⟩
  refine ok_if_eq (x := q1) (L := [some (.inr (.inr (.inl 26))), some (.inr (.inr (.inl 17))), some (.inr (.inl 0)), none]) (S := []) (M := mm V h) rfl rfl (fun c2 => ?_) (fun c2 => ?_)
  ·
    replace hf := (if_pos c2).symm.trans hf
    obtain ⟨q3, e3, hf⟩ := obind hf
    refine ok_callA (L := [some (.inr (.inr (.inl 26))), some (.inr (.inr (.inl 17))), some (.inr (.inl 0)), none]) (M := mm V h) (args := [.inr (.inr (.inl 17)), .inr (.inr (.inr 20))]) (rest := []) (y2 := 59) rfl rfl rfl (Or.inl rfl) rfl rfl (Nat.le_of_ble_eq_true rfl) rfl rfl (Nat.le_of_ble_eq_true rfl) (Nat.le_of_ble_eq_true rfl) (s_Tape_isWord_o16w10 e3) ?_
    rintro _ _ ⟨rfl, rfl, hz3⟩
    refine ok_if_eq (x := q3) (L := [some (.inr (.inr (.inl 26))), some (.inr (.inr (.inl 17))), some (.inr (.inl 0)), none]) (S := []) (M := mm V h) rfl rfl (fun c4 => ?_) (fun c4 => ?_)
    ·
      replace hf := (if_pos c4).symm.trans hf
      obtain ⟨q5, e5, hf⟩ := obind hf
      refine ok_callA (L := [some (.inr (.inr (.inl 26))), some (.inr (.inr (.inl 17))), some (.inr (.inl 0)), none]) (M := mm V h) (args := [.inr (.inr (.inl 17)), .inr (.inr (.inr 21))]) (rest := []) (y2 := 59) rfl rfl rfl (Or.inl rfl) rfl rfl (Nat.le_of_ble_eq_true rfl) rfl rfl (Nat.le_of_ble_eq_true rfl) (Nat.le_of_ble_eq_true rfl) (s_Tape_isWord_o16w11 e5) ?_
      rintro _ _ ⟨rfl, rfl, hz5⟩
      refine ok_if_eq (x := q5) (L := [some (.inr (.inr (.inl 26))), some (.inr (.inr (.inl 17))), some (.inr (.inl 0)), none]) (S := []) (M := mm V h) rfl rfl (fun c6 => ?_) (fun c6 => ?_)
      ·
        replace hf := (if_pos c6).symm.trans hf
        obtain ⟨q7, e7, hf⟩ := obind hf
        refine ok_callA (L := [some (.inr (.inr (.inl 26))), some (.inr (.inr (.inl 17))), some (.inr (.inl 0)), none]) (M := mm V h) (args := [.inr (.inr (.inl 17)), .inr (.inr (.inr 22))]) (rest := []) (y2 := 59) rfl rfl rfl (Or.inl rfl) rfl rfl (Nat.le_of_ble_eq_true rfl) rfl rfl (Nat.le_of_ble_eq_true rfl) (Nat.le_of_ble_eq_true rfl) (s_Tape_isWord_o16w12 e7) ?_
        rintro _ _ ⟨rfl, rfl, hz7⟩
        refine ok_if_eq (x := q7) (L := [some (.inr (.inr (.inl 26))), some (.inr (.inr (.inl 17))), some (.inr (.inl 0)), none]) (S := []) (M := mm V h) rfl rfl (fun c8 => ?_) (fun c8 => ?_)
        ·
          replace hf := (if_pos c8).symm.trans hf
          obtain ⟨q9, e9, hf⟩ := lt_x hf
          refine ok_callA (L := [some (.inr (.inr (.inl 26))), some (.inr (.inr (.inl 17))), some (.inr (.inl 0)), none]) (M := mm V h) (args := [.inr (.inr (.inl 17)), .inl 1]) (rest := []) (y2 := 67) rfl rfl rfl (Or.inl rfl) rfl rfl (Nat.le_of_ble_eq_true rfl) rfl rfl (Nat.le_of_ble_eq_true rfl) (Nat.le_of_ble_eq_true rfl) (s_Tape_fail_o16 e9) ?_
          rintro _ _ ⟨rfl, rfl⟩
          obtain rfl := Option.some.inj hf
          refine ok_lreturn (L := [some (.inr (.inr (.inl 26))), some (.inr (.inr (.inl 17))), some (.inr (.inl 0)), none]) (M := mm q9 h) (x := 0) rfl rfl ?_
          exact ⟨rfl, rfl⟩
        ·
          replace hf := (if_neg c8).symm.trans hf
          refine ok_goto (L := [some (.inr (.inr (.inl 26))), some (.inr (.inr (.inl 17))), some (.inr (.inl (V 25 4))), none]) (S := []) (M := mm V h) rfl rfl ?_
          exact s_Rate_letter_14_o16 hf
      ·
        replace hf := (if_neg c6).symm.trans hf
        refine ok_goto (L := [some (.inr (.inr (.inl 26))), some (.inr (.inr (.inl 17))), some (.inr (.inl (V 25 3))), none]) (S := []) (M := mm V h) rfl rfl ?_
        exact s_Rate_letter_14_o16 hf
    ·
      replace hf := (if_neg c4).symm.trans hf
      refine ok_goto (L := [some (.inr (.inr (.inl 26))), some (.inr (.inr (.inl 17))), some (.inr (.inl (V 25 2))), none]) (S := []) (M := mm V h) rfl rfl ?_
      exact s_Rate_letter_14_o16 hf
  ·
    replace hf := (if_neg c2).symm.trans hf
    refine ok_goto (L := [some (.inr (.inr (.inl 26))), some (.inr (.inr (.inl 17))), some (.inr (.inl (V 25 1))), none]) (S := []) (M := mm V h) rfl rfl ?_
    exact s_Rate_letter_14_o16 hf
set_option maxRecDepth 20000 in
set_option maxHeartbeats 4000000 in
theorem s_Rate_letter_14_o26 {X : Xs} {d : Nat} {V : VV} {h : HP} {v2 : Int} {z3 : Option AV} {q : VV × Int} (hf : f_Rate_letter_14 26 27 100 V v2 = some q) : Ok X (d + 7) 84 14 ([some (.inr (.inr (.inl 26))), some (.inr (.inr (.inl 27))), some (.inr (.inl v2)), z3], [], mm V h) (fun M r => M = mm q.1 h ∧ r = some (.inr (.inl q.2))) := by
  let QQ : Mm → Option AV → Prop := fun M r => M = mm q.1 h ∧ r = some (.inr (.inl q.2))
  show Ok X (d + 7) 84 14 ([some (.inr (.inr (.inl 26))), some (.inr (.inr (.inl 27))), some (.inr (.inl v2)), z3], [], mm V h) QQ
  obtain ⟨q1, e1, hf⟩ := obind hf
  refine ok_callA (L := [some (.inr (.inr (.inl 26))), some (.inr (.inr (.inl 27))), some (.inr (.inl v2)), z3]) (M := mm V h) (args := [.inr (.inr (.inl 27))]) (rest := []) (y2 := 52) rfl rfl rfl (Or.inl rfl) rfl rfl (Nat.le_of_ble_eq_true rfl) rfl rfl (Nat.le_of_ble_eq_true rfl) (Nat.le_of_ble_eq_true rfl) (s_Tape_next_o26 e1) ?_
  rintro _ _ ⟨rfl, rfl⟩
  obtain rfl := Option.some.inj hf
  refine ok_lreturn (L := [some (.inr (.inr (.inl 26))), some (.inr (.inr (.inl 27))), some (.inr (.inl v2)), z3]) (M := mm q1 h) (x := v2) rfl rfl ?_
  exact ⟨rfl, rfl⟩
set_option maxRecDepth 20000 in
set_option maxHeartbeats 4000000 in
theorem s_Rate_letter_o26 {X : Xs} {d : Nat} {V : VV} {h : HP} {q : VV × Int} (hf : f_Rate_letter 26 27 100 V = some q) : Ok X (d + 7) 84 0 ([some (.inr (.inr (.inl 26))), some (.inr (.inr (.inl 27))), none, none], [], mm V h) (fun M r => M = mm q.1 h ∧ r = some (.inr (.inl q.2))) := by
  let QQ : Mm → Option AV → Prop := fun M r => M = mm q.1 h ∧ r = some (.inr (.inl q.2))
  show Ok X (d + 7) 84 0 ([some (.inr (.inr (.inl 26))), some (.inr (.inr (.inl 27))), none, none], [], mm V h) QQ
  obtain ⟨q1, e1, hf⟩ := obind hf
  refine ok_callA (L := [some (.inr (.inr (.inl 26))), some (.inr (.inr (.inl 27))), some (.inr (.inl 0)), none]) (M := mm V h) (args := [.inr (.inr (.inl 27)), .inr (.inr (.inr 19))]) (rest := []) (y2 := 59) rfl rfl rfl (Or.inl rfl) rfl rfl (Nat.le_of_ble_eq_true rfl) rfl rfl (Nat.le_of_ble_eq_true rfl) (Nat.le_of_ble_eq_true rfl) (s_Tape_isWord_o26w9 e1) ?_
  rintro _ _ ⟨rfl, rfl, hz1⟩
  refine ok_if_eq (x := q1) (L := [some (.inr (.inr (.inl 26))), some (.inr (.inr (.inl 27))), some (.inr (.inl 0)), none]) (S := []) (M := mm V h) rfl rfl (fun c2 => ?_) (fun c2 => ?_)
  ·
    replace hf := (if_pos c2).symm.trans hf
    obtain ⟨q3, e3, hf⟩ := obind hf
    refine ok_callA (L := [some (.inr (.inr (.inl 26))), some (.inr (.inr (.inl 27))), some (.inr (.inl 0)), none]) (M := mm V h) (args := [.inr (.inr (.inl 27)), .inr (.inr (.inr 20))]) (rest := []) (y2 := 59) rfl rfl rfl (Or.inl rfl) rfl rfl (Nat.le_of_ble_eq_true rfl) rfl rfl (Nat.le_of_ble_eq_true rfl) (Nat.le_of_ble_eq_true rfl) (s_Tape_isWord_o26w10 e3) ?_
    rintro _ _ ⟨rfl, rfl, hz3⟩
    refine ok_if_eq (x := q3) (L := [some (.inr (.inr (.inl 26))), some (.inr (.inr (.inl 27))), some (.inr (.inl 0)), none]) (S := []) (M := mm V h) rfl rfl (fun c4 => ?_) (fun c4 => ?_)
    ·
      replace hf := (if_pos c4).symm.trans hf
      obtain ⟨q5, e5, hf⟩ := obind hf
      refine ok_callA (L := [some (.inr (.inr (.inl 26))), some (.inr (.inr (.inl 27))), some (.inr (.inl 0)), none]) (M := mm V h) (args := [.inr (.inr (.inl 27)), .inr (.inr (.inr 21))]) (rest := []) (y2 := 59) rfl rfl rfl (Or.inl rfl) rfl rfl (Nat.le_of_ble_eq_true rfl) rfl rfl (Nat.le_of_ble_eq_true rfl) (Nat.le_of_ble_eq_true rfl) (s_Tape_isWord_o26w11 e5) ?_
      rintro _ _ ⟨rfl, rfl, hz5⟩
      refine ok_if_eq (x := q5) (L := [some (.inr (.inr (.inl 26))), some (.inr (.inr (.inl 27))), some (.inr (.inl 0)), none]) (S := []) (M := mm V h) rfl rfl (fun c6 => ?_) (fun c6 => ?_)
      ·
        replace hf := (if_pos c6).symm.trans hf
        obtain ⟨q7, e7, hf⟩ := obind hf
        refine ok_callA (L := [some (.inr (.inr (.inl 26))), some (.inr (.inr (.inl 27))), some (.inr (.inl 0)), none]) (M := mm V h) (args := [.inr (.inr (.inl 27)), .inr (.inr (.inr 22))]) (rest := []) (y2 := 59) rfl rfl rfl (Or.inl rfl) rfl rfl (Nat.le_of_ble_eq_true rfl) rfl rfl (Nat.le_of_ble_eq_true rfl) (Nat.le_of_ble_eq_true rfl) (s_Tape_isWord_o26w12 e7) ?_
        rintro _ _ ⟨rfl, rfl, hz7⟩
        refine ok_if_eq (x := q7) (L := [some (.inr (.inr (.inl 26))), some (.inr (.inr (.inl 27))), some (.inr (.inl 0)), none]) (S := []) (M := mm V h) rfl rfl (fun c8 => ?_) (fun c8 => ?_)
        ·
          replace hf := (if_pos c8).symm.trans hf
          obtain ⟨q9, e9, hf⟩ := lt_x hf
          refine ok_callA (L := [some (.inr (.inr (.inl 26))), some (.inr (.inr (.inl 27))), some (.inr (.inl 0)), none]) (M := mm V h) (args := [.inr (.inr (.inl 27)), .inl 1]) (rest := []) (y2 := 67) rfl rfl rfl (Or.inl rfl) rfl rfl (Nat.le_of_ble_eq_true rfl) rfl rfl (Nat.le_of_ble_eq_true rfl) (Nat.le_of_ble_eq_true rfl) (s_Tape_fail_o26 e9) ?_
          rintro _ _ ⟨rfl, rfl⟩
          obtain rfl := Option.some.inj hf
          refine ok_lreturn (L := [some (.inr (.inr (.inl 26))), some (.inr (.inr (.inl 27))), some (.inr (.inl 0)), none]) (M := mm q9 h) (x := 0) rfl rfl ?_
          exact ⟨rfl, rfl⟩
        ·
          replace hf := (if_neg c8).symm.trans hf
          refine ok_goto (L := [some (.inr (.inr (.inl 26))), some (.inr (.inr (.inl 27))), some (.inr (.inl (V 25 4))), none]) (S := []) (M := mm V h) rfl rfl ?_
          exact s_Rate_letter_14_o26 hf
      ·
        replace hf := (if_neg c6).symm.trans hf
        refine ok_goto (L := [some (.inr (.inr (.inl 26))), some (.inr (.inr (.inl 27))), some (.inr (.inl (V 25 3))), none]) (S := []) (M := mm V h) rfl rfl ?_
        exact s_Rate_letter_14_o26 hf
    ·
      replace hf := (if_neg c4).symm.trans hf
      refine ok_goto (L := [some (.inr (.inr (.inl 26))), some (.inr (.inr (.inl 27))), some (.inr (.inl (V 25 2))), none]) (S := []) (M := mm V h) rfl rfl ?_
      exact s_Rate_letter_14_o26 hf
  ·
    replace hf := (if_neg c2).symm.trans hf
    refine ok_goto (L := [some (.inr (.inr (.inl 26))), some (.inr (.inr (.inl 27))), some (.inr (.inl (V 25 1))), none]) (S := []) (M := mm V h) rfl rfl ?_
    exact s_Rate_letter_14_o26 hf
