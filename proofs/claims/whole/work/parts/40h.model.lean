/-! shallow functions of the model (printed by wip/tools/gen40.py) -/
def f_Mo_goInAll_10 (k1 : VV → Int → Int → (Option (VV × Int))) (V : VV) (v1 : Int) (v2 : Int) : Option (VV × Int) := k1 V v1 (w32 (v2 + 1))
set_option maxRecDepth 20000 in
set_option maxHeartbeats 4000000 in
theorem s_Mo_goInAll_10 {X : Xs} {d : Nat} {k1 : VV → Int → Int → (Option (VV × Int))} {V : VV} {h : HP} {v1 : Int} {v2 : Int} {q : VV × Int} (hf : f_Mo_goInAll_10 k1 V v1 v2 = some q) (K1 : ∀ (V : VV) (v1 : Int) (v2 : Int), k1 V v1 v2 = some q → Ok X (d + 6) 210 1 ([some (.inr (.inr (.inl 63))), some (.inl v1), some (.inl v2)], [], mm V h) (fun M r => M = mm q.1 h ∧ r = some (.inl q.2) ∧ (q.2 = 0 ∨ q.2 = 1))) : Ok X (d + 6) 210 10 ([some (.inr (.inr (.inl 63))), some (.inl v1), some (.inl v2)], [], mm V h) (fun M r => M = mm q.1 h ∧ r = some (.inl q.2) ∧ (q.2 = 0 ∨ q.2 = 1)) := by
  let QQ : Mm → Option AV → Prop := fun M r => M = mm q.1 h ∧ r = some (.inl q.2) ∧ (q.2 = 0 ∨ q.2 = 1)
  show Ok X (d + 6) 210 10 ([some (.inr (.inr (.inl 63))), some (.inl v1), some (.inl v2)], [], mm V h) QQ
  refine ok_goto (L := [some (.inr (.inr (.inl 63))), some (.inl v1), some (.inl (w32 (v2 + 1)))]) (S := []) (M := mm V h) rfl rfl ?_
  exact K1 V v1 (w32 (v2 + 1)) hf
def f_Mo_goInAll_8 (k1 : VV → Int → Int → (Option (VV × Int))) (V : VV) (v1 : Int) (v2 : Int) : Option (VV × Int) := if (V 62 95) < (V 62 77) then f_Mo_goInAll_10 k1 (up (up V 62 94 (w32 ((V 62 94) + (V 62 76)))) 62 95 (V 62 77)) v1 v2 else f_Mo_goInAll_10 k1 (up V 62 94 (w32 ((V 62 94) + (V 62 76)))) v1 v2
set_option maxRecDepth 20000 in
set_option maxHeartbeats 4000000 in
theorem s_Mo_goInAll_8 {X : Xs} {d : Nat} {k1 : VV → Int → Int → (Option (VV × Int))} {V : VV} {h : HP} {v1 : Int} {v2 : Int} {q : VV × Int} (hf : f_Mo_goInAll_8 k1 V v1 v2 = some q) (K1 : ∀ (V : VV) (v1 : Int) (v2 : Int), k1 V v1 v2 = some q → Ok X (d + 6) 210 1 ([some (.inr (.inr (.inl 63))), some (.inl v1), some (.inl v2)], [], mm V h) (fun M r => M = mm q.1 h ∧ r = some (.inl q.2) ∧ (q.2 = 0 ∨ q.2 = 1))) : Ok X (d + 6) 210 8 ([some (.inr (.inr (.inl 63))), some (.inl v1), some (.inl v2)], [], mm V h) (fun M r => M = mm q.1 h ∧ r = some (.inl q.2) ∧ (q.2 = 0 ∨ q.2 = 1)) := by
  let QQ : Mm → Option AV → Prop := fun M r => M = mm q.1 h ∧ r = some (.inl q.2) ∧ (q.2 = 0 ∨ q.2 = 1)
  show Ok X (d + 6) 210 8 ([some (.inr (.inr (.inl 63))), some (.inl v1), some (.inl v2)], [], mm V h) QQ
  refine ok_ic_le (x := V 62 77) (u := V 62 95) (L := [some (.inr (.inr (.inl 63))), some (.inl v1), some (.inl v2)]) (S := []) (M := mm (up V 62 94 (w32 ((V 62 94) + (V 62 76)))) h) rfl rfl (fun c1 => ?_) (fun c1 => ?_)
  ·
    replace hf := (if_neg (Int.not_lt.mpr c1)).symm.trans hf
    exact s_Mo_goInAll_10 hf K1
  ·
    replace hf := (if_pos c1).symm.trans hf
    refine ok_thru (L := [some (.inr (.inr (.inl 63))), some (.inl v1), some (.inl v2)]) (S := []) (M := mm (up (up V 62 94 (w32 ((V 62 94) + (V 62 76)))) 62 95 (V 62 77)) h) rfl rfl ?_
    exact s_Mo_goInAll_10 hf K1
def f_Mo_goInAll_1 : Nat → VV → Int → Int → (Option (VV × Int))
  | 0, _, _, _ => none
  | n + 1, V, v1, v2 => if v2 < (f_Mo_manyWorlds V) then Option.bind (f_Mo_goes V v2 v1) (fun q3 => if q3.2 = 0 then some (q3.1, 0) else if (q3.1 62 93) < (q3.1 62 76) then f_Mo_goInAll_8 (f_Mo_goInAll_1 n) (up q3.1 62 93 (q3.1 62 76)) v1 v2 else f_Mo_goInAll_8 (f_Mo_goInAll_1 n) q3.1 v1 v2) else some (V, 1)
set_option maxRecDepth 20000 in
set_option maxHeartbeats 4000000 in
theorem s_Mo_goInAll_1_n {X : Xs} {d : Nat} {h : HP} {q : VV × Int} : ∀ (n : Nat) (V : VV) (v1 : Int) (v2 : Int), f_Mo_goInAll_1 n V v1 v2 = some q → Ok X (d + 6) 210 1 ([some (.inr (.inr (.inl 63))), some (.inl v1), some (.inl v2)], [], mm V h) (fun M r => M = mm q.1 h ∧ r = some (.inl q.2) ∧ (q.2 = 0 ∨ q.2 = 1)) := by
  intro n
  induction n with
  | zero => intro V v1 v2 hf; cases hf
  | succ n ih =>
    intro V v1 v2 hf
    let QQ : Mm → Option AV → Prop := fun M r => M = mm q.1 h ∧ r = some (.inl q.2) ∧ (q.2 = 0 ∨ q.2 = 1)
    show Ok X (d + 6) 210 1 ([some (.inr (.inr (.inl 63))), some (.inl v1), some (.inl v2)], [], mm V h) QQ
    refine ok_callA (L := [some (.inr (.inr (.inl 63))), some (.inl v1), some (.inl v2)]) (M := mm V h) (args := [.inr (.inr (.inl 63))]) (rest := [.inl v2]) (y2 := 187) rfl rfl rfl (Or.inl rfl) rfl rfl (Nat.le_of_ble_eq_true rfl) rfl rfl (Nat.le_of_ble_eq_true rfl) (Nat.le_of_ble_eq_true rfl) (s_Mo_manyWorlds rfl) ?_
    rintro _ _ ⟨rfl, rfl⟩
    refine ok_ic_ge (x := v2) (u := f_Mo_manyWorlds V) (L := [some (.inr (.inr (.inl 63))), some (.inl v1), some (.inl v2)]) (S := []) (M := mm V h) rfl rfl (fun c2 => ?_) (fun c2 => ?_)
    ·
      replace hf := (if_neg (Int.not_lt.mpr c2)).symm.trans hf
      obtain rfl := Option.some.inj hf
      have hz : (1 : Int) = 0 ∨ (1 : Int) = 1 := by
        first | exact Or.inl rfl | exact Or.inr rfl | assumption | (repeat' split) <;> first | exact Or.inl rfl | exact Or.inr rfl | assumption
      refine ok_zreturn (L := [some (.inr (.inr (.inl 63))), some (.inl v1), some (.inl v2)]) (M := mm V h) (x := 1) rfl rfl hz ?_
      exact ⟨rfl, rfl, hz⟩
    ·
      replace hf := (if_pos c2).symm.trans hf
      obtain ⟨q3, e3, hf⟩ := obind hf
      refine ok_callA (L := [some (.inr (.inr (.inl 63))), some (.inl v1), some (.inl v2)]) (M := mm V h) (args := [.inr (.inr (.inl 63)), .inl v2, .inl v1]) (rest := []) (y2 := 194) rfl rfl rfl (Or.inl rfl) rfl rfl (Nat.le_of_ble_eq_true rfl) rfl rfl (Nat.le_of_ble_eq_true rfl) (Nat.le_of_ble_eq_true rfl) (s_Mo_goes e3) ?_
      rintro _ _ ⟨rfl, rfl, hz3⟩
      refine ok_if_ne (x := q3.2) (L := [some (.inr (.inr (.inl 63))), some (.inl v1), some (.inl v2)]) (S := []) (M := mm q3.1 h) rfl rfl (fun c4 => ?_) (fun c4 => ?_)
      ·
        replace hf := (if_neg c4).symm.trans hf
        refine ok_ic_le (x := q3.1 62 76) (u := q3.1 62 93) (L := [some (.inr (.inr (.inl 63))), some (.inl v1), some (.inl v2)]) (S := []) (M := mm q3.1 h) rfl rfl (fun c5 => ?_) (fun c5 => ?_)
        ·
          replace hf := (if_neg (Int.not_lt.mpr c5)).symm.trans hf
          exact s_Mo_goInAll_8 hf ih
        ·
          replace hf := (if_pos c5).symm.trans hf
          refine ok_thru (L := [some (.inr (.inr (.inl 63))), some (.inl v1), some (.inl v2)]) (S := []) (M := mm (up q3.1 62 93 (q3.1 62 76)) h) rfl rfl ?_
          exact s_Mo_goInAll_8 hf ih
      ·
        replace hf := (if_pos c4).symm.trans hf
        obtain rfl := Option.some.inj hf
        have hz : (0 : Int) = 0 ∨ (0 : Int) = 1 := by
          first | exact Or.inl rfl | exact Or.inr rfl | assumption | (repeat' split) <;> first | exact Or.inl rfl | exact Or.inr rfl | assumption
        refine ok_zreturn (L := [some (.inr (.inr (.inl 63))), some (.inl v1), some (.inl v2)]) (M := mm q3.1 h) (x := 0) rfl rfl hz ?_
        exact ⟨rfl, rfl, hz⟩
theorem s_Mo_goInAll_1 {X : Xs} {d : Nat} {h : HP} {V : VV} {v1 : Int} {v2 : Int} {n : Nat} {q : VV × Int} (hf : f_Mo_goInAll_1 n V v1 v2 = some q) : Ok X (d + 6) 210 1 ([some (.inr (.inr (.inl 63))), some (.inl v1), some (.inl v2)], [], mm V h) (fun M r => M = mm q.1 h ∧ r = some (.inl q.2) ∧ (q.2 = 0 ∨ q.2 = 1)) :=
  s_Mo_goInAll_1_n n V v1 v2 hf
def f_Mo_goInAll (V : VV) (v1 : Int) : Option (VV × Int) := f_Mo_goInAll_1 FU (up (up (up V 62 93 0) 62 94 0) 62 95 0) v1 0
set_option maxRecDepth 20000 in
set_option maxHeartbeats 4000000 in
theorem s_Mo_goInAll {X : Xs} {d : Nat} {V : VV} {h : HP} {v1 : Int} {q : VV × Int} (hf : f_Mo_goInAll V v1 = some q) : Ok X (d + 6) 210 0 ([some (.inr (.inr (.inl 63))), some (.inl v1), none], [], mm V h) (fun M r => M = mm q.1 h ∧ r = some (.inl q.2) ∧ (q.2 = 0 ∨ q.2 = 1)) := by
  let QQ : Mm → Option AV → Prop := fun M r => M = mm q.1 h ∧ r = some (.inl q.2) ∧ (q.2 = 0 ∨ q.2 = 1)
  show Ok X (d + 6) 210 0 ([some (.inr (.inr (.inl 63))), some (.inl v1), none], [], mm V h) QQ
  refine ok_thru (L := [some (.inr (.inr (.inl 63))), some (.inl v1), some (.inl 0)]) (S := []) (M := mm (up (up (up V 62 93 0) 62 94 0) 62 95 0) h) rfl rfl ?_
  exact s_Mo_goInAll_1 hf
def f_Mo_pace_16 (k1 : VV → Int → Int → Int → Int → Int → (Option (VV × Int))) (V : VV) (v1 : Int) (v2 : Int) (v3 : Int) (v4 : Int) (v5 : Int) : Option (VV × Int) := k1 V v1 v2 v3 v4 (w32 (v5 + 1))
set_option maxRecDepth 20000 in
set_option maxHeartbeats 4000000 in
theorem s_Mo_pace_16 {X : Xs} {d : Nat} {k1 : VV → Int → Int → Int → Int → Int → (Option (VV × Int))} {V : VV} {h : HP} {v1 : Int} {v2 : Int} {v3 : Int} {v4 : Int} {v5 : Int} {z6 : Option AV} {q : VV × Int} (hf : f_Mo_pace_16 k1 V v1 v2 v3 v4 v5 = some q) (K1 : ∀ (V : VV) (v1 : Int) (v2 : Int) (v3 : Int) (v4 : Int) (v5 : Int) (z6 : Option AV), k1 V v1 v2 v3 v4 v5 = some q → Ok X (d + 7) 209 1 ([some (.inr (.inr (.inl 63))), some (.inl v1), some (.inl v2), some (.inl v3), some (.inl v4), some (.inl v5), z6], [], mm V h) (fun M r => M = mm q.1 h ∧ r = some (.inl q.2))) : Ok X (d + 7) 209 16 ([some (.inr (.inr (.inl 63))), some (.inl v1), some (.inl v2), some (.inl v3), some (.inl v4), some (.inl v5), z6], [], mm V h) (fun M r => M = mm q.1 h ∧ r = some (.inl q.2)) := by
  let QQ : Mm → Option AV → Prop := fun M r => M = mm q.1 h ∧ r = some (.inl q.2)
  show Ok X (d + 7) 209 16 ([some (.inr (.inr (.inl 63))), some (.inl v1), some (.inl v2), some (.inl v3), some (.inl v4), some (.inl v5), z6], [], mm V h) QQ
  refine ok_goto (L := [some (.inr (.inr (.inl 63))), some (.inl v1), some (.inl v2), some (.inl v3), some (.inl v4), some (.inl (w32 (v5 + 1))), z6]) (S := []) (M := mm V h) rfl rfl ?_
  exact K1 V v1 v2 v3 v4 (w32 (v5 + 1)) z6 hf
def f_Mo_pace_1 : Nat → VV → Int → Int → Int → Int → Int → (Option (VV × Int))
  | 0, _, _, _, _, _, _ => none
  | n + 1, V, v1, v2, v3, v4, v5 => if 20 < v5 then some (V, v1) else Option.bind (f_Mo_goInAll V v5) (fun q2 => if q2.2 = 0 then f_Mo_pace_16 (f_Mo_pace_1 n) q2.1 v1 v2 v3 v4 v5 else f_Mo_pace_16 (f_Mo_pace_1 n) q2.1 (if v1 < 0 then v5 else (if (if (q2.1 62 93) < v2 then 1 else (if (q2.1 62 93) = v2 then (if (q2.1 62 94) < v3 then 1 else (if (q2.1 62 94) = v3 then (if (q2.1 62 95) < v4 then 1 else 0 : Int) else 0 : Int) : Int) else 0 : Int) : Int) = 0 then v1 else v5 : Int) : Int) (if v1 < 0 then q2.1 62 93 else (if (if (q2.1 62 93) < v2 then 1 else (if (q2.1 62 93) = v2 then (if (q2.1 62 94) < v3 then 1 else (if (q2.1 62 94) = v3 then (if (q2.1 62 95) < v4 then 1 else 0 : Int) else 0 : Int) : Int) else 0 : Int) : Int) = 0 then v2 else q2.1 62 93 : Int) : Int) (if v1 < 0 then q2.1 62 94 else (if (if (q2.1 62 93) < v2 then 1 else (if (q2.1 62 93) = v2 then (if (q2.1 62 94) < v3 then 1 else (if (q2.1 62 94) = v3 then (if (q2.1 62 95) < v4 then 1 else 0 : Int) else 0 : Int) : Int) else 0 : Int) : Int) = 0 then v3 else q2.1 62 94 : Int) : Int) (if v1 < 0 then q2.1 62 95 else (if (if (q2.1 62 93) < v2 then 1 else (if (q2.1 62 93) = v2 then (if (q2.1 62 94) < v3 then 1 else (if (q2.1 62 94) = v3 then (if (q2.1 62 95) < v4 then 1 else 0 : Int) else 0 : Int) : Int) else 0 : Int) : Int) = 0 then v4 else q2.1 62 95 : Int) : Int) v5)
set_option maxRecDepth 20000 in
set_option maxHeartbeats 4000000 in
theorem s_Mo_pace_1_n {X : Xs} {d : Nat} {h : HP} {q : VV × Int} : ∀ (n : Nat) (V : VV) (v1 : Int) (v2 : Int) (v3 : Int) (v4 : Int) (v5 : Int) (z6 : Option AV), f_Mo_pace_1 n V v1 v2 v3 v4 v5 = some q → Ok X (d + 7) 209 1 ([some (.inr (.inr (.inl 63))), some (.inl v1), some (.inl v2), some (.inl v3), some (.inl v4), some (.inl v5), z6], [], mm V h) (fun M r => M = mm q.1 h ∧ r = some (.inl q.2)) := by
  intro n
  induction n with
  | zero => intro V v1 v2 v3 v4 v5 z6 hf; cases hf
  | succ n ih =>
    intro V v1 v2 v3 v4 v5 z6 hf
    let QQ : Mm → Option AV → Prop := fun M r => M = mm q.1 h ∧ r = some (.inl q.2)
    show Ok X (d + 7) 209 1 ([some (.inr (.inr (.inl 63))), some (.inl v1), some (.inl v2), some (.inl v3), some (.inl v4), some (.inl v5), z6], [], mm V h) QQ
    refine ok_ic_gt (x := v5) (u := 20) (L := [some (.inr (.inr (.inl 63))), some (.inl v1), some (.inl v2), some (.inl v3), some (.inl v4), some (.inl v5), z6]) (S := []) (M := mm V h) rfl rfl (fun c1 => ?_) (fun c1 => ?_)
    ·
      replace hf := (if_pos c1).symm.trans hf
      obtain rfl := Option.some.inj hf
      refine ok_ireturn (L := [some (.inr (.inr (.inl 63))), some (.inl v1), some (.inl v2), some (.inl v3), some (.inl v4), some (.inl v5), z6]) (M := mm V h) (x := v1) rfl rfl ?_
      exact ⟨rfl, rfl⟩
    ·
      replace hf := (if_neg (Int.not_lt.mpr c1)).symm.trans hf
      obtain ⟨q2, e2, hf⟩ := obind hf
      refine ok_callA (L := [some (.inr (.inr (.inl 63))), some (.inl v1), some (.inl v2), some (.inl v3), some (.inl v4), some (.inl v5), z6]) (M := mm V h) (args := [.inr (.inr (.inl 63)), .inl v5]) (rest := []) (y2 := 210) rfl rfl rfl (Or.inl rfl) rfl rfl (Nat.le_of_ble_eq_true rfl) rfl rfl (Nat.le_of_ble_eq_true rfl) (Nat.le_of_ble_eq_true rfl) (s_Mo_goInAll e2) ?_
      rintro _ _ ⟨rfl, rfl, hz2⟩
      refine ok_if_ne (x := q2.2) (L := [some (.inr (.inr (.inl 63))), some (.inl v1), some (.inl v2), some (.inl v3), some (.inl v4), some (.inl v5), z6]) (S := []) (M := mm q2.1 h) rfl rfl (fun c3 => ?_) (fun c3 => ?_)
      ·
        replace hf := (if_neg c3).symm.trans hf
        have JN4 : Ok X (d + 7) 209 12 ([some (.inr (.inr (.inl 63))), some (.inl v1), some (.inl v2), some (.inl v3), some (.inl v4), some (.inl v5), z6], [.inl (if (q2.1 62 93) < v2 then 1 else (if (q2.1 62 93) = v2 then (if (q2.1 62 94) < v3 then 1 else (if (q2.1 62 94) = v3 then (if (q2.1 62 95) < v4 then 1 else 0 : Int) else 0 : Int) : Int) else 0 : Int) : Int)], mm q2.1 h) QQ := by
          have JN5 : Ok X (d + 7) 209 16 ([some (.inr (.inr (.inl 63))), some (.inl (if v1 < 0 then v5 else (if (if (q2.1 62 93) < v2 then 1 else (if (q2.1 62 93) = v2 then (if (q2.1 62 94) < v3 then 1 else (if (q2.1 62 94) = v3 then (if (q2.1 62 95) < v4 then 1 else 0 : Int) else 0 : Int) : Int) else 0 : Int) : Int) = 0 then v1 else v5 : Int) : Int)), some (.inl (if v1 < 0 then q2.1 62 93 else (if (if (q2.1 62 93) < v2 then 1 else (if (q2.1 62 93) = v2 then (if (q2.1 62 94) < v3 then 1 else (if (q2.1 62 94) = v3 then (if (q2.1 62 95) < v4 then 1 else 0 : Int) else 0 : Int) : Int) else 0 : Int) : Int) = 0 then v2 else q2.1 62 93 : Int) : Int)), some (.inl (if v1 < 0 then q2.1 62 94 else (if (if (q2.1 62 93) < v2 then 1 else (if (q2.1 62 93) = v2 then (if (q2.1 62 94) < v3 then 1 else (if (q2.1 62 94) = v3 then (if (q2.1 62 95) < v4 then 1 else 0 : Int) else 0 : Int) : Int) else 0 : Int) : Int) = 0 then v3 else q2.1 62 94 : Int) : Int)), some (.inl (if v1 < 0 then q2.1 62 95 else (if (if (q2.1 62 93) < v2 then 1 else (if (q2.1 62 93) = v2 then (if (q2.1 62 94) < v3 then 1 else (if (q2.1 62 94) = v3 then (if (q2.1 62 95) < v4 then 1 else 0 : Int) else 0 : Int) : Int) else 0 : Int) : Int) = 0 then v4 else q2.1 62 95 : Int) : Int)), some (.inl v5), some (.inl (if (q2.1 62 93) < v2 then 1 else (if (q2.1 62 93) = v2 then (if (q2.1 62 94) < v3 then 1 else (if (q2.1 62 94) = v3 then (if (q2.1 62 95) < v4 then 1 else 0 : Int) else 0 : Int) : Int) else 0 : Int) : Int))], [], mm q2.1 h) QQ := by
            exact s_Mo_pace_16 hf ih
          clear hf
          refine ok_if_lt (x := v1) (L := [some (.inr (.inr (.inl 63))), some (.inl v1), some (.inl v2), some (.inl v3), some (.inl v4), some (.inl v5), some (.inl (if (q2.1 62 93) < v2 then 1 else (if (q2.1 62 93) = v2 then (if (q2.1 62 94) < v3 then 1 else (if (q2.1 62 94) = v3 then (if (q2.1 62 95) < v4 then 1 else 0 : Int) else 0 : Int) : Int) else 0 : Int) : Int))]) (S := []) (M := mm q2.1 h) rfl rfl (fun c6 => ?_) (fun c6 => ?_)
          ·
            simp only [if_pos c6] at JN5
            refine ok_thru (L := [some (.inr (.inr (.inl 63))), some (.inl v5), some (.inl (q2.1 62 93)), some (.inl (q2.1 62 94)), some (.inl (q2.1 62 95)), some (.inl v5), some (.inl (if (q2.1 62 93) < v2 then 1 else (if (q2.1 62 93) = v2 then (if (q2.1 62 94) < v3 then 1 else (if (q2.1 62 94) = v3 then (if (q2.1 62 95) < v4 then 1 else 0 : Int) else 0 : Int) : Int) else 0 : Int) : Int))]) (S := []) (M := mm q2.1 h) rfl rfl ?_
            first | exact JN5 | (simp only [if_pos c6]; exact JN5)
          ·
            simp only [if_neg (Int.not_lt.mpr c6)] at JN5
            refine ok_if_ne (x := (if (q2.1 62 93) < v2 then 1 else (if (q2.1 62 93) = v2 then (if (q2.1 62 94) < v3 then 1 else (if (q2.1 62 94) = v3 then (if (q2.1 62 95) < v4 then 1 else 0 : Int) else 0 : Int) : Int) else 0 : Int) : Int)) (L := [some (.inr (.inr (.inl 63))), some (.inl v1), some (.inl v2), some (.inl v3), some (.inl v4), some (.inl v5), some (.inl (if (q2.1 62 93) < v2 then 1 else (if (q2.1 62 93) = v2 then (if (q2.1 62 94) < v3 then 1 else (if (q2.1 62 94) = v3 then (if (q2.1 62 95) < v4 then 1 else 0 : Int) else 0 : Int) : Int) else 0 : Int) : Int))]) (S := []) (M := mm q2.1 h) rfl rfl (fun c7 => ?_) (fun c7 => ?_)
            ·
              simp only [if_neg c7] at JN5
              refine ok_thru (L := [some (.inr (.inr (.inl 63))), some (.inl v5), some (.inl (q2.1 62 93)), some (.inl (q2.1 62 94)), some (.inl (q2.1 62 95)), some (.inl v5), some (.inl (if (q2.1 62 93) < v2 then 1 else (if (q2.1 62 93) = v2 then (if (q2.1 62 94) < v3 then 1 else (if (q2.1 62 94) = v3 then (if (q2.1 62 95) < v4 then 1 else 0 : Int) else 0 : Int) : Int) else 0 : Int) : Int))]) (S := []) (M := mm q2.1 h) rfl rfl ?_
              first | exact JN5 | (simp only [if_neg (Int.not_lt.mpr c6), if_neg c7]; exact JN5)
            ·
              simp only [if_pos c7] at JN5
              refine ok_goto (L := [some (.inr (.inr (.inl 63))), some (.inl v1), some (.inl v2), some (.inl v3), some (.inl v4), some (.inl v5), some (.inl (if (q2.1 62 93) < v2 then 1 else (if (q2.1 62 93) = v2 then (if (q2.1 62 94) < v3 then 1 else (if (q2.1 62 94) = v3 then (if (q2.1 62 95) < v4 then 1 else 0 : Int) else 0 : Int) : Int) else 0 : Int) : Int))]) (S := []) (M := mm q2.1 h) rfl rfl ?_
              first | exact JN5 | (simp only [if_neg (Int.not_lt.mpr c6), if_pos c7]; exact JN5)
        clear hf
        refine ok_ic_lt (x := q2.1 62 93) (u := v2) (L := [some (.inr (.inr (.inl 63))), some (.inl v1), some (.inl v2), some (.inl v3), some (.inl v4), some (.inl v5), z6]) (S := []) (M := mm q2.1 h) rfl rfl (fun c8 => ?_) (fun c8 => ?_)
        ·
          simp only [if_pos c8] at JN4
          refine ok_goto (L := [some (.inr (.inr (.inl 63))), some (.inl v1), some (.inl v2), some (.inl v3), some (.inl v4), some (.inl v5), z6]) (S := [.inl 1]) (M := mm q2.1 h) rfl rfl ?_
          first | exact JN4 | (simp only [if_pos c8]; exact JN4)
        ·
          simp only [if_neg (Int.not_lt.mpr c8)] at JN4
          refine ok_ic_ne (x := q2.1 62 93) (u := v2) (L := [some (.inr (.inr (.inl 63))), some (.inl v1), some (.inl v2), some (.inl v3), some (.inl v4), some (.inl v5), z6]) (S := []) (M := mm q2.1 h) rfl rfl (fun c9 => ?_) (fun c9 => ?_)
          ·
            simp only [if_neg c9] at JN4
            refine ok_thru (L := [some (.inr (.inr (.inl 63))), some (.inl v1), some (.inl v2), some (.inl v3), some (.inl v4), some (.inl v5), z6]) (S := [.inl 0]) (M := mm q2.1 h) rfl rfl ?_
            first | exact JN4 | (simp only [if_neg (Int.not_lt.mpr c8), if_neg c9]; exact JN4)
          ·
            simp only [if_pos c9] at JN4
            refine ok_ic_lt (x := q2.1 62 94) (u := v3) (L := [some (.inr (.inr (.inl 63))), some (.inl v1), some (.inl v2), some (.inl v3), some (.inl v4), some (.inl v5), z6]) (S := []) (M := mm q2.1 h) rfl rfl (fun c10 => ?_) (fun c10 => ?_)
            ·
              simp only [if_pos c10] at JN4
              refine ok_goto (L := [some (.inr (.inr (.inl 63))), some (.inl v1), some (.inl v2), some (.inl v3), some (.inl v4), some (.inl v5), z6]) (S := [.inl 1]) (M := mm q2.1 h) rfl rfl ?_
              first | exact JN4 | (simp only [if_neg (Int.not_lt.mpr c8), if_pos c9, if_pos c10]; exact JN4)
            ·
              simp only [if_neg (Int.not_lt.mpr c10)] at JN4
              refine ok_ic_ne (x := q2.1 62 94) (u := v3) (L := [some (.inr (.inr (.inl 63))), some (.inl v1), some (.inl v2), some (.inl v3), some (.inl v4), some (.inl v5), z6]) (S := []) (M := mm q2.1 h) rfl rfl (fun c11 => ?_) (fun c11 => ?_)
              ·
                simp only [if_neg c11] at JN4
                refine ok_thru (L := [some (.inr (.inr (.inl 63))), some (.inl v1), some (.inl v2), some (.inl v3), some (.inl v4), some (.inl v5), z6]) (S := [.inl 0]) (M := mm q2.1 h) rfl rfl ?_
                first | exact JN4 | (simp only [if_neg (Int.not_lt.mpr c8), if_pos c9, if_neg (Int.not_lt.mpr c10), if_neg c11]; exact JN4)
              ·
                simp only [if_pos c11] at JN4
                refine ok_ic_ge (x := q2.1 62 95) (u := v4) (L := [some (.inr (.inr (.inl 63))), some (.inl v1), some (.inl v2), some (.inl v3), some (.inl v4), some (.inl v5), z6]) (S := []) (M := mm q2.1 h) rfl rfl (fun c12 => ?_) (fun c12 => ?_)
                ·
                  simp only [if_neg (Int.not_lt.mpr c12)] at JN4
                  refine ok_thru (L := [some (.inr (.inr (.inl 63))), some (.inl v1), some (.inl v2), some (.inl v3), some (.inl v4), some (.inl v5), z6]) (S := [.inl 0]) (M := mm q2.1 h) rfl rfl ?_
                  first | exact JN4 | (simp only [if_neg (Int.not_lt.mpr c8), if_pos c9, if_neg (Int.not_lt.mpr c10), if_pos c11, if_neg (Int.not_lt.mpr c12)]; exact JN4)
                ·
                  simp only [if_pos c12] at JN4
                  refine ok_goto (L := [some (.inr (.inr (.inl 63))), some (.inl v1), some (.inl v2), some (.inl v3), some (.inl v4), some (.inl v5), z6]) (S := [.inl 1]) (M := mm q2.1 h) rfl rfl ?_
                  first | exact JN4 | (simp only [if_neg (Int.not_lt.mpr c8), if_pos c9, if_neg (Int.not_lt.mpr c10), if_pos c11, if_pos c12]; exact JN4)
      ·
        replace hf := (if_pos c3).symm.trans hf
        refine ok_goto (L := [some (.inr (.inr (.inl 63))), some (.inl v1), some (.inl v2), some (.inl v3), some (.inl v4), some (.inl v5), z6]) (S := []) (M := mm q2.1 h) rfl rfl ?_
        exact s_Mo_pace_16 hf ih
theorem s_Mo_pace_1 {X : Xs} {d : Nat} {h : HP} {V : VV} {v1 : Int} {v2 : Int} {v3 : Int} {v4 : Int} {v5 : Int} {z6 : Option AV} {n : Nat} {q : VV × Int} (hf : f_Mo_pace_1 n V v1 v2 v3 v4 v5 = some q) : Ok X (d + 7) 209 1 ([some (.inr (.inr (.inl 63))), some (.inl v1), some (.inl v2), some (.inl v3), some (.inl v4), some (.inl v5), z6], [], mm V h) (fun M r => M = mm q.1 h ∧ r = some (.inl q.2)) :=
  s_Mo_pace_1_n n V v1 v2 v3 v4 v5 z6 hf
def f_Mo_pace (V : VV)  : Option (VV × Int) := f_Mo_pace_1 FU V (-1) 0 0 0 1
set_option maxRecDepth 20000 in
set_option maxHeartbeats 4000000 in
theorem s_Mo_pace {X : Xs} {d : Nat} {V : VV} {h : HP} {q : VV × Int} (hf : f_Mo_pace V = some q) : Ok X (d + 7) 209 0 ([some (.inr (.inr (.inl 63))), none, none, none, none, none, none], [], mm V h) (fun M r => M = mm q.1 h ∧ r = some (.inl q.2)) := by
  let QQ : Mm → Option AV → Prop := fun M r => M = mm q.1 h ∧ r = some (.inl q.2)
  show Ok X (d + 7) 209 0 ([some (.inr (.inr (.inl 63))), none, none, none, none, none, none], [], mm V h) QQ
  refine ok_thru (L := [some (.inr (.inr (.inl 63))), some (.inl (-1)), some (.inl 0), some (.inl 0), some (.inl 0), some (.inl 1), none]) (S := []) (M := mm V h) rfl rfl ?_
  exact s_Mo_pace_1 hf
def f_Mo_fewest_11 (V : VV) (v2 : Int) (v3 : Int) : Option (VV × Int) := some (up V 62 22 v2, v3)
set_option maxRecDepth 20000 in
set_option maxHeartbeats 4000000 in
theorem s_Mo_fewest_11 {X : Xs} {d : Nat} {V : VV} {h : HP} {v2 : Int} {v3 : Int} {w1 : Int} {w4 : Int} {q : VV × Int} (hf : f_Mo_fewest_11 V v2 v3 = some q) : Ok X (d + 7) 211 11 ([some (.inr (.inr (.inl 63))), some (.inl w1), some (.inl v2), some (.inl v3), some (.inl w4)], [], mm V h) (fun M r => M = mm q.1 h ∧ r = some (.inl q.2)) := by
  let QQ : Mm → Option AV → Prop := fun M r => M = mm q.1 h ∧ r = some (.inl q.2)
  show Ok X (d + 7) 211 11 ([some (.inr (.inr (.inl 63))), some (.inl w1), some (.inl v2), some (.inl v3), some (.inl w4)], [], mm V h) QQ
  obtain rfl := Option.some.inj hf
  refine ok_ireturn (L := [some (.inr (.inr (.inl 63))), some (.inl w1), some (.inl v2), some (.inl v3), some (.inl w4)]) (M := mm (up V 62 22 v2) h) (x := v3) rfl rfl ?_
  exact ⟨rfl, rfl⟩
def f_Mo_fewest_4 : Nat → VV → Int → Int → Int → Int → (Option (VV × Int))
  | 0, _, _, _, _, _ => none
  | n + 1, V, v1, v2, v3, v4 => if 16 < v4 then f_Mo_fewest_11 V v2 v3 else if v3 < 0 then Option.bind (f_Mo_goInAll (up V 62 22 v4) v1) (fun q3 => f_Mo_fewest_4 n q3.1 v1 v2 (if q3.2 = 0 then v3 else (if (q3.1 62 93) = 0 then v4 else v3 : Int) : Int) (w32 (v4 + 1))) else f_Mo_fewest_11 V v2 v3
set_option maxRecDepth 20000 in
set_option maxHeartbeats 4000000 in
theorem s_Mo_fewest_4_n {X : Xs} {d : Nat} {h : HP} {q : VV × Int} : ∀ (n : Nat) (V : VV) (v1 : Int) (v2 : Int) (v3 : Int) (v4 : Int), f_Mo_fewest_4 n V v1 v2 v3 v4 = some q → Ok X (d + 7) 211 4 ([some (.inr (.inr (.inl 63))), some (.inl v1), some (.inl v2), some (.inl v3), some (.inl v4)], [], mm V h) (fun M r => M = mm q.1 h ∧ r = some (.inl q.2)) := by
  intro n
  induction n with
  | zero => intro V v1 v2 v3 v4 hf; cases hf
  | succ n ih =>
    intro V v1 v2 v3 v4 hf
    let QQ : Mm → Option AV → Prop := fun M r => M = mm q.1 h ∧ r = some (.inl q.2)
    show Ok X (d + 7) 211 4 ([some (.inr (.inr (.inl 63))), some (.inl v1), some (.inl v2), some (.inl v3), some (.inl v4)], [], mm V h) QQ
    refine ok_ic_gt (x := v4) (u := 16) (L := [some (.inr (.inr (.inl 63))), some (.inl v1), some (.inl v2), some (.inl v3), some (.inl v4)]) (S := []) (M := mm V h) rfl rfl (fun c1 => ?_) (fun c1 => ?_)
    ·
      replace hf := (if_pos c1).symm.trans hf
      exact s_Mo_fewest_11 hf
    ·
      replace hf := (if_neg (Int.not_lt.mpr c1)).symm.trans hf
      refine ok_if_ge (x := v3) (L := [some (.inr (.inr (.inl 63))), some (.inl v1), some (.inl v2), some (.inl v3), some (.inl v4)]) (S := []) (M := mm V h) rfl rfl (fun c2 => ?_) (fun c2 => ?_)
      ·
        replace hf := (if_neg (Int.not_lt.mpr c2)).symm.trans hf
        exact s_Mo_fewest_11 hf
      ·
        replace hf := (if_pos c2).symm.trans hf
        obtain ⟨q3, e3, hf⟩ := obind hf
        refine ok_callA (L := [some (.inr (.inr (.inl 63))), some (.inl v1), some (.inl v2), some (.inl v3), some (.inl v4)]) (M := mm (up V 62 22 v4) h) (args := [.inr (.inr (.inl 63)), .inl v1]) (rest := []) (y2 := 210) rfl rfl rfl (Or.inl rfl) rfl rfl (Nat.le_of_ble_eq_true rfl) rfl rfl (Nat.le_of_ble_eq_true rfl) (Nat.le_of_ble_eq_true rfl) (s_Mo_goInAll e3) ?_
        rintro _ _ ⟨rfl, rfl, hz3⟩
        have JN4 : Ok X (d + 7) 211 10 ([some (.inr (.inr (.inl 63))), some (.inl v1), some (.inl v2), some (.inl (if q3.2 = 0 then v3 else (if (q3.1 62 93) = 0 then v4 else v3 : Int) : Int)), some (.inl v4)], [], mm q3.1 h) QQ := by
          refine ok_goto (L := [some (.inr (.inr (.inl 63))), some (.inl v1), some (.inl v2), some (.inl (if q3.2 = 0 then v3 else (if (q3.1 62 93) = 0 then v4 else v3 : Int) : Int)), some (.inl (w32 (v4 + 1)))]) (S := []) (M := mm q3.1 h) rfl rfl ?_
          exact ih q3.1 v1 v2 (if q3.2 = 0 then v3 else (if (q3.1 62 93) = 0 then v4 else v3 : Int) : Int) (w32 (v4 + 1)) hf
        clear hf
        refine ok_if_eq (x := q3.2) (L := [some (.inr (.inr (.inl 63))), some (.inl v1), some (.inl v2), some (.inl v3), some (.inl v4)]) (S := []) (M := mm q3.1 h) rfl rfl (fun c5 => ?_) (fun c5 => ?_)
        ·
          simp only [if_pos c5] at JN4
          first | exact JN4 | (simp only [if_pos c5]; exact JN4)
        ·
          simp only [if_neg c5] at JN4
          refine ok_if_ne (x := q3.1 62 93) (L := [some (.inr (.inr (.inl 63))), some (.inl v1), some (.inl v2), some (.inl v3), some (.inl v4)]) (S := []) (M := mm q3.1 h) rfl rfl (fun c6 => ?_) (fun c6 => ?_)
          ·
            simp only [if_neg c6] at JN4
            first | exact JN4 | (simp only [if_neg c5, if_neg c6]; exact JN4)
          ·
            simp only [if_pos c6] at JN4
            refine ok_thru (L := [some (.inr (.inr (.inl 63))), some (.inl v1), some (.inl v2), some (.inl v4), some (.inl v4)]) (S := []) (M := mm q3.1 h) rfl rfl ?_
            first | exact JN4 | (simp only [if_neg c5, if_pos c6]; exact JN4)
theorem s_Mo_fewest_4 {X : Xs} {d : Nat} {h : HP} {V : VV} {v1 : Int} {v2 : Int} {v3 : Int} {v4 : Int} {n : Nat} {q : VV × Int} (hf : f_Mo_fewest_4 n V v1 v2 v3 v4 = some q) : Ok X (d + 7) 211 4 ([some (.inr (.inr (.inl 63))), some (.inl v1), some (.inl v2), some (.inl v3), some (.inl v4)], [], mm V h) (fun M r => M = mm q.1 h ∧ r = some (.inl q.2)) :=
  s_Mo_fewest_4_n n V v1 v2 v3 v4 hf
def f_Mo_fewest (V : VV) (v1 : Int) : Option (VV × Int) := if (f_Mo_isIn V v1 1 20) = 0 then some (V, (-1)) else f_Mo_fewest_4 FU V v1 (V 62 22) (-1) 1
set_option maxRecDepth 20000 in
set_option maxHeartbeats 4000000 in
theorem s_Mo_fewest {X : Xs} {d : Nat} {V : VV} {h : HP} {v1 : Int} {q : VV × Int} (hf : f_Mo_fewest V v1 = some q) : Ok X (d + 7) 211 0 ([some (.inr (.inr (.inl 63))), some (.inl v1), none, none, none], [], mm V h) (fun M r => M = mm q.1 h ∧ r = some (.inl q.2)) := by
  let QQ : Mm → Option AV → Prop := fun M r => M = mm q.1 h ∧ r = some (.inl q.2)
  show Ok X (d + 7) 211 0 ([some (.inr (.inr (.inl 63))), some (.inl v1), none, none, none], [], mm V h) QQ
  refine ok_callA (L := [some (.inr (.inr (.inl 63))), some (.inl v1), none, none, none]) (M := mm V h) (args := [.inl v1, .inl 1, .inl 20]) (rest := []) (y2 := 152) rfl rfl rfl (Or.inr (Or.inl rfl)) rfl rfl (Nat.le_of_ble_eq_true rfl) rfl rfl (Nat.le_of_ble_eq_true rfl) (Nat.le_of_ble_eq_true rfl) (s_Mo_isIn rfl) ?_
  rintro _ _ ⟨rfl, rfl, hz1⟩
  refine ok_if_ne (x := f_Mo_isIn V v1 1 20) (L := [some (.inr (.inr (.inl 63))), some (.inl v1), none, none, none]) (S := []) (M := mm V h) rfl rfl (fun c2 => ?_) (fun c2 => ?_)
  ·
    replace hf := (if_neg c2).symm.trans hf
    refine ok_thru (L := [some (.inr (.inr (.inl 63))), some (.inl v1), some (.inl (V 62 22)), some (.inl (-1)), some (.inl 1)]) (S := []) (M := mm V h) rfl rfl ?_
    exact s_Mo_fewest_4 hf
  ·
    replace hf := (if_pos c2).symm.trans hf
    obtain rfl := Option.some.inj hf
    refine ok_ireturn (L := [some (.inr (.inr (.inl 63))), some (.inl v1), none, none, none]) (M := mm V h) (x := (-1)) rfl rfl ?_
    exact ⟨rfl, rfl⟩
def f_Mo_load (V : VV) (v1 : Int) (v2 : Int) (v3 : Int) (v4 : Int) : Option (VV × Int) := Option.bind (f_Mo_isRun V v1 v2) (fun q1 => if q1.2 = 0 then some (q1.1, (-1)) else if (f_Mo_isIn q1.1 v3 0 (w32 ((q1.1 62 72) - 1))) = 0 then some (q1.1, (-1)) else if v4 = 0 then if 0 ≤ v3 ∧ v3 < (17400 : Int) then some (q1.1, q1.1 99 v3.toNat) else none else if v4 = 1 then if 0 ≤ v3 ∧ v3 < (17400 : Int) then some (q1.1, q1.1 100 v3.toNat) else none else if v4 = 2 then if 0 ≤ v3 ∧ v3 < (17400 : Int) then some (q1.1, q1.1 101 v3.toNat) else none else if v4 = 3 then if 0 ≤ v3 ∧ v3 < (17400 : Int) then some (q1.1, q1.1 102 v3.toNat) else none else if v4 = 4 then if 0 ≤ v3 ∧ v3 < (17400 : Int) then some (q1.1, q1.1 103 v3.toNat) else none else if v4 = 5 then if 0 ≤ v3 ∧ v3 < (17400 : Int) then some (q1.1, q1.1 104 v3.toNat) else none else if v4 = 6 then if 0 ≤ v3 ∧ v3 < (17400 : Int) then some (q1.1, q1.1 105 v3.toNat) else none else if v4 = 7 then if 0 ≤ v3 ∧ v3 < (17400 : Int) then some (q1.1, q1.1 106 v3.toNat) else none else if v4 = 8 then if 0 ≤ v3 ∧ v3 < (17400 : Int) then some (q1.1, (if (q1.1 107 v3.toNat) = 0 then 0 else 1 : Int)) else none else some (q1.1, (-1)))
set_option maxRecDepth 20000 in
set_option maxHeartbeats 4000000 in
theorem s_Mo_load {X : Xs} {d : Nat} {V : VV} {h : HP} {v1 : Int} {v2 : Int} {v3 : Int} {v4 : Int} {q : VV × Int} (hf : f_Mo_load V v1 v2 v3 v4 = some q) : Ok X (d + 7) 212 0 ([some (.inr (.inr (.inl 63))), some (.inl v1), some (.inl v2), some (.inl v3), some (.inl v4)], [], mm V h) (fun M r => M = mm q.1 h ∧ r = some (.inl q.2)) := by
  let QQ : Mm → Option AV → Prop := fun M r => M = mm q.1 h ∧ r = some (.inl q.2)
  show Ok X (d + 7) 212 0 ([some (.inr (.inr (.inl 63))), some (.inl v1), some (.inl v2), some (.inl v3), some (.inl v4)], [], mm V h) QQ
  obtain ⟨q1, e1, hf⟩ := obind hf
  refine ok_callA (L := [some (.inr (.inr (.inl 63))), some (.inl v1), some (.inl v2), some (.inl v3), some (.inl v4)]) (M := mm V h) (args := [.inr (.inr (.inl 63)), .inl v1, .inl v2]) (rest := []) (y2 := 193) rfl rfl rfl (Or.inl rfl) rfl rfl (Nat.le_of_ble_eq_true rfl) rfl rfl (Nat.le_of_ble_eq_true rfl) (Nat.le_of_ble_eq_true rfl) (s_Mo_isRun e1) ?_
  rintro _ _ ⟨rfl, rfl, hz1⟩
  refine ok_if_eq (x := q1.2) (L := [some (.inr (.inr (.inl 63))), some (.inl v1), some (.inl v2), some (.inl v3), some (.inl v4)]) (S := []) (M := mm q1.1 h) rfl rfl (fun c2 => ?_) (fun c2 => ?_)
  ·
    replace hf := (if_pos c2).symm.trans hf
    obtain rfl := Option.some.inj hf
    refine ok_ireturn (L := [some (.inr (.inr (.inl 63))), some (.inl v1), some (.inl v2), some (.inl v3), some (.inl v4)]) (M := mm q1.1 h) (x := (-1)) rfl rfl ?_
    exact ⟨rfl, rfl⟩
  ·
    replace hf := (if_neg c2).symm.trans hf
    refine ok_callA (L := [some (.inr (.inr (.inl 63))), some (.inl v1), some (.inl v2), some (.inl v3), some (.inl v4)]) (M := mm q1.1 h) (args := [.inl v3, .inl 0, .inl (w32 ((q1.1 62 72) - 1))]) (rest := []) (y2 := 152) rfl rfl rfl (Or.inr (Or.inl rfl)) rfl rfl (Nat.le_of_ble_eq_true rfl) rfl rfl (Nat.le_of_ble_eq_true rfl) (Nat.le_of_ble_eq_true rfl) (s_Mo_isIn rfl) ?_
    rintro _ _ ⟨rfl, rfl, hz3⟩
    refine ok_if_ne (x := f_Mo_isIn q1.1 v3 0 (w32 ((q1.1 62 72) - 1))) (L := [some (.inr (.inr (.inl 63))), some (.inl v1), some (.inl v2), some (.inl v3), some (.inl v4)]) (S := []) (M := mm q1.1 h) rfl rfl (fun c4 => ?_) (fun c4 => ?_)
    ·
      replace hf := (if_neg c4).symm.trans hf
      by_cases c5 : v4 = 0
      ·
        replace hf := (if_pos c5).symm.trans hf
        refine ok_sw (x := v4) (b1 := 6) (L := [some (.inr (.inr (.inl 63))), some (.inl v1), some (.inl v2), some (.inl v3), some (.inl v4)]) (S := []) (M := mm q1.1 h) rfl rfl (by rw [c5]; rfl) ?_
        by_cases c6 : 0 ≤ v3 ∧ v3 < (17400 : Int)
        case neg => replace hf := (if_neg c6).symm.trans hf; cases hf
        replace hf := (if_pos c6).symm.trans hf
        refine ok_iald (i := v3) (id := 99) (n := 17400) (L := [some (.inr (.inr (.inl 63))), some (.inl v1), some (.inl v2), some (.inl v3), some (.inl v4)]) (S := []) (M := mm q1.1 h) rfl rfl rfl c6.1 c6.2 ?_
        obtain rfl := Option.some.inj hf
        refine ok_ireturn (L := [some (.inr (.inr (.inl 63))), some (.inl v1), some (.inl v2), some (.inl v3), some (.inl v4)]) (M := mm q1.1 h) (x := q1.1 99 v3.toNat) rfl rfl ?_
        exact ⟨rfl, rfl⟩
      replace hf := (if_neg c5).symm.trans hf
      by_cases c7 : v4 = 1
      ·
        replace hf := (if_pos c7).symm.trans hf
        refine ok_sw (x := v4) (b1 := 8) (L := [some (.inr (.inr (.inl 63))), some (.inl v1), some (.inl v2), some (.inl v3), some (.inl v4)]) (S := []) (M := mm q1.1 h) rfl rfl (by rw [c7]; rfl) ?_
        by_cases c8 : 0 ≤ v3 ∧ v3 < (17400 : Int)
        case neg => replace hf := (if_neg c8).symm.trans hf; cases hf
        replace hf := (if_pos c8).symm.trans hf
        refine ok_iald (i := v3) (id := 100) (n := 17400) (L := [some (.inr (.inr (.inl 63))), some (.inl v1), some (.inl v2), some (.inl v3), some (.inl v4)]) (S := []) (M := mm q1.1 h) rfl rfl rfl c8.1 c8.2 ?_
        obtain rfl := Option.some.inj hf
        refine ok_ireturn (L := [some (.inr (.inr (.inl 63))), some (.inl v1), some (.inl v2), some (.inl v3), some (.inl v4)]) (M := mm q1.1 h) (x := q1.1 100 v3.toNat) rfl rfl ?_
        exact ⟨rfl, rfl⟩
      replace hf := (if_neg c7).symm.trans hf
      by_cases c9 : v4 = 2
      ·
        replace hf := (if_pos c9).symm.trans hf
        refine ok_sw (x := v4) (b1 := 10) (L := [some (.inr (.inr (.inl 63))), some (.inl v1), some (.inl v2), some (.inl v3), some (.inl v4)]) (S := []) (M := mm q1.1 h) rfl rfl (by rw [c9]; rfl) ?_
        by_cases c10 : 0 ≤ v3 ∧ v3 < (17400 : Int)
        case neg => replace hf := (if_neg c10).symm.trans hf; cases hf
        replace hf := (if_pos c10).symm.trans hf
        refine ok_iald (i := v3) (id := 101) (n := 17400) (L := [some (.inr (.inr (.inl 63))), some (.inl v1), some (.inl v2), some (.inl v3), some (.inl v4)]) (S := []) (M := mm q1.1 h) rfl rfl rfl c10.1 c10.2 ?_
        obtain rfl := Option.some.inj hf
        refine ok_ireturn (L := [some (.inr (.inr (.inl 63))), some (.inl v1), some (.inl v2), some (.inl v3), some (.inl v4)]) (M := mm q1.1 h) (x := q1.1 101 v3.toNat) rfl rfl ?_
        exact ⟨rfl, rfl⟩
      replace hf := (if_neg c9).symm.trans hf
      by_cases c11 : v4 = 3
      ·
        replace hf := (if_pos c11).symm.trans hf
        refine ok_sw (x := v4) (b1 := 12) (L := [some (.inr (.inr (.inl 63))), some (.inl v1), some (.inl v2), some (.inl v3), some (.inl v4)]) (S := []) (M := mm q1.1 h) rfl rfl (by rw [c11]; rfl) ?_
        by_cases c12 : 0 ≤ v3 ∧ v3 < (17400 : Int)
        case neg => replace hf := (if_neg c12).symm.trans hf; cases hf
        replace hf := (if_pos c12).symm.trans hf
        refine ok_iald (i := v3) (id := 102) (n := 17400) (L := [some (.inr (.inr (.inl 63))), some (.inl v1), some (.inl v2), some (.inl v3), some (.inl v4)]) (S := []) (M := mm q1.1 h) rfl rfl rfl c12.1 c12.2 ?_
        obtain rfl := Option.some.inj hf
        refine ok_ireturn (L := [some (.inr (.inr (.inl 63))), some (.inl v1), some (.inl v2), some (.inl v3), some (.inl v4)]) (M := mm q1.1 h) (x := q1.1 102 v3.toNat) rfl rfl ?_
        exact ⟨rfl, rfl⟩
      replace hf := (if_neg c11).symm.trans hf
      by_cases c13 : v4 = 4
      ·
        replace hf := (if_pos c13).symm.trans hf
        refine ok_sw (x := v4) (b1 := 14) (L := [some (.inr (.inr (.inl 63))), some (.inl v1), some (.inl v2), some (.inl v3), some (.inl v4)]) (S := []) (M := mm q1.1 h) rfl rfl (by rw [c13]; rfl) ?_
        by_cases c14 : 0 ≤ v3 ∧ v3 < (17400 : Int)
        case neg => replace hf := (if_neg c14).symm.trans hf; cases hf
        replace hf := (if_pos c14).symm.trans hf
        refine ok_iald (i := v3) (id := 103) (n := 17400) (L := [some (.inr (.inr (.inl 63))), some (.inl v1), some (.inl v2), some (.inl v3), some (.inl v4)]) (S := []) (M := mm q1.1 h) rfl rfl rfl c14.1 c14.2 ?_
        obtain rfl := Option.some.inj hf
        refine ok_ireturn (L := [some (.inr (.inr (.inl 63))), some (.inl v1), some (.inl v2), some (.inl v3), some (.inl v4)]) (M := mm q1.1 h) (x := q1.1 103 v3.toNat) rfl rfl ?_
        exact ⟨rfl, rfl⟩
      replace hf := (if_neg c13).symm.trans hf
      by_cases c15 : v4 = 5
      ·
        replace hf := (if_pos c15).symm.trans hf
        refine ok_sw (x := v4) (b1 := 16) (L := [some (.inr (.inr (.inl 63))), some (.inl v1), some (.inl v2), some (.inl v3), some (.inl v4)]) (S := []) (M := mm q1.1 h) rfl rfl (by rw [c15]; rfl) ?_
        by_cases c16 : 0 ≤ v3 ∧ v3 < (17400 : Int)
        case neg => replace hf := (if_neg c16).symm.trans hf; cases hf
        replace hf := (if_pos c16).symm.trans hf
        refine ok_iald (i := v3) (id := 104) (n := 17400) (L := [some (.inr (.inr (.inl 63))), some (.inl v1), some (.inl v2), some (.inl v3), some (.inl v4)]) (S := []) (M := mm q1.1 h) rfl rfl rfl c16.1 c16.2 ?_
        obtain rfl := Option.some.inj hf
        refine ok_ireturn (L := [some (.inr (.inr (.inl 63))), some (.inl v1), some (.inl v2), some (.inl v3), some (.inl v4)]) (M := mm q1.1 h) (x := q1.1 104 v3.toNat) rfl rfl ?_
        exact ⟨rfl, rfl⟩
      replace hf := (if_neg c15).symm.trans hf
      by_cases c17 : v4 = 6
      ·
        replace hf := (if_pos c17).symm.trans hf
        refine ok_sw (x := v4) (b1 := 18) (L := [some (.inr (.inr (.inl 63))), some (.inl v1), some (.inl v2), some (.inl v3), some (.inl v4)]) (S := []) (M := mm q1.1 h) rfl rfl (by rw [c17]; rfl) ?_
        by_cases c18 : 0 ≤ v3 ∧ v3 < (17400 : Int)
        case neg => replace hf := (if_neg c18).symm.trans hf; cases hf
        replace hf := (if_pos c18).symm.trans hf
        refine ok_iald (i := v3) (id := 105) (n := 17400) (L := [some (.inr (.inr (.inl 63))), some (.inl v1), some (.inl v2), some (.inl v3), some (.inl v4)]) (S := []) (M := mm q1.1 h) rfl rfl rfl c18.1 c18.2 ?_
        obtain rfl := Option.some.inj hf
        refine ok_ireturn (L := [some (.inr (.inr (.inl 63))), some (.inl v1), some (.inl v2), some (.inl v3), some (.inl v4)]) (M := mm q1.1 h) (x := q1.1 105 v3.toNat) rfl rfl ?_
        exact ⟨rfl, rfl⟩
      replace hf := (if_neg c17).symm.trans hf
      by_cases c19 : v4 = 7
      ·
        replace hf := (if_pos c19).symm.trans hf
        refine ok_sw (x := v4) (b1 := 20) (L := [some (.inr (.inr (.inl 63))), some (.inl v1), some (.inl v2), some (.inl v3), some (.inl v4)]) (S := []) (M := mm q1.1 h) rfl rfl (by rw [c19]; rfl) ?_
        by_cases c20 : 0 ≤ v3 ∧ v3 < (17400 : Int)
        case neg => replace hf := (if_neg c20).symm.trans hf; cases hf
        replace hf := (if_pos c20).symm.trans hf
        refine ok_iald (i := v3) (id := 106) (n := 17400) (L := [some (.inr (.inr (.inl 63))), some (.inl v1), some (.inl v2), some (.inl v3), some (.inl v4)]) (S := []) (M := mm q1.1 h) rfl rfl rfl c20.1 c20.2 ?_
        obtain rfl := Option.some.inj hf
        refine ok_ireturn (L := [some (.inr (.inr (.inl 63))), some (.inl v1), some (.inl v2), some (.inl v3), some (.inl v4)]) (M := mm q1.1 h) (x := q1.1 106 v3.toNat) rfl rfl ?_
        exact ⟨rfl, rfl⟩
      replace hf := (if_neg c19).symm.trans hf
      by_cases c21 : v4 = 8
      ·
        replace hf := (if_pos c21).symm.trans hf
        refine ok_sw (x := v4) (b1 := 22) (L := [some (.inr (.inr (.inl 63))), some (.inl v1), some (.inl v2), some (.inl v3), some (.inl v4)]) (S := []) (M := mm q1.1 h) rfl rfl (by rw [c21]; rfl) ?_
        by_cases c22 : 0 ≤ v3 ∧ v3 < (17400 : Int)
        case neg => replace hf := (if_neg c22).symm.trans hf; cases hf
        replace hf := (if_pos c22).symm.trans hf
        refine ok_zald (i := v3) (id := 107) (n := 17400) (L := [some (.inr (.inr (.inl 63))), some (.inl v1), some (.inl v2), some (.inl v3), some (.inl v4)]) (S := []) (M := mm q1.1 h) rfl rfl rfl c22.1 c22.2 ?_
        have JN23 : Ok X (d + 7) 212 26 ([some (.inr (.inr (.inl 63))), some (.inl v1), some (.inl v2), some (.inl v3), some (.inl v4)], [.inl (if (q1.1 107 v3.toNat) = 0 then 0 else 1 : Int)], mm q1.1 h) QQ := by
          obtain rfl := Option.some.inj hf
          refine ok_ireturn (L := [some (.inr (.inr (.inl 63))), some (.inl v1), some (.inl v2), some (.inl v3), some (.inl v4)]) (M := mm q1.1 h) (x := (if (q1.1 107 v3.toNat) = 0 then 0 else 1 : Int)) rfl rfl ?_
          exact ⟨rfl, rfl⟩
        clear hf
        refine ok_if_eq (x := q1.1 107 v3.toNat) (L := [some (.inr (.inr (.inl 63))), some (.inl v1), some (.inl v2), some (.inl v3), some (.inl v4)]) (S := []) (M := mm q1.1 h) rfl rfl (fun c24 => ?_) (fun c24 => ?_)
        ·
          simp only [if_pos c24] at JN23
          refine ok_thru (L := [some (.inr (.inr (.inl 63))), some (.inl v1), some (.inl v2), some (.inl v3), some (.inl v4)]) (S := [.inl 0]) (M := mm q1.1 h) rfl rfl ?_
          first | exact JN23 | (simp only [if_pos c24]; exact JN23)
        ·
          simp only [if_neg c24] at JN23
          refine ok_goto (L := [some (.inr (.inr (.inl 63))), some (.inl v1), some (.inl v2), some (.inl v3), some (.inl v4)]) (S := [.inl 1]) (M := mm q1.1 h) rfl rfl ?_
          first | exact JN23 | (simp only [if_neg c24]; exact JN23)
      replace hf := (if_neg c21).symm.trans hf
      refine ok_sw (x := v4) (b1 := 27) (L := [some (.inr (.inr (.inl 63))), some (.inl v1), some (.inl v2), some (.inl v3), some (.inl v4)]) (S := []) (M := mm q1.1 h) rfl rfl (if_pos (by omega)) ?_
      obtain rfl := Option.some.inj hf
      refine ok_ireturn (L := [some (.inr (.inr (.inl 63))), some (.inl v1), some (.inl v2), some (.inl v3), some (.inl v4)]) (M := mm q1.1 h) (x := (-1)) rfl rfl ?_
      exact ⟨rfl, rfl⟩
    ·
      replace hf := (if_pos c4).symm.trans hf
      obtain rfl := Option.some.inj hf
      refine ok_ireturn (L := [some (.inr (.inr (.inl 63))), some (.inl v1), some (.inl v2), some (.inl v3), some (.inl v4)]) (M := mm q1.1 h) (x := (-1)) rfl rfl ?_
      exact ⟨rfl, rfl⟩
def f_Mo_tonne_15 (k6 : VV → Int → Int → (Option (VV × Int))) (V : VV) (v3 : Int) (v4 : Int) : Option (VV × Int) := k6 V v3 (w32 (v4 + 1))
set_option maxRecDepth 20000 in
set_option maxHeartbeats 4000000 in
theorem s_Mo_tonne_15 {X : Xs} {d : Nat} {k6 : VV → Int → Int → (Option (VV × Int))} {V : VV} {h : HP} {v3 : Int} {v4 : Int} {w1 : Int} {w2 : Int} {q : VV × Int} (hf : f_Mo_tonne_15 k6 V v3 v4 = some q) (K6 : ∀ (V : VV) (v3 : Int) (v4 : Int) (w1 : Int) (w2 : Int), k6 V v3 v4 = some q → Ok X (d + 7) 213 6 ([some (.inr (.inr (.inl 63))), some (.inl w1), some (.inl w2), some (.inl v3), some (.inl v4)], [], mm V h) (fun M r => M = mm q.1 h ∧ r = some (.inl q.2))) : Ok X (d + 7) 213 15 ([some (.inr (.inr (.inl 63))), some (.inl w1), some (.inl w2), some (.inl v3), some (.inl v4)], [], mm V h) (fun M r => M = mm q.1 h ∧ r = some (.inl q.2)) := by
  let QQ : Mm → Option AV → Prop := fun M r => M = mm q.1 h ∧ r = some (.inl q.2)
  show Ok X (d + 7) 213 15 ([some (.inr (.inr (.inl 63))), some (.inl w1), some (.inl w2), some (.inl v3), some (.inl v4)], [], mm V h) QQ
  refine ok_goto (L := [some (.inr (.inr (.inl 63))), some (.inl w1), some (.inl w2), some (.inl v3), some (.inl (w32 (v4 + 1)))]) (S := []) (M := mm V h) rfl rfl ?_
  exact K6 V v3 (w32 (v4 + 1)) w1 w2 hf
def f_Mo_tonne_6 : Nat → VV → Int → Int → (Option (VV × Int))
  | 0, _, _, _ => none
  | n + 1, V, v3, v4 => if v4 < (V 62 72) then if 0 ≤ v4 ∧ v4 < (17400 : Int) then if (V 108 v4.toNat) < 0 then f_Mo_tonne_15 (f_Mo_tonne_6 n) V v3 v4 else if 0 ≤ v4 ∧ v4 < (17400 : Int) then if 0 ≤ v4 ∧ v4 < (17400 : Int) then if 0 ≤ v4 ∧ v4 < (17400 : Int) then if (f_Mo_isIn V v3 (V 108 v4.toNat) (w32 ((w32 ((V 108 v4.toNat) + (V 100 v4.toNat))) - 1))) = 0 then f_Mo_tonne_15 (f_Mo_tonne_6 n) V v3 v4 else some (V, v4) else none else none else none else none else some (V, (-1))
set_option maxRecDepth 20000 in
set_option maxHeartbeats 4000000 in
theorem s_Mo_tonne_6_n {X : Xs} {d : Nat} {h : HP} {q : VV × Int} : ∀ (n : Nat) (V : VV) (v3 : Int) (v4 : Int) (w1 : Int) (w2 : Int), f_Mo_tonne_6 n V v3 v4 = some q → Ok X (d + 7) 213 6 ([some (.inr (.inr (.inl 63))), some (.inl w1), some (.inl w2), some (.inl v3), some (.inl v4)], [], mm V h) (fun M r => M = mm q.1 h ∧ r = some (.inl q.2)) := by
  intro n
  induction n with
  | zero => intro V v3 v4 w1 w2 hf; cases hf
  | succ n ih =>
    intro V v3 v4 w1 w2 hf
    let QQ : Mm → Option AV → Prop := fun M r => M = mm q.1 h ∧ r = some (.inl q.2)
    show Ok X (d + 7) 213 6 ([some (.inr (.inr (.inl 63))), some (.inl w1), some (.inl w2), some (.inl v3), some (.inl v4)], [], mm V h) QQ
    refine ok_ic_ge (x := v4) (u := V 62 72) (L := [some (.inr (.inr (.inl 63))), some (.inl w1), some (.inl w2), some (.inl v3), some (.inl v4)]) (S := []) (M := mm V h) rfl rfl (fun c1 => ?_) (fun c1 => ?_)
    ·
      replace hf := (if_neg (Int.not_lt.mpr c1)).symm.trans hf
      obtain rfl := Option.some.inj hf
      refine ok_ireturn (L := [some (.inr (.inr (.inl 63))), some (.inl w1), some (.inl w2), some (.inl v3), some (.inl v4)]) (M := mm V h) (x := (-1)) rfl rfl ?_
      exact ⟨rfl, rfl⟩
    ·
      replace hf := (if_pos c1).symm.trans hf
      by_cases c2 : 0 ≤ v4 ∧ v4 < (17400 : Int)
      case neg => replace hf := (if_neg c2).symm.trans hf; cases hf
      replace hf := (if_pos c2).symm.trans hf
      refine ok_iald (i := v4) (id := 108) (n := 17400) (L := [some (.inr (.inr (.inl 63))), some (.inl w1), some (.inl w2), some (.inl v3), some (.inl v4)]) (S := []) (M := mm V h) rfl rfl rfl c2.1 c2.2 ?_
      refine ok_if_lt (x := V 108 v4.toNat) (L := [some (.inr (.inr (.inl 63))), some (.inl w1), some (.inl w2), some (.inl v3), some (.inl v4)]) (S := []) (M := mm V h) rfl rfl (fun c3 => ?_) (fun c3 => ?_)
      ·
        replace hf := (if_pos c3).symm.trans hf
        exact s_Mo_tonne_15 hf ih
      ·
        replace hf := (if_neg (Int.not_lt.mpr c3)).symm.trans hf
        by_cases c4 : 0 ≤ v4 ∧ v4 < (17400 : Int)
        case neg => replace hf := (if_neg c4).symm.trans hf; cases hf
        replace hf := (if_pos c4).symm.trans hf
        refine ok_iald (i := v4) (id := 108) (n := 17400) (L := [some (.inr (.inr (.inl 63))), some (.inl w1), some (.inl w2), some (.inl v3), some (.inl v4)]) (S := [.inl v3]) (M := mm V h) rfl rfl rfl c4.1 c4.2 ?_
        by_cases c5 : 0 ≤ v4 ∧ v4 < (17400 : Int)
        case neg => replace hf := (if_neg c5).symm.trans hf; cases hf
        replace hf := (if_pos c5).symm.trans hf
        refine ok_iald (i := v4) (id := 108) (n := 17400) (L := [some (.inr (.inr (.inl 63))), some (.inl w1), some (.inl w2), some (.inl v3), some (.inl v4)]) (S := [.inl (V 108 v4.toNat), .inl v3]) (M := mm V h) rfl rfl rfl c5.1 c5.2 ?_
        by_cases c6 : 0 ≤ v4 ∧ v4 < (17400 : Int)
        case neg => replace hf := (if_neg c6).symm.trans hf; cases hf
        replace hf := (if_pos c6).symm.trans hf
        refine ok_iald (i := v4) (id := 100) (n := 17400) (L := [some (.inr (.inr (.inl 63))), some (.inl w1), some (.inl w2), some (.inl v3), some (.inl v4)]) (S := [.inl (V 108 v4.toNat), .inl (V 108 v4.toNat), .inl v3]) (M := mm V h) rfl rfl rfl c6.1 c6.2 ?_
        refine ok_callA (L := [some (.inr (.inr (.inl 63))), some (.inl w1), some (.inl w2), some (.inl v3), some (.inl v4)]) (M := mm V h) (args := [.inl v3, .inl (V 108 v4.toNat), .inl (w32 ((w32 ((V 108 v4.toNat) + (V 100 v4.toNat))) - 1))]) (rest := []) (y2 := 152) rfl rfl rfl (Or.inr (Or.inl rfl)) rfl rfl (Nat.le_of_ble_eq_true rfl) rfl rfl (Nat.le_of_ble_eq_true rfl) (Nat.le_of_ble_eq_true rfl) (s_Mo_isIn rfl) ?_
        rintro _ _ ⟨rfl, rfl, hz7⟩
        refine ok_if_eq (x := f_Mo_isIn V v3 (V 108 v4.toNat) (w32 ((w32 ((V 108 v4.toNat) + (V 100 v4.toNat))) - 1))) (L := [some (.inr (.inr (.inl 63))), some (.inl w1), some (.inl w2), some (.inl v3), some (.inl v4)]) (S := []) (M := mm V h) rfl rfl (fun c8 => ?_) (fun c8 => ?_)
        ·
          replace hf := (if_pos c8).symm.trans hf
          exact s_Mo_tonne_15 hf ih
        ·
          replace hf := (if_neg c8).symm.trans hf
          obtain rfl := Option.some.inj hf
          refine ok_ireturn (L := [some (.inr (.inr (.inl 63))), some (.inl w1), some (.inl w2), some (.inl v3), some (.inl v4)]) (M := mm V h) (x := v4) rfl rfl ?_
          exact ⟨rfl, rfl⟩
theorem s_Mo_tonne_6 {X : Xs} {d : Nat} {h : HP} {V : VV} {v3 : Int} {v4 : Int} {w1 : Int} {w2 : Int} {n : Nat} {q : VV × Int} (hf : f_Mo_tonne_6 n V v3 v4 = some q) : Ok X (d + 7) 213 6 ([some (.inr (.inr (.inl 63))), some (.inl w1), some (.inl w2), some (.inl v3), some (.inl v4)], [], mm V h) (fun M r => M = mm q.1 h ∧ r = some (.inl q.2)) :=
  s_Mo_tonne_6_n n V v3 v4 w1 w2 hf
def f_Mo_tonne (V : VV) (v1 : Int) (v2 : Int) (v3 : Int) : Option (VV × Int) := Option.bind (f_Mo_isRun V v1 v2) (fun q1 => if q1.2 = 0 then some (q1.1, (-1)) else if (f_Mo_isIn q1.1 v3 0 (w32 ((q1.1 62 73) - 1))) = 0 then some (q1.1, (-1)) else f_Mo_tonne_6 FU q1.1 v3 0)
set_option maxRecDepth 20000 in
set_option maxHeartbeats 4000000 in
theorem s_Mo_tonne {X : Xs} {d : Nat} {V : VV} {h : HP} {v1 : Int} {v2 : Int} {v3 : Int} {q : VV × Int} (hf : f_Mo_tonne V v1 v2 v3 = some q) : Ok X (d + 7) 213 0 ([some (.inr (.inr (.inl 63))), some (.inl v1), some (.inl v2), some (.inl v3), none], [], mm V h) (fun M r => M = mm q.1 h ∧ r = some (.inl q.2)) := by
  let QQ : Mm → Option AV → Prop := fun M r => M = mm q.1 h ∧ r = some (.inl q.2)
  show Ok X (d + 7) 213 0 ([some (.inr (.inr (.inl 63))), some (.inl v1), some (.inl v2), some (.inl v3), none], [], mm V h) QQ
  obtain ⟨q1, e1, hf⟩ := obind hf
  refine ok_callA (L := [some (.inr (.inr (.inl 63))), some (.inl v1), some (.inl v2), some (.inl v3), none]) (M := mm V h) (args := [.inr (.inr (.inl 63)), .inl v1, .inl v2]) (rest := []) (y2 := 193) rfl rfl rfl (Or.inl rfl) rfl rfl (Nat.le_of_ble_eq_true rfl) rfl rfl (Nat.le_of_ble_eq_true rfl) (Nat.le_of_ble_eq_true rfl) (s_Mo_isRun e1) ?_
  rintro _ _ ⟨rfl, rfl, hz1⟩
  refine ok_if_eq (x := q1.2) (L := [some (.inr (.inr (.inl 63))), some (.inl v1), some (.inl v2), some (.inl v3), none]) (S := []) (M := mm q1.1 h) rfl rfl (fun c2 => ?_) (fun c2 => ?_)
  ·
    replace hf := (if_pos c2).symm.trans hf
    obtain rfl := Option.some.inj hf
    refine ok_ireturn (L := [some (.inr (.inr (.inl 63))), some (.inl v1), some (.inl v2), some (.inl v3), none]) (M := mm q1.1 h) (x := (-1)) rfl rfl ?_
    exact ⟨rfl, rfl⟩
  ·
    replace hf := (if_neg c2).symm.trans hf
    refine ok_callA (L := [some (.inr (.inr (.inl 63))), some (.inl v1), some (.inl v2), some (.inl v3), none]) (M := mm q1.1 h) (args := [.inl v3, .inl 0, .inl (w32 ((q1.1 62 73) - 1))]) (rest := []) (y2 := 152) rfl rfl rfl (Or.inr (Or.inl rfl)) rfl rfl (Nat.le_of_ble_eq_true rfl) rfl rfl (Nat.le_of_ble_eq_true rfl) (Nat.le_of_ble_eq_true rfl) (s_Mo_isIn rfl) ?_
    rintro _ _ ⟨rfl, rfl, hz3⟩
    refine ok_if_ne (x := f_Mo_isIn q1.1 v3 0 (w32 ((q1.1 62 73) - 1))) (L := [some (.inr (.inr (.inl 63))), some (.inl v1), some (.inl v2), some (.inl v3), none]) (S := []) (M := mm q1.1 h) rfl rfl (fun c4 => ?_) (fun c4 => ?_)
    ·
      replace hf := (if_neg c4).symm.trans hf
      refine ok_thru (L := [some (.inr (.inr (.inl 63))), some (.inl v1), some (.inl v2), some (.inl v3), some (.inl 0)]) (S := []) (M := mm q1.1 h) rfl rfl ?_
      exact s_Mo_tonne_6 hf
    ·
      replace hf := (if_pos c4).symm.trans hf
      obtain rfl := Option.some.inj hf
      refine ok_ireturn (L := [some (.inr (.inr (.inl 63))), some (.inl v1), some (.inl v2), some (.inl v3), none]) (M := mm q1.1 h) (x := (-1)) rfl rfl ?_
      exact ⟨rfl, rfl⟩
def f_Mo_mean_8 (V : VV)  : Option (VV × Int) := some (V, (-1000))
set_option maxRecDepth 20000 in
set_option maxHeartbeats 4000000 in
theorem s_Mo_mean_8 {X : Xs} {d : Nat} {V : VV} {h : HP} {w1 : Int} {w2 : Int} {w3 : Int} {w4 : Int} {q : VV × Int} (hf : f_Mo_mean_8 V = some q) : Ok X (d + 7) 214 8 ([some (.inr (.inr (.inl 63))), some (.inl w1), some (.inl w2), some (.inl w3), some (.inl w4)], [], mm V h) (fun M r => M = mm q.1 h ∧ r = some (.inl q.2)) := by
  let QQ : Mm → Option AV → Prop := fun M r => M = mm q.1 h ∧ r = some (.inl q.2)
  show Ok X (d + 7) 214 8 ([some (.inr (.inr (.inl 63))), some (.inl w1), some (.inl w2), some (.inl w3), some (.inl w4)], [], mm V h) QQ
  refine ok_thru (L := [some (.inr (.inr (.inl 63))), some (.inl w1), some (.inl w2), some (.inl w3), some (.inl w4)]) (S := [.inl (-1000)]) (M := mm V h) rfl rfl ?_
  obtain rfl := Option.some.inj hf
  refine ok_ireturn (L := [some (.inr (.inr (.inl 63))), some (.inl w1), some (.inl w2), some (.inl w3), some (.inl w4)]) (M := mm V h) (x := (-1000)) rfl rfl ?_
  exact ⟨rfl, rfl⟩
def f_Mo_mean (V : VV) (v1 : Int) (v2 : Int) (v3 : Int) (v4 : Int) : Option (VV × Int) := if (f_Mo_isIn V v4 0 600) = 0 then f_Mo_mean_8 V else Option.bind (f_Mo_isRun V v1 v2) (fun q3 => if q3.2 = 0 then f_Mo_mean_8 q3.1 else if (f_Mo_isIn q3.1 v3 0 (w32 ((q3.1 62 13) - 1))) = 0 then f_Mo_mean_8 q3.1 else Option.bind (f_Mo_meanOf q3.1 v3 v4) (fun q7 => some (q3.1, q7)))
set_option maxRecDepth 20000 in
set_option maxHeartbeats 4000000 in
theorem s_Mo_mean {X : Xs} {d : Nat} {V : VV} {h : HP} {v1 : Int} {v2 : Int} {v3 : Int} {v4 : Int} {q : VV × Int} (hf : f_Mo_mean V v1 v2 v3 v4 = some q) : Ok X (d + 7) 214 0 ([some (.inr (.inr (.inl 63))), some (.inl v1), some (.inl v2), some (.inl v3), some (.inl v4)], [], mm V h) (fun M r => M = mm q.1 h ∧ r = some (.inl q.2)) := by
  let QQ : Mm → Option AV → Prop := fun M r => M = mm q.1 h ∧ r = some (.inl q.2)
  show Ok X (d + 7) 214 0 ([some (.inr (.inr (.inl 63))), some (.inl v1), some (.inl v2), some (.inl v3), some (.inl v4)], [], mm V h) QQ
  refine ok_callA (L := [some (.inr (.inr (.inl 63))), some (.inl v1), some (.inl v2), some (.inl v3), some (.inl v4)]) (M := mm V h) (args := [.inl v4, .inl 0, .inl 600]) (rest := []) (y2 := 152) rfl rfl rfl (Or.inr (Or.inl rfl)) rfl rfl (Nat.le_of_ble_eq_true rfl) rfl rfl (Nat.le_of_ble_eq_true rfl) (Nat.le_of_ble_eq_true rfl) (s_Mo_isIn rfl) ?_
  rintro _ _ ⟨rfl, rfl, hz1⟩
  refine ok_if_eq (x := f_Mo_isIn V v4 0 600) (L := [some (.inr (.inr (.inl 63))), some (.inl v1), some (.inl v2), some (.inl v3), some (.inl v4)]) (S := []) (M := mm V h) rfl rfl (fun c2 => ?_) (fun c2 => ?_)
  ·
    replace hf := (if_pos c2).symm.trans hf
    exact s_Mo_mean_8 hf
  ·
    replace hf := (if_neg c2).symm.trans hf
    obtain ⟨q3, e3, hf⟩ := obind hf
    refine ok_callA (L := [some (.inr (.inr (.inl 63))), some (.inl v1), some (.inl v2), some (.inl v3), some (.inl v4)]) (M := mm V h) (args := [.inr (.inr (.inl 63)), .inl v1, .inl v2]) (rest := []) (y2 := 193) rfl rfl rfl (Or.inl rfl) rfl rfl (Nat.le_of_ble_eq_true rfl) rfl rfl (Nat.le_of_ble_eq_true rfl) (Nat.le_of_ble_eq_true rfl) (s_Mo_isRun e3) ?_
    rintro _ _ ⟨rfl, rfl, hz3⟩
    refine ok_if_eq (x := q3.2) (L := [some (.inr (.inr (.inl 63))), some (.inl v1), some (.inl v2), some (.inl v3), some (.inl v4)]) (S := []) (M := mm q3.1 h) rfl rfl (fun c4 => ?_) (fun c4 => ?_)
    ·
      replace hf := (if_pos c4).symm.trans hf
      exact s_Mo_mean_8 hf
    ·
      replace hf := (if_neg c4).symm.trans hf
      refine ok_callA (L := [some (.inr (.inr (.inl 63))), some (.inl v1), some (.inl v2), some (.inl v3), some (.inl v4)]) (M := mm q3.1 h) (args := [.inl v3, .inl 0, .inl (w32 ((q3.1 62 13) - 1))]) (rest := []) (y2 := 152) rfl rfl rfl (Or.inr (Or.inl rfl)) rfl rfl (Nat.le_of_ble_eq_true rfl) rfl rfl (Nat.le_of_ble_eq_true rfl) (Nat.le_of_ble_eq_true rfl) (s_Mo_isIn rfl) ?_
      rintro _ _ ⟨rfl, rfl, hz5⟩
      refine ok_if_eq (x := f_Mo_isIn q3.1 v3 0 (w32 ((q3.1 62 13) - 1))) (L := [some (.inr (.inr (.inl 63))), some (.inl v1), some (.inl v2), some (.inl v3), some (.inl v4)]) (S := []) (M := mm q3.1 h) rfl rfl (fun c6 => ?_) (fun c6 => ?_)
      ·
        replace hf := (if_pos c6).symm.trans hf
        exact s_Mo_mean_8 hf
      ·
        replace hf := (if_neg c6).symm.trans hf
        obtain ⟨q7, e7, hf⟩ := obind hf
        refine ok_callA (L := [some (.inr (.inr (.inl 63))), some (.inl v1), some (.inl v2), some (.inl v3), some (.inl v4)]) (M := mm q3.1 h) (args := [.inr (.inr (.inl 63)), .inl v3, .inl v4]) (rest := []) (y2 := 205) rfl rfl rfl (Or.inl rfl) rfl rfl (Nat.le_of_ble_eq_true rfl) rfl rfl (Nat.le_of_ble_eq_true rfl) (Nat.le_of_ble_eq_true rfl) (s_Mo_meanOf e7) ?_
        rintro _ _ ⟨rfl, rfl⟩
        refine ok_goto (L := [some (.inr (.inr (.inl 63))), some (.inl v1), some (.inl v2), some (.inl v3), some (.inl v4)]) (S := [.inl q7]) (M := mm q3.1 h) rfl rfl ?_
        obtain rfl := Option.some.inj hf
        refine ok_ireturn (L := [some (.inr (.inr (.inl 63))), some (.inl v1), some (.inl v2), some (.inl v3), some (.inl v4)]) (M := mm q3.1 h) (x := q7) rfl rfl ?_
        exact ⟨rfl, rfl⟩
def f_Mo_settle_9 (k1 : VV → Int → Int → (Option (VV))) (V : VV) (v1 : Int) (v2 : Int) : Option (VV) := k1 V v1 (w32 (v2 + 1))
set_option maxRecDepth 20000 in
set_option maxHeartbeats 4000000 in
theorem s_Mo_settle_9 {X : Xs} {d : Nat} {k1 : VV → Int → Int → (Option (VV))} {V : VV} {h : HP} {v1 : Int} {v2 : Int} {q : VV} (hf : f_Mo_settle_9 k1 V v1 v2 = some q) (K1 : ∀ (V : VV) (v1 : Int) (v2 : Int), k1 V v1 v2 = some q → Ok X (d + 1) 217 1 ([some (.inr (.inr (.inl 63))), some (.inl v1), some (.inl v2)], [], mm V h) (fun M r => M = mm q h ∧ r = none)) : Ok X (d + 1) 217 9 ([some (.inr (.inr (.inl 63))), some (.inl v1), some (.inl v2)], [], mm V h) (fun M r => M = mm q h ∧ r = none) := by
  let QQ : Mm → Option AV → Prop := fun M r => M = mm q h ∧ r = none
  show Ok X (d + 1) 217 9 ([some (.inr (.inr (.inl 63))), some (.inl v1), some (.inl v2)], [], mm V h) QQ
  refine ok_goto (L := [some (.inr (.inr (.inl 63))), some (.inl v1), some (.inl (w32 (v2 + 1)))]) (S := []) (M := mm V h) rfl rfl ?_
  exact K1 V v1 (w32 (v2 + 1)) hf
def f_Mo_settle_1 : Nat → VV → Int → Int → (Option (VV))
  | 0, _, _, _ => none
  | n + 1, V, v1, v2 => if v2 < (V 62 13) then if 0 ≤ v2 ∧ v2 < (36 : Int) then if (V 114 v2.toNat) = v1 then if 0 ≤ v2 ∧ v2 < (36 : Int) then if 0 ≤ (w32 ((w32 (3 * v2)) + (V 115 v2.toNat))) ∧ (w32 ((w32 (3 * v2)) + (V 115 v2.toNat))) < (108 : Int) then if 0 ≤ (w32 ((w32 (3 * v2)) + (V 115 v2.toNat))) ∧ (w32 ((w32 (3 * v2)) + (V 115 v2.toNat))) < (108 : Int) then if 0 ≤ v2 ∧ v2 < (36 : Int) then f_Mo_settle_9 (f_Mo_settle_1 n) (up (up V 113 ((w32 ((w32 (3 * v2)) + (V 115 v2.toNat))).toNat) (w32 ((V 113 ((w32 ((w32 (3 * v2)) + (V 115 v2.toNat))).toNat)) + 1))) 114 v2.toNat (-1)) v1 v2 else none else none else none else none else f_Mo_settle_9 (f_Mo_settle_1 n) V v1 v2 else none else some V
set_option maxRecDepth 20000 in
set_option maxHeartbeats 4000000 in
theorem s_Mo_settle_1_n {X : Xs} {d : Nat} {h : HP} {q : VV} : ∀ (n : Nat) (V : VV) (v1 : Int) (v2 : Int), f_Mo_settle_1 n V v1 v2 = some q → Ok X (d + 1) 217 1 ([some (.inr (.inr (.inl 63))), some (.inl v1), some (.inl v2)], [], mm V h) (fun M r => M = mm q h ∧ r = none) := by
  intro n
  induction n with
  | zero => intro V v1 v2 hf; cases hf
  | succ n ih =>
    intro V v1 v2 hf
    let QQ : Mm → Option AV → Prop := fun M r => M = mm q h ∧ r = none
    show Ok X (d + 1) 217 1 ([some (.inr (.inr (.inl 63))), some (.inl v1), some (.inl v2)], [], mm V h) QQ
    refine ok_ic_ge (x := v2) (u := V 62 13) (L := [some (.inr (.inr (.inl 63))), some (.inl v1), some (.inl v2)]) (S := []) (M := mm V h) rfl rfl (fun c1 => ?_) (fun c1 => ?_)
    ·
      replace hf := (if_neg (Int.not_lt.mpr c1)).symm.trans hf
      obtain rfl := Option.some.inj hf
      refine ok_return (L := [some (.inr (.inr (.inl 63))), some (.inl v1), some (.inl v2)]) (M := mm V h) rfl rfl ?_
      exact ⟨rfl, rfl⟩
    ·
      replace hf := (if_pos c1).symm.trans hf
      by_cases c2 : 0 ≤ v2 ∧ v2 < (36 : Int)
      case neg => replace hf := (if_neg c2).symm.trans hf; cases hf
      replace hf := (if_pos c2).symm.trans hf
      refine ok_iald (i := v2) (id := 114) (n := 36) (L := [some (.inr (.inr (.inl 63))), some (.inl v1), some (.inl v2)]) (S := []) (M := mm V h) rfl rfl rfl c2.1 c2.2 ?_
      refine ok_ic_eq (x := V 114 v2.toNat) (u := v1) (L := [some (.inr (.inr (.inl 63))), some (.inl v1), some (.inl v2)]) (S := []) (M := mm V h) rfl rfl (fun c3 => ?_) (fun c3 => ?_)
      ·
        replace hf := (if_pos c3).symm.trans hf
        by_cases c4 : 0 ≤ v2 ∧ v2 < (36 : Int)
        case neg => replace hf := (if_neg c4).symm.trans hf; cases hf
        replace hf := (if_pos c4).symm.trans hf
        refine ok_iald (i := v2) (id := 115) (n := 36) (L := [some (.inr (.inr (.inl 63))), some (.inl v1), some (.inl v2)]) (S := [.inl (w32 (3 * v2)), .inr (.inr (.inl 114))]) (M := mm V h) rfl rfl rfl c4.1 c4.2 ?_
        by_cases c5 : 0 ≤ (w32 ((w32 (3 * v2)) + (V 115 v2.toNat))) ∧ (w32 ((w32 (3 * v2)) + (V 115 v2.toNat))) < (108 : Int)
        case neg => replace hf := (if_neg c5).symm.trans hf; cases hf
        replace hf := (if_pos c5).symm.trans hf
        refine ok_iald (i := w32 ((w32 (3 * v2)) + (V 115 v2.toNat))) (id := 113) (n := 108) (L := [some (.inr (.inr (.inl 63))), some (.inl v1), some (.inl v2)]) (S := [.inl (w32 ((w32 (3 * v2)) + (V 115 v2.toNat))), .inr (.inr (.inl 114))]) (M := mm V h) rfl rfl rfl c5.1 c5.2 ?_
        by_cases c6 : 0 ≤ (w32 ((w32 (3 * v2)) + (V 115 v2.toNat))) ∧ (w32 ((w32 (3 * v2)) + (V 115 v2.toNat))) < (108 : Int)
        case neg => replace hf := (if_neg c6).symm.trans hf; cases hf
        replace hf := (if_pos c6).symm.trans hf
        refine ok_iast (i := w32 ((w32 (3 * v2)) + (V 115 v2.toNat))) (v := w32 ((V 113 ((w32 ((w32 (3 * v2)) + (V 115 v2.toNat))).toNat)) + 1)) (id := 113) (n := 108) (L := [some (.inr (.inr (.inl 63))), some (.inl v1), some (.inl v2)]) (S := []) (M := mm V h) rfl rfl rfl c6.1 c6.2 ?_
        by_cases c7 : 0 ≤ v2 ∧ v2 < (36 : Int)
        case neg => replace hf := (if_neg c7).symm.trans hf; cases hf
        replace hf := (if_pos c7).symm.trans hf
        refine ok_iast (i := v2) (v := (-1)) (id := 114) (n := 36) (L := [some (.inr (.inr (.inl 63))), some (.inl v1), some (.inl v2)]) (S := []) (M := mm (up V 113 ((w32 ((w32 (3 * v2)) + (V 115 v2.toNat))).toNat) (w32 ((V 113 ((w32 ((w32 (3 * v2)) + (V 115 v2.toNat))).toNat)) + 1))) h) rfl rfl rfl c7.1 c7.2 ?_
        exact s_Mo_settle_9 hf ih
      ·
        replace hf := (if_neg c3).symm.trans hf
        refine ok_goto (L := [some (.inr (.inr (.inl 63))), some (.inl v1), some (.inl v2)]) (S := []) (M := mm V h) rfl rfl ?_
        exact s_Mo_settle_9 hf ih
theorem s_Mo_settle_1 {X : Xs} {d : Nat} {h : HP} {V : VV} {v1 : Int} {v2 : Int} {n : Nat} {q : VV} (hf : f_Mo_settle_1 n V v1 v2 = some q) : Ok X (d + 1) 217 1 ([some (.inr (.inr (.inl 63))), some (.inl v1), some (.inl v2)], [], mm V h) (fun M r => M = mm q h ∧ r = none) :=
  s_Mo_settle_1_n n V v1 v2 hf
def f_Mo_settle (V : VV) (v1 : Int) : Option (VV) := f_Mo_settle_1 FU V v1 0
set_option maxRecDepth 20000 in
set_option maxHeartbeats 4000000 in
theorem s_Mo_settle {X : Xs} {d : Nat} {V : VV} {h : HP} {v1 : Int} {q : VV} (hf : f_Mo_settle V v1 = some q) : Ok X (d + 1) 217 0 ([some (.inr (.inr (.inl 63))), some (.inl v1), none], [], mm V h) (fun M r => M = mm q h ∧ r = none) := by
  let QQ : Mm → Option AV → Prop := fun M r => M = mm q h ∧ r = none
  show Ok X (d + 1) 217 0 ([some (.inr (.inr (.inl 63))), some (.inl v1), none], [], mm V h) QQ
  refine ok_thru (L := [some (.inr (.inr (.inl 63))), some (.inl v1), some (.inl 0)]) (S := []) (M := mm V h) rfl rfl ?_
  exact s_Mo_settle_1 hf
