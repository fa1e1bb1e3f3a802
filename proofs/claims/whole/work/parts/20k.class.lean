/-! shallow functions of the program (printed by wip/tools/gen20.py) -/
def f_Br_isTold (V : VV) (v0 : Int) : Int := isFromV v0 (-1000000) 1000000
set_option maxRecDepth 20000 in
set_option maxHeartbeats 4000000 in
theorem s_Br_isTold {X : Xs} {d : Nat} {V : VV} {h : HP} {v0 : Int} {q : Int} (hf : f_Br_isTold V v0 = q) : Ok X (d + 2) 143 0 ([some (.inl v0)], [], mm V h) (fun M r => M = mm V h ∧ r = some (.inl q) ∧ (q = 0 ∨ q = 1)) := by
  let QQ : Mm → Option AV → Prop := fun M r => M = mm V h ∧ r = some (.inl q) ∧ (q = 0 ∨ q = 1)
  show Ok X (d + 2) 143 0 ([some (.inl v0)], [], mm V h) QQ
  refine ok_callA (L := [some (.inl v0)]) (M := mm V h) (args := [.inl v0, .inl (-1000000), .inl 1000000]) (rest := []) (y2 := 16) rfl rfl rfl (Or.inr (Or.inl rfl)) rfl rfl (Nat.le_of_ble_eq_true rfl) rfl rfl (Nat.le_of_ble_eq_true rfl) (Nat.le_of_ble_eq_true rfl) (w_isFrom rfl) ?_
  rintro _ _ ⟨rfl, rfl, hz1⟩
  have hq : (isFromV v0 (-1000000) 1000000) = q := hf
  subst hq
  have hz : (isFromV v0 (-1000000) 1000000 : Int) = 0 ∨ (isFromV v0 (-1000000) 1000000 : Int) = 1 := by
    first | exact Or.inl rfl | exact Or.inr rfl | assumption | (repeat' split) <;> first | exact Or.inl rfl | exact Or.inr rfl | assumption
  refine ok_zreturn (L := [some (.inl v0)]) (M := mm V h) (x := isFromV v0 (-1000000) 1000000) rfl rfl hz ?_
  exact ⟨rfl, rfl, hz⟩
def f_Br_draw_6 : Nat → VV → Int → Int → Int → Int → (Option (VV))
  | 0, _, _, _, _, _ => none
  | n + 1, V, v1, v3, v4, v5 => if v5 < v1 then if v5 < v3 then if (max 1 (w32 (v3 - v5))) = 0 then none else lt_ (setV V 58 36 v5 (atV V 58 36 (w32 (v5 + (Int.tmod (iushrI (w32 ((w32 (v4 * 1103515245)) + 12345)) 16) (max 1 (w32 (v3 - v5)))))))) (fun q6 => lt_ (setV q6 58 36 (w32 (v5 + (Int.tmod (iushrI (w32 ((w32 (v4 * 1103515245)) + 12345)) 16) (max 1 (w32 (v3 - v5)))))) (atV V 58 36 v5)) (fun q7 => f_Br_draw_6 n q7 v1 v3 (w32 ((w32 (v4 * 1103515245)) + 12345)) (w32 (v5 + 1)))) else some V else some V
set_option maxRecDepth 20000 in
set_option maxHeartbeats 4000000 in
theorem s_Br_draw_6_n {X : Xs} {d : Nat} {h : HP} {q : VV} : ∀ (n : Nat) (V : VV) (v1 : Int) (v3 : Int) (v4 : Int) (v5 : Int) (w2 : Int) (z6 : Option AV) (z7 : Option AV), f_Br_draw_6 n V v1 v3 v4 v5 = some q → Ok X (d + 2) 146 6 ([some (.inr (.inr (.inl 1))), some (.inl v1), some (.inl w2), some (.inl v3), some (.inl v4), some (.inl v5), z6, z7], [], mm V h) (fun M r => M = mm q h ∧ r = none) := by
  intro n
  induction n with
  | zero => intro V v1 v3 v4 v5 w2 z6 z7 hf; cases hf
  | succ n ih =>
    intro V v1 v3 v4 v5 w2 z6 z7 hf
    let QQ : Mm → Option AV → Prop := fun M r => M = mm q h ∧ r = none
    show Ok X (d + 2) 146 6 ([some (.inr (.inr (.inl 1))), some (.inl v1), some (.inl w2), some (.inl v3), some (.inl v4), some (.inl v5), z6, z7], [], mm V h) QQ
    refine ok_ic_ge (x := v5) (u := v1) (L := [some (.inr (.inr (.inl 1))), some (.inl v1), some (.inl w2), some (.inl v3), some (.inl v4), some (.inl v5), z6, z7]) (S := []) (M := mm V h) rfl rfl (fun c1 => ?_) (fun c1 => ?_)
    ·
      replace hf := (if_neg (Int.not_lt.mpr c1)).symm.trans hf
      obtain rfl := Option.some.inj hf
      refine ok_return (L := [some (.inr (.inr (.inl 1))), some (.inl v1), some (.inl w2), some (.inl v3), some (.inl v4), some (.inl v5), z6, z7]) (M := mm V h) rfl rfl ?_
      exact ⟨rfl, rfl⟩
    ·
      replace hf := (if_pos c1).symm.trans hf
      refine ok_ic_ge (x := v5) (u := v3) (L := [some (.inr (.inr (.inl 1))), some (.inl v1), some (.inl w2), some (.inl v3), some (.inl v4), some (.inl v5), z6, z7]) (S := []) (M := mm V h) rfl rfl (fun c2 => ?_) (fun c2 => ?_)
      ·
        replace hf := (if_neg (Int.not_lt.mpr c2)).symm.trans hf
        obtain rfl := Option.some.inj hf
        refine ok_return (L := [some (.inr (.inr (.inl 1))), some (.inl v1), some (.inl w2), some (.inl v3), some (.inl v4), some (.inl v5), z6, z7]) (M := mm V h) rfl rfl ?_
        exact ⟨rfl, rfl⟩
      ·
        replace hf := (if_pos c2).symm.trans hf
        refine ok_mmax (u := 1) (v := w32 (v3 - v5)) (L := [some (.inr (.inr (.inl 1))), some (.inl v1), some (.inl w2), some (.inl v3), some (.inl (w32 ((w32 (v4 * 1103515245)) + 12345))), some (.inl v5), z6, z7]) (S := [.inl (iushrI (w32 ((w32 (v4 * 1103515245)) + 12345)) 16), .inl v5]) (M := mm V h) rfl rfl rfl (Nat.le_of_ble_eq_true rfl) ?_
        by_cases c3 : (max 1 (w32 (v3 - v5))) = 0
        case pos => replace hf := (if_pos c3).symm.trans hf; cases hf
        replace hf := (if_neg c3).symm.trans hf
        refine ok_irem (u := iushrI (w32 ((w32 (v4 * 1103515245)) + 12345)) 16) (v := max 1 (w32 (v3 - v5))) (L := [some (.inr (.inr (.inl 1))), some (.inl v1), some (.inl w2), some (.inl v3), some (.inl (w32 ((w32 (v4 * 1103515245)) + 12345))), some (.inl v5), z6, z7]) (S := [.inl v5]) (M := mm V h) rfl rfl c3 ?_
        refine ok_callA (L := [some (.inr (.inr (.inl 1))), some (.inl v1), some (.inl w2), some (.inl v3), some (.inl (w32 ((w32 (v4 * 1103515245)) + 12345))), some (.inl v5), some (.inl (w32 (v5 + (Int.tmod (iushrI (w32 ((w32 (v4 * 1103515245)) + 12345)) 16) (max 1 (w32 (v3 - v5))))))), z7]) (M := mm V h) (args := [.inr (.inr (.inl 59)), .inl v5]) (rest := []) (y2 := 21) rfl rfl rfl (Or.inr (Or.inl rfl)) rfl rfl (Nat.le_of_ble_eq_true rfl) rfl rfl (Nat.le_of_ble_eq_true rfl) (Nat.le_of_ble_eq_true rfl) (w_at rfl rfl) ?_
        rintro _ _ ⟨rfl, rfl⟩
        refine ok_callA (L := [some (.inr (.inr (.inl 1))), some (.inl v1), some (.inl w2), some (.inl v3), some (.inl (w32 ((w32 (v4 * 1103515245)) + 12345))), some (.inl v5), some (.inl (w32 (v5 + (Int.tmod (iushrI (w32 ((w32 (v4 * 1103515245)) + 12345)) 16) (max 1 (w32 (v3 - v5))))))), some (.inl (atV V 58 36 v5))]) (M := mm V h) (args := [.inr (.inr (.inl 59)), .inl (w32 (v5 + (Int.tmod (iushrI (w32 ((w32 (v4 * 1103515245)) + 12345)) 16) (max 1 (w32 (v3 - v5))))))]) (rest := [.inl v5, .inr (.inr (.inl 59))]) (y2 := 21) rfl rfl rfl (Or.inr (Or.inl rfl)) rfl rfl (Nat.le_of_ble_eq_true rfl) rfl rfl (Nat.le_of_ble_eq_true rfl) (Nat.le_of_ble_eq_true rfl) (w_at rfl rfl) ?_
        rintro _ _ ⟨rfl, rfl⟩
        obtain ⟨q6, e6, hf⟩ := lt_x hf
        refine ok_callA (L := [some (.inr (.inr (.inl 1))), some (.inl v1), some (.inl w2), some (.inl v3), some (.inl (w32 ((w32 (v4 * 1103515245)) + 12345))), some (.inl v5), some (.inl (w32 (v5 + (Int.tmod (iushrI (w32 ((w32 (v4 * 1103515245)) + 12345)) 16) (max 1 (w32 (v3 - v5))))))), some (.inl (atV V 58 36 v5))]) (M := mm V h) (args := [.inr (.inr (.inl 59)), .inl v5, .inl (atV V 58 36 (w32 (v5 + (Int.tmod (iushrI (w32 ((w32 (v4 * 1103515245)) + 12345)) 16) (max 1 (w32 (v3 - v5)))))))]) (rest := []) (y2 := 9) rfl rfl rfl (Or.inr (Or.inl rfl)) rfl rfl (Nat.le_of_ble_eq_true rfl) rfl rfl (Nat.le_of_ble_eq_true rfl) (Nat.le_of_ble_eq_true rfl) (w_set rfl e6) ?_
        rintro _ _ ⟨rfl, rfl⟩
        obtain ⟨q7, e7, hf⟩ := lt_x hf
        refine ok_callA (L := [some (.inr (.inr (.inl 1))), some (.inl v1), some (.inl w2), some (.inl v3), some (.inl (w32 ((w32 (v4 * 1103515245)) + 12345))), some (.inl v5), some (.inl (w32 (v5 + (Int.tmod (iushrI (w32 ((w32 (v4 * 1103515245)) + 12345)) 16) (max 1 (w32 (v3 - v5))))))), some (.inl (atV V 58 36 v5))]) (M := mm q6 h) (args := [.inr (.inr (.inl 59)), .inl (w32 (v5 + (Int.tmod (iushrI (w32 ((w32 (v4 * 1103515245)) + 12345)) 16) (max 1 (w32 (v3 - v5)))))), .inl (atV V 58 36 v5)]) (rest := []) (y2 := 9) rfl rfl rfl (Or.inr (Or.inl rfl)) rfl rfl (Nat.le_of_ble_eq_true rfl) rfl rfl (Nat.le_of_ble_eq_true rfl) (Nat.le_of_ble_eq_true rfl) (w_set rfl e7) ?_
        rintro _ _ ⟨rfl, rfl⟩
        refine ok_goto (L := [some (.inr (.inr (.inl 1))), some (.inl v1), some (.inl w2), some (.inl v3), some (.inl (w32 ((w32 (v4 * 1103515245)) + 12345))), some (.inl (w32 (v5 + 1))), some (.inl (w32 (v5 + (Int.tmod (iushrI (w32 ((w32 (v4 * 1103515245)) + 12345)) 16) (max 1 (w32 (v3 - v5))))))), some (.inl (atV V 58 36 v5))]) (S := []) (M := mm q7 h) rfl rfl ?_
        exact ih q7 v1 v3 (w32 ((w32 (v4 * 1103515245)) + 12345)) (w32 (v5 + 1)) w2 (some (.inl (w32 (v5 + (Int.tmod (iushrI (w32 ((w32 (v4 * 1103515245)) + 12345)) 16) (max 1 (w32 (v3 - v5)))))))) (some (.inl (atV V 58 36 v5))) hf
theorem s_Br_draw_6 {X : Xs} {d : Nat} {h : HP} {V : VV} {v1 : Int} {v3 : Int} {v4 : Int} {v5 : Int} {w2 : Int} {z6 : Option AV} {z7 : Option AV} {n : Nat} {q : VV} (hf : f_Br_draw_6 n V v1 v3 v4 v5 = some q) : Ok X (d + 2) 146 6 ([some (.inr (.inr (.inl 1))), some (.inl v1), some (.inl w2), some (.inl v3), some (.inl v4), some (.inl v5), z6, z7], [], mm V h) (fun M r => M = mm q h ∧ r = none) :=
  s_Br_draw_6_n n V v1 v3 v4 v5 w2 z6 z7 hf
def f_Br_draw_2 : Nat → VV → Int → Int → Int → Int → (Option (VV))
  | 0, _, _, _, _, _ => none
  | n + 1, V, v1, v2, v3, v4 => if v4 < v3 then lt_ (setV V 58 36 v4 v4) (fun q2 => f_Br_draw_2 n q2 v1 v2 v3 (w32 (v4 + 1))) else f_Br_draw_6 FU V v1 v3 v2 0
set_option maxRecDepth 20000 in
set_option maxHeartbeats 4000000 in
theorem s_Br_draw_2_n {X : Xs} {d : Nat} {h : HP} {q : VV} : ∀ (n : Nat) (V : VV) (v1 : Int) (v2 : Int) (v3 : Int) (v4 : Int) (z5 : Option AV) (z6 : Option AV) (z7 : Option AV), f_Br_draw_2 n V v1 v2 v3 v4 = some q → Ok X (d + 2) 146 2 ([some (.inr (.inr (.inl 1))), some (.inl v1), some (.inl v2), some (.inl v3), some (.inl v4), z5, z6, z7], [], mm V h) (fun M r => M = mm q h ∧ r = none) := by
  intro n
  induction n with
  | zero => intro V v1 v2 v3 v4 z5 z6 z7 hf; cases hf
  | succ n ih =>
    intro V v1 v2 v3 v4 z5 z6 z7 hf
    let QQ : Mm → Option AV → Prop := fun M r => M = mm q h ∧ r = none
    show Ok X (d + 2) 146 2 ([some (.inr (.inr (.inl 1))), some (.inl v1), some (.inl v2), some (.inl v3), some (.inl v4), z5, z6, z7], [], mm V h) QQ
    refine ok_ic_ge (x := v4) (u := v3) (L := [some (.inr (.inr (.inl 1))), some (.inl v1), some (.inl v2), some (.inl v3), some (.inl v4), z5, z6, z7]) (S := []) (M := mm V h) rfl rfl (fun c1 => ?_) (fun c1 => ?_)
    ·
      replace hf := (if_neg (Int.not_lt.mpr c1)).symm.trans hf
      refine ok_thru (L := [some (.inr (.inr (.inl 1))), some (.inl v1), some (.inl v2), some (.inl v3), some (.inl v2), some (.inl 0), z6, z7]) (S := []) (M := mm V h) rfl rfl ?_
      exact s_Br_draw_6 hf
    ·
      replace hf := (if_pos c1).symm.trans hf
      obtain ⟨q2, e2, hf⟩ := lt_x hf
      refine ok_callA (L := [some (.inr (.inr (.inl 1))), some (.inl v1), some (.inl v2), some (.inl v3), some (.inl v4), z5, z6, z7]) (M := mm V h) (args := [.inr (.inr (.inl 59)), .inl v4, .inl v4]) (rest := []) (y2 := 9) rfl rfl rfl (Or.inr (Or.inl rfl)) rfl rfl (Nat.le_of_ble_eq_true rfl) rfl rfl (Nat.le_of_ble_eq_true rfl) (Nat.le_of_ble_eq_true rfl) (w_set rfl e2) ?_
      rintro _ _ ⟨rfl, rfl⟩
      refine ok_goto (L := [some (.inr (.inr (.inl 1))), some (.inl v1), some (.inl v2), some (.inl v3), some (.inl (w32 (v4 + 1))), z5, z6, z7]) (S := []) (M := mm q2 h) rfl rfl ?_
      exact ih q2 v1 v2 v3 (w32 (v4 + 1)) z5 z6 z7 hf
theorem s_Br_draw_2 {X : Xs} {d : Nat} {h : HP} {V : VV} {v1 : Int} {v2 : Int} {v3 : Int} {v4 : Int} {z5 : Option AV} {z6 : Option AV} {z7 : Option AV} {n : Nat} {q : VV} (hf : f_Br_draw_2 n V v1 v2 v3 v4 = some q) : Ok X (d + 2) 146 2 ([some (.inr (.inr (.inl 1))), some (.inl v1), some (.inl v2), some (.inl v3), some (.inl v4), z5, z6, z7], [], mm V h) (fun M r => M = mm q h ∧ r = none) :=
  s_Br_draw_2_n n V v1 v2 v3 v4 z5 z6 z7 hf
def f_Br_draw (V : VV) (v1 : Int) (v2 : Int) : Option (VV) := f_Br_draw_2 FU V v1 v2 (f_Road_jobs V) 0
set_option maxRecDepth 20000 in
set_option maxHeartbeats 4000000 in
theorem s_Br_draw {X : Xs} {d : Nat} {V : VV} {h : HP} {v1 : Int} {v2 : Int} {q : VV} (hf : f_Br_draw V v1 v2 = some q) : Ok X (d + 2) 146 0 ([some (.inr (.inr (.inl 1))), some (.inl v1), some (.inl v2), none, none, none, none, none], [], mm V h) (fun M r => M = mm q h ∧ r = none) := by
  let QQ : Mm → Option AV → Prop := fun M r => M = mm q h ∧ r = none
  show Ok X (d + 2) 146 0 ([some (.inr (.inr (.inl 1))), some (.inl v1), some (.inl v2), none, none, none, none, none], [], mm V h) QQ
  refine ok_callA (L := [some (.inr (.inr (.inl 1))), some (.inl v1), some (.inl v2), none, none, none, none, none]) (M := mm V h) (args := [.inr (.inr (.inl 2))]) (rest := []) (y2 := 25) rfl rfl rfl (Or.inl rfl) rfl rfl (Nat.le_of_ble_eq_true rfl) rfl rfl (Nat.le_of_ble_eq_true rfl) (Nat.le_of_ble_eq_true rfl) (s_Road_jobs rfl) ?_
  rintro _ _ ⟨rfl, rfl⟩
  refine ok_thru (L := [some (.inr (.inr (.inl 1))), some (.inl v1), some (.inl v2), some (.inl (f_Road_jobs V)), some (.inl 0), none, none, none]) (S := []) (M := mm V h) rfl rfl ?_
  exact s_Br_draw_2 hf
def f_Br_core (V : VV) (v1 : Int) (v2 : Int) (v3 : Int) : Option (VV × Int) := if (isFromV v1 1 (f_Road_jobs V)) = 0 then some (V, (-1)) else if (isFromV v3 0 (w32 (v1 - 1))) = 0 then some (V, (-1)) else Option.bind (f_Br_draw V v1 v2) (fun q6 => some (q6, atV q6 58 36 v3))
set_option maxRecDepth 20000 in
set_option maxHeartbeats 4000000 in
theorem s_Br_core {X : Xs} {d : Nat} {V : VV} {h : HP} {v1 : Int} {v2 : Int} {v3 : Int} {q : VV × Int} (hf : f_Br_core V v1 v2 v3 = some q) : Ok X (d + 3) 147 0 ([some (.inr (.inr (.inl 1))), some (.inl v1), some (.inl v2), some (.inl v3)], [], mm V h) (fun M r => M = mm q.1 h ∧ r = some (.inl q.2)) := by
  let QQ : Mm → Option AV → Prop := fun M r => M = mm q.1 h ∧ r = some (.inl q.2)
  show Ok X (d + 3) 147 0 ([some (.inr (.inr (.inl 1))), some (.inl v1), some (.inl v2), some (.inl v3)], [], mm V h) QQ
  refine ok_callA (L := [some (.inr (.inr (.inl 1))), some (.inl v1), some (.inl v2), some (.inl v3)]) (M := mm V h) (args := [.inr (.inr (.inl 2))]) (rest := [.inl 1, .inl v1]) (y2 := 25) rfl rfl rfl (Or.inl rfl) rfl rfl (Nat.le_of_ble_eq_true rfl) rfl rfl (Nat.le_of_ble_eq_true rfl) (Nat.le_of_ble_eq_true rfl) (s_Road_jobs rfl) ?_
  rintro _ _ ⟨rfl, rfl⟩
  refine ok_callA (L := [some (.inr (.inr (.inl 1))), some (.inl v1), some (.inl v2), some (.inl v3)]) (M := mm V h) (args := [.inl v1, .inl 1, .inl (f_Road_jobs V)]) (rest := []) (y2 := 16) rfl rfl rfl (Or.inr (Or.inl rfl)) rfl rfl (Nat.le_of_ble_eq_true rfl) rfl rfl (Nat.le_of_ble_eq_true rfl) (Nat.le_of_ble_eq_true rfl) (w_isFrom rfl) ?_
  rintro _ _ ⟨rfl, rfl, hz2⟩
  refine ok_if_eq (x := isFromV v1 1 (f_Road_jobs V)) (L := [some (.inr (.inr (.inl 1))), some (.inl v1), some (.inl v2), some (.inl v3)]) (S := []) (M := mm V h) rfl rfl (fun c3 => ?_) (fun c3 => ?_)
  ·
    replace hf := (if_pos c3).symm.trans hf
    obtain rfl := Option.some.inj hf
    refine ok_ireturn (L := [some (.inr (.inr (.inl 1))), some (.inl v1), some (.inl v2), some (.inl v3)]) (M := mm V h) (x := (-1)) rfl rfl ?_
    exact ⟨rfl, rfl⟩
  ·
    replace hf := (if_neg c3).symm.trans hf
    refine ok_callA (L := [some (.inr (.inr (.inl 1))), some (.inl v1), some (.inl v2), some (.inl v3)]) (M := mm V h) (args := [.inl v3, .inl 0, .inl (w32 (v1 - 1))]) (rest := []) (y2 := 16) rfl rfl rfl (Or.inr (Or.inl rfl)) rfl rfl (Nat.le_of_ble_eq_true rfl) rfl rfl (Nat.le_of_ble_eq_true rfl) (Nat.le_of_ble_eq_true rfl) (w_isFrom rfl) ?_
    rintro _ _ ⟨rfl, rfl, hz4⟩
    refine ok_if_ne (x := isFromV v3 0 (w32 (v1 - 1))) (L := [some (.inr (.inr (.inl 1))), some (.inl v1), some (.inl v2), some (.inl v3)]) (S := []) (M := mm V h) rfl rfl (fun c5 => ?_) (fun c5 => ?_)
    ·
      replace hf := (if_neg c5).symm.trans hf
      obtain ⟨q6, e6, hf⟩ := obind hf
      refine ok_callA (L := [some (.inr (.inr (.inl 1))), some (.inl v1), some (.inl v2), some (.inl v3)]) (M := mm V h) (args := [.inr (.inr (.inl 1)), .inl v1, .inl v2]) (rest := []) (y2 := 146) rfl rfl rfl (Or.inl rfl) rfl rfl (Nat.le_of_ble_eq_true rfl) rfl rfl (Nat.le_of_ble_eq_true rfl) (Nat.le_of_ble_eq_true rfl) (s_Br_draw e6) ?_
      rintro _ _ ⟨rfl, rfl⟩
      refine ok_callA (L := [some (.inr (.inr (.inl 1))), some (.inl v1), some (.inl v2), some (.inl v3)]) (M := mm q6 h) (args := [.inr (.inr (.inl 59)), .inl v3]) (rest := []) (y2 := 21) rfl rfl rfl (Or.inr (Or.inl rfl)) rfl rfl (Nat.le_of_ble_eq_true rfl) rfl rfl (Nat.le_of_ble_eq_true rfl) (Nat.le_of_ble_eq_true rfl) (w_at rfl rfl) ?_
      rintro _ _ ⟨rfl, rfl⟩
      obtain rfl := Option.some.inj hf
      refine ok_ireturn (L := [some (.inr (.inr (.inl 1))), some (.inl v1), some (.inl v2), some (.inl v3)]) (M := mm q6 h) (x := atV q6 58 36 v3) rfl rfl ?_
      exact ⟨rfl, rfl⟩
    ·
      replace hf := (if_pos c5).symm.trans hf
      obtain rfl := Option.some.inj hf
      refine ok_ireturn (L := [some (.inr (.inr (.inl 1))), some (.inl v1), some (.inl v2), some (.inl v3)]) (M := mm V h) (x := (-1)) rfl rfl ?_
      exact ⟨rfl, rfl⟩
def f_Br_about (V : VV) (v1 : Int) : Option (Int) := if v1 = 0 then some (V 1 8) else if v1 = 1 then some (V 1 9) else if v1 = 2 then some (V 10 4) else if v1 = 3 then some (V 10 5) else if v1 = 4 then some (V 10 6) else if v1 = 5 then some (V 49 11) else if v1 = 6 then some (V 18 6) else if v1 = 7 then some (V 18 7) else if v1 = 8 then some (f_Road_jobs V) else if v1 = 9 then Option.bind (f_Road_allTonnes V) (fun q12 => some q12) else if v1 = 10 then some (V 16 1) else some (-1)
set_option maxRecDepth 20000 in
set_option maxHeartbeats 4000000 in
theorem s_Br_about {X : Xs} {d : Nat} {V : VV} {h : HP} {v1 : Int} {q : Int} (hf : f_Br_about V v1 = some q) : Ok X (d + 3) 148 0 ([some (.inr (.inr (.inl 1))), some (.inl v1)], [], mm V h) (fun M r => M = mm V h ∧ r = some (.inl q)) := by
  let QQ : Mm → Option AV → Prop := fun M r => M = mm V h ∧ r = some (.inl q)
  show Ok X (d + 3) 148 0 ([some (.inr (.inr (.inl 1))), some (.inl v1)], [], mm V h) QQ
  by_cases c1 : v1 = 0
  ·
    replace hf := (if_pos c1).symm.trans hf
    refine ok_sw (x := v1) (b1 := 1) (L := [some (.inr (.inr (.inl 1))), some (.inl v1)]) (S := []) (M := mm V h) rfl rfl (by rw [c1]; rfl) ?_
    obtain rfl := Option.some.inj hf
    refine ok_ireturn (L := [some (.inr (.inr (.inl 1))), some (.inl v1)]) (M := mm V h) (x := V 1 8) rfl rfl ?_
    exact ⟨rfl, rfl⟩
  replace hf := (if_neg c1).symm.trans hf
  by_cases c2 : v1 = 1
  ·
    replace hf := (if_pos c2).symm.trans hf
    refine ok_sw (x := v1) (b1 := 2) (L := [some (.inr (.inr (.inl 1))), some (.inl v1)]) (S := []) (M := mm V h) rfl rfl (by rw [c2]; rfl) ?_
    obtain rfl := Option.some.inj hf
    refine ok_ireturn (L := [some (.inr (.inr (.inl 1))), some (.inl v1)]) (M := mm V h) (x := V 1 9) rfl rfl ?_
    exact ⟨rfl, rfl⟩
  replace hf := (if_neg c2).symm.trans hf
  by_cases c3 : v1 = 2
  ·
    replace hf := (if_pos c3).symm.trans hf
    refine ok_sw (x := v1) (b1 := 3) (L := [some (.inr (.inr (.inl 1))), some (.inl v1)]) (S := []) (M := mm V h) rfl rfl (by rw [c3]; rfl) ?_
    obtain rfl := Option.some.inj hf
    refine ok_ireturn (L := [some (.inr (.inr (.inl 1))), some (.inl v1)]) (M := mm V h) (x := V 10 4) rfl rfl ?_
    exact ⟨rfl, rfl⟩
  replace hf := (if_neg c3).symm.trans hf
  by_cases c4 : v1 = 3
  ·
    replace hf := (if_pos c4).symm.trans hf
    refine ok_sw (x := v1) (b1 := 4) (L := [some (.inr (.inr (.inl 1))), some (.inl v1)]) (S := []) (M := mm V h) rfl rfl (by rw [c4]; rfl) ?_
    obtain rfl := Option.some.inj hf
    refine ok_ireturn (L := [some (.inr (.inr (.inl 1))), some (.inl v1)]) (M := mm V h) (x := V 10 5) rfl rfl ?_
    exact ⟨rfl, rfl⟩
  replace hf := (if_neg c4).symm.trans hf
  by_cases c5 : v1 = 4
  ·
    replace hf := (if_pos c5).symm.trans hf
    refine ok_sw (x := v1) (b1 := 5) (L := [some (.inr (.inr (.inl 1))), some (.inl v1)]) (S := []) (M := mm V h) rfl rfl (by rw [c5]; rfl) ?_
    obtain rfl := Option.some.inj hf
    refine ok_ireturn (L := [some (.inr (.inr (.inl 1))), some (.inl v1)]) (M := mm V h) (x := V 10 6) rfl rfl ?_
    exact ⟨rfl, rfl⟩
  replace hf := (if_neg c5).symm.trans hf
  by_cases c6 : v1 = 5
  ·
    replace hf := (if_pos c6).symm.trans hf
    refine ok_sw (x := v1) (b1 := 6) (L := [some (.inr (.inr (.inl 1))), some (.inl v1)]) (S := []) (M := mm V h) rfl rfl (by rw [c6]; rfl) ?_
    obtain rfl := Option.some.inj hf
    refine ok_ireturn (L := [some (.inr (.inr (.inl 1))), some (.inl v1)]) (M := mm V h) (x := V 49 11) rfl rfl ?_
    exact ⟨rfl, rfl⟩
  replace hf := (if_neg c6).symm.trans hf
  by_cases c7 : v1 = 6
  ·
    replace hf := (if_pos c7).symm.trans hf
    refine ok_sw (x := v1) (b1 := 7) (L := [some (.inr (.inr (.inl 1))), some (.inl v1)]) (S := []) (M := mm V h) rfl rfl (by rw [c7]; rfl) ?_
    obtain rfl := Option.some.inj hf
    refine ok_ireturn (L := [some (.inr (.inr (.inl 1))), some (.inl v1)]) (M := mm V h) (x := V 18 6) rfl rfl ?_
    exact ⟨rfl, rfl⟩
  replace hf := (if_neg c7).symm.trans hf
  by_cases c8 : v1 = 7
  ·
    replace hf := (if_pos c8).symm.trans hf
    refine ok_sw (x := v1) (b1 := 8) (L := [some (.inr (.inr (.inl 1))), some (.inl v1)]) (S := []) (M := mm V h) rfl rfl (by rw [c8]; rfl) ?_
    obtain rfl := Option.some.inj hf
    refine ok_ireturn (L := [some (.inr (.inr (.inl 1))), some (.inl v1)]) (M := mm V h) (x := V 18 7) rfl rfl ?_
    exact ⟨rfl, rfl⟩
  replace hf := (if_neg c8).symm.trans hf
  by_cases c9 : v1 = 8
  ·
    replace hf := (if_pos c9).symm.trans hf
    refine ok_sw (x := v1) (b1 := 9) (L := [some (.inr (.inr (.inl 1))), some (.inl v1)]) (S := []) (M := mm V h) rfl rfl (by rw [c9]; rfl) ?_
    refine ok_callA (L := [some (.inr (.inr (.inl 1))), some (.inl v1)]) (M := mm V h) (args := [.inr (.inr (.inl 2))]) (rest := []) (y2 := 25) rfl rfl rfl (Or.inl rfl) rfl rfl (Nat.le_of_ble_eq_true rfl) rfl rfl (Nat.le_of_ble_eq_true rfl) (Nat.le_of_ble_eq_true rfl) (s_Road_jobs rfl) ?_
    rintro _ _ ⟨rfl, rfl⟩
    obtain rfl := Option.some.inj hf
    refine ok_ireturn (L := [some (.inr (.inr (.inl 1))), some (.inl v1)]) (M := mm V h) (x := f_Road_jobs V) rfl rfl ?_
    exact ⟨rfl, rfl⟩
  replace hf := (if_neg c9).symm.trans hf
  by_cases c11 : v1 = 9
  ·
    replace hf := (if_pos c11).symm.trans hf
    refine ok_sw (x := v1) (b1 := 11) (L := [some (.inr (.inr (.inl 1))), some (.inl v1)]) (S := []) (M := mm V h) rfl rfl (by rw [c11]; rfl) ?_
    obtain ⟨q12, e12, hf⟩ := obind hf
    refine ok_callA (L := [some (.inr (.inr (.inl 1))), some (.inl v1)]) (M := mm V h) (args := [.inr (.inr (.inl 2))]) (rest := []) (y2 := 149) rfl rfl rfl (Or.inl rfl) rfl rfl (Nat.le_of_ble_eq_true rfl) rfl rfl (Nat.le_of_ble_eq_true rfl) (Nat.le_of_ble_eq_true rfl) (s_Road_allTonnes e12) ?_
    rintro _ _ ⟨rfl, rfl⟩
    obtain rfl := Option.some.inj hf
    refine ok_ireturn (L := [some (.inr (.inr (.inl 1))), some (.inl v1)]) (M := mm V h) (x := q12) rfl rfl ?_
    exact ⟨rfl, rfl⟩
  replace hf := (if_neg c11).symm.trans hf
  by_cases c13 : v1 = 10
  ·
    replace hf := (if_pos c13).symm.trans hf
    refine ok_sw (x := v1) (b1 := 13) (L := [some (.inr (.inr (.inl 1))), some (.inl v1)]) (S := []) (M := mm V h) rfl rfl (by rw [c13]; rfl) ?_
    obtain rfl := Option.some.inj hf
    refine ok_ireturn (L := [some (.inr (.inr (.inl 1))), some (.inl v1)]) (M := mm V h) (x := V 16 1) rfl rfl ?_
    exact ⟨rfl, rfl⟩
  replace hf := (if_neg c13).symm.trans hf
  refine ok_sw (x := v1) (b1 := 14) (L := [some (.inr (.inr (.inl 1))), some (.inl v1)]) (S := []) (M := mm V h) rfl rfl (if_pos (by omega)) ?_
  obtain rfl := Option.some.inj hf
  refine ok_ireturn (L := [some (.inr (.inr (.inl 1))), some (.inl v1)]) (M := mm V h) (x := (-1)) rfl rfl ?_
  exact ⟨rfl, rfl⟩
