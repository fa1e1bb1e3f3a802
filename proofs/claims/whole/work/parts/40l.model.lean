/-! shallow functions of the model (printed by wip/tools/gen40.py) -/
def f_Mo_pay_19 (k12 : VV → Int → Int → Int → Int → (Option (VV × Int))) (V : VV) (v3 : Int) (v5 : Int) (v8 : Int) (v9 : Int) (t0 : Int) (t2 : Int) (t3 : Int) : Option (VV × Int) := Option.bind (f_Mo_isCold V v9) (fun q1 => Option.bind (f_Mo_missedOf V v9) (fun q3 => Option.bind (f_Mo_work V t2 t3 (if q1 = 0 then 0 else 1 : Int) q3) (fun q4 => k12 q4.1 v3 v5 (w64 (t0 + q4.2)) (w32 (v8 + 1)))))
set_option maxRecDepth 20000 in
set_option maxHeartbeats 4000000 in
theorem s_Mo_pay_19 {X : Xs} {d : Nat} {k12 : VV → Int → Int → Int → Int → (Option (VV × Int))} {V : VV} {h : HP} {v3 : Int} {v5 : Int} {v8 : Int} {v9 : Int} {t0 : Int} {t2 : Int} {t3 : Int} {w1 : Int} {w2 : Int} {w4 : Int} {w6 : Int} {z7 : Option AV} {q : VV × Int} (hf : f_Mo_pay_19 k12 V v3 v5 v8 v9 t0 t2 t3 = some q) (K12 : ∀ (V : VV) (v3 : Int) (v5 : Int) (v6 : Int) (v8 : Int) (w1 : Int) (w2 : Int) (w4 : Int) (z7 : Option AV) (z9 : Option AV), k12 V v3 v5 v6 v8 = some q → Ok X (d + 7) 237 12 ([some (.inr (.inr (.inl 63))), some (.inl w1), some (.inl w2), some (.inl v3), some (.inl w4), some (.inl v5), some (.inr (.inl v6)), z7, some (.inl v8), z9], [], mm V h) (fun M r => M = mm q.1 h ∧ r = some (.inr (.inl q.2)))) : Ok X (d + 7) 237 19 ([some (.inr (.inr (.inl 63))), some (.inl w1), some (.inl w2), some (.inl v3), some (.inl w4), some (.inl v5), some (.inr (.inl w6)), z7, some (.inl v8), some (.inl v9)], [.inl t3, .inl t2, .inr (.inr (.inl 63)), .inr (.inl t0)], mm V h) (fun M r => M = mm q.1 h ∧ r = some (.inr (.inl q.2))) := by
  let QQ : Mm → Option AV → Prop := fun M r => M = mm q.1 h ∧ r = some (.inr (.inl q.2))
  show Ok X (d + 7) 237 19 ([some (.inr (.inr (.inl 63))), some (.inl w1), some (.inl w2), some (.inl v3), some (.inl w4), some (.inl v5), some (.inr (.inl w6)), z7, some (.inl v8), some (.inl v9)], [.inl t3, .inl t2, .inr (.inr (.inl 63)), .inr (.inl t0)], mm V h) QQ
  obtain ⟨q1, e1, hf⟩ := obind hf
  refine ok_callA (L := [some (.inr (.inr (.inl 63))), some (.inl w1), some (.inl w2), some (.inl v3), some (.inl w4), some (.inl v5), some (.inr (.inl w6)), z7, some (.inl v8), some (.inl v9)]) (M := mm V h) (args := [.inr (.inr (.inl 63)), .inl v9]) (rest := [.inl t3, .inl t2, .inr (.inr (.inl 63)), .inr (.inl t0)]) (y2 := 220) rfl rfl rfl (Or.inl rfl) rfl rfl (Nat.le_of_ble_eq_true rfl) rfl rfl (Nat.le_of_ble_eq_true rfl) (Nat.le_of_ble_eq_true rfl) (s_Mo_isCold e1) ?_
  rintro _ _ ⟨rfl, rfl, hz1⟩
  have JN2 : Ok X (d + 7) 237 23 ([some (.inr (.inr (.inl 63))), some (.inl w1), some (.inl w2), some (.inl v3), some (.inl w4), some (.inl v5), some (.inr (.inl w6)), z7, some (.inl v8), some (.inl v9)], [.inl (if q1 = 0 then 0 else 1 : Int), .inl t3, .inl t2, .inr (.inr (.inl 63)), .inr (.inl t0)], mm V h) QQ := by
    obtain ⟨q3, e3, hf⟩ := obind hf
    refine ok_callA (L := [some (.inr (.inr (.inl 63))), some (.inl w1), some (.inl w2), some (.inl v3), some (.inl w4), some (.inl v5), some (.inr (.inl w6)), z7, some (.inl v8), some (.inl v9)]) (M := mm V h) (args := [.inr (.inr (.inl 63)), .inl v9]) (rest := [.inl (if q1 = 0 then 0 else 1 : Int), .inl t3, .inl t2, .inr (.inr (.inl 63)), .inr (.inl t0)]) (y2 := 222) rfl rfl rfl (Or.inl rfl) rfl rfl (Nat.le_of_ble_eq_true rfl) rfl rfl (Nat.le_of_ble_eq_true rfl) (Nat.le_of_ble_eq_true rfl) (s_Mo_missedOf e3) ?_
    rintro _ _ ⟨rfl, rfl⟩
    obtain ⟨q4, e4, hf⟩ := obind hf
    refine ok_callA (L := [some (.inr (.inr (.inl 63))), some (.inl w1), some (.inl w2), some (.inl v3), some (.inl w4), some (.inl v5), some (.inr (.inl w6)), z7, some (.inl v8), some (.inl v9)]) (M := mm V h) (args := [.inr (.inr (.inl 63)), .inl t2, .inl t3, .inl (if q1 = 0 then 0 else 1 : Int), .inl q3]) (rest := [.inr (.inl t0)]) (y2 := 234) rfl rfl rfl (Or.inl rfl) rfl rfl (Nat.le_of_ble_eq_true rfl) rfl rfl (Nat.le_of_ble_eq_true rfl) (Nat.le_of_ble_eq_true rfl) (s_Mo_work e4) ?_
    rintro _ _ ⟨rfl, rfl⟩
    refine ok_goto (L := [some (.inr (.inr (.inl 63))), some (.inl w1), some (.inl w2), some (.inl v3), some (.inl w4), some (.inl v5), some (.inr (.inl (w64 (t0 + q4.2)))), none, some (.inl (w32 (v8 + 1))), some (.inl v9)]) (S := []) (M := mm q4.1 h) rfl rfl ?_
    exact K12 q4.1 v3 v5 (w64 (t0 + q4.2)) (w32 (v8 + 1)) w1 w2 w4 none (some (.inl v9)) hf
  clear hf
  refine ok_if_eq (x := q1) (L := [some (.inr (.inr (.inl 63))), some (.inl w1), some (.inl w2), some (.inl v3), some (.inl w4), some (.inl v5), some (.inr (.inl w6)), z7, some (.inl v8), some (.inl v9)]) (S := [.inl t3, .inl t2, .inr (.inr (.inl 63)), .inr (.inl t0)]) (M := mm V h) rfl rfl (fun c5 => ?_) (fun c5 => ?_)
  ·
    simp only [if_pos c5] at JN2
    refine ok_thru (L := [some (.inr (.inr (.inl 63))), some (.inl w1), some (.inl w2), some (.inl v3), some (.inl w4), some (.inl v5), some (.inr (.inl w6)), z7, some (.inl v8), some (.inl v9)]) (S := [.inl 0, .inl t3, .inl t2, .inr (.inr (.inl 63)), .inr (.inl t0)]) (M := mm V h) rfl rfl ?_
    first | exact JN2 | (simp only [if_pos c5]; exact JN2)
  ·
    simp only [if_neg c5] at JN2
    refine ok_goto (L := [some (.inr (.inr (.inl 63))), some (.inl w1), some (.inl w2), some (.inl v3), some (.inl w4), some (.inl v5), some (.inr (.inl w6)), z7, some (.inl v8), some (.inl v9)]) (S := [.inl 1, .inl t3, .inl t2, .inr (.inr (.inl 63)), .inr (.inl t0)]) (M := mm V h) rfl rfl ?_
    first | exact JN2 | (simp only [if_neg c5]; exact JN2)
def f_Mo_pay_12 : Nat → VV → Int → Int → Int → Int → (Option (VV × Int))
  | 0, _, _, _, _, _ => none
  | n + 1, V, v3, v5, v6, v8 => if v8 < (V 62 13) then if 0 ≤ v8 ∧ v8 < (36 : Int) then if 0 ≤ (V 122 v8.toNat) ∧ (V 122 v8.toNat) < (36 : Int) then if v8 < v3 then Option.bind (f_Mo_denseOf V (V 122 v8.toNat)) (fun q6 => f_Mo_pay_19 (f_Mo_pay_12 n) V v3 v5 v8 (V 122 v8.toNat) v6 (V 70 ((V 122 v8.toNat).toNat)) q6) else if v3 = 0 then none else f_Mo_pay_19 (f_Mo_pay_12 n) V v3 v5 v8 (V 122 v8.toNat) v6 (V 70 ((V 122 v8.toNat).toNat)) (w32 (Int.tdiv v5 v3)) else none else none else some (V, v6)
set_option maxRecDepth 20000 in
set_option maxHeartbeats 4000000 in
theorem s_Mo_pay_12_n {X : Xs} {d : Nat} {h : HP} {q : VV × Int} : ∀ (n : Nat) (V : VV) (v3 : Int) (v5 : Int) (v6 : Int) (v8 : Int) (w1 : Int) (w2 : Int) (w4 : Int) (z7 : Option AV) (z9 : Option AV), f_Mo_pay_12 n V v3 v5 v6 v8 = some q → Ok X (d + 7) 237 12 ([some (.inr (.inr (.inl 63))), some (.inl w1), some (.inl w2), some (.inl v3), some (.inl w4), some (.inl v5), some (.inr (.inl v6)), z7, some (.inl v8), z9], [], mm V h) (fun M r => M = mm q.1 h ∧ r = some (.inr (.inl q.2))) := by
  intro n
  induction n with
  | zero => intro V v3 v5 v6 v8 w1 w2 w4 z7 z9 hf; cases hf
  | succ n ih =>
    intro V v3 v5 v6 v8 w1 w2 w4 z7 z9 hf
    let QQ : Mm → Option AV → Prop := fun M r => M = mm q.1 h ∧ r = some (.inr (.inl q.2))
    show Ok X (d + 7) 237 12 ([some (.inr (.inr (.inl 63))), some (.inl w1), some (.inl w2), some (.inl v3), some (.inl w4), some (.inl v5), some (.inr (.inl v6)), z7, some (.inl v8), z9], [], mm V h) QQ
    refine ok_ic_ge (x := v8) (u := V 62 13) (L := [some (.inr (.inr (.inl 63))), some (.inl w1), some (.inl w2), some (.inl v3), some (.inl w4), some (.inl v5), some (.inr (.inl v6)), z7, some (.inl v8), z9]) (S := []) (M := mm V h) rfl rfl (fun c1 => ?_) (fun c1 => ?_)
    ·
      replace hf := (if_neg (Int.not_lt.mpr c1)).symm.trans hf
      obtain rfl := Option.some.inj hf
      refine ok_lreturn (L := [some (.inr (.inr (.inl 63))), some (.inl w1), some (.inl w2), some (.inl v3), some (.inl w4), some (.inl v5), some (.inr (.inl v6)), z7, some (.inl v8), z9]) (M := mm V h) (x := v6) rfl rfl ?_
      exact ⟨rfl, rfl⟩
    ·
      replace hf := (if_pos c1).symm.trans hf
      by_cases c2 : 0 ≤ v8 ∧ v8 < (36 : Int)
      case neg => replace hf := (if_neg c2).symm.trans hf; cases hf
      replace hf := (if_pos c2).symm.trans hf
      refine ok_iald (i := v8) (id := 122) (n := 36) (L := [some (.inr (.inr (.inl 63))), some (.inl w1), some (.inl w2), some (.inl v3), some (.inl w4), some (.inl v5), some (.inr (.inl v6)), z7, some (.inl v8), z9]) (S := []) (M := mm V h) rfl rfl rfl c2.1 c2.2 ?_
      by_cases c3 : 0 ≤ (V 122 v8.toNat) ∧ (V 122 v8.toNat) < (36 : Int)
      case neg => replace hf := (if_neg c3).symm.trans hf; cases hf
      replace hf := (if_pos c3).symm.trans hf
      refine ok_iald (i := V 122 v8.toNat) (id := 70) (n := 36) (L := [some (.inr (.inr (.inl 63))), some (.inl w1), some (.inl w2), some (.inl v3), some (.inl w4), some (.inl v5), some (.inr (.inl v6)), z7, some (.inl v8), some (.inl (V 122 v8.toNat))]) (S := [.inr (.inr (.inl 63)), .inr (.inl v6)]) (M := mm V h) rfl rfl rfl c3.1 c3.2 ?_
      refine ok_ic_ge (x := v8) (u := v3) (L := [some (.inr (.inr (.inl 63))), some (.inl w1), some (.inl w2), some (.inl v3), some (.inl w4), some (.inl v5), some (.inr (.inl v6)), z7, some (.inl v8), some (.inl (V 122 v8.toNat))]) (S := [.inl (V 70 ((V 122 v8.toNat).toNat)), .inr (.inr (.inl 63)), .inr (.inl v6)]) (M := mm V h) rfl rfl (fun c4 => ?_) (fun c4 => ?_)
      ·
        replace hf := (if_neg (Int.not_lt.mpr c4)).symm.trans hf
        by_cases c5 : v3 = 0
        case pos => replace hf := (if_pos c5).symm.trans hf; cases hf
        replace hf := (if_neg c5).symm.trans hf
        refine ok_idiv (u := v5) (v := v3) (L := [some (.inr (.inr (.inl 63))), some (.inl w1), some (.inl w2), some (.inl v3), some (.inl w4), some (.inl v5), some (.inr (.inl v6)), z7, some (.inl v8), some (.inl (V 122 v8.toNat))]) (S := [.inl (V 70 ((V 122 v8.toNat).toNat)), .inr (.inr (.inl 63)), .inr (.inl v6)]) (M := mm V h) rfl rfl c5 ?_
        exact s_Mo_pay_19 hf ih
      ·
        replace hf := (if_pos c4).symm.trans hf
        obtain ⟨q6, e6, hf⟩ := obind hf
        refine ok_callA (L := [some (.inr (.inr (.inl 63))), some (.inl w1), some (.inl w2), some (.inl v3), some (.inl w4), some (.inl v5), some (.inr (.inl v6)), z7, some (.inl v8), some (.inl (V 122 v8.toNat))]) (M := mm V h) (args := [.inr (.inr (.inl 63)), .inl (V 122 v8.toNat)]) (rest := [.inl (V 70 ((V 122 v8.toNat).toNat)), .inr (.inr (.inl 63)), .inr (.inl v6)]) (y2 := 221) rfl rfl rfl (Or.inl rfl) rfl rfl (Nat.le_of_ble_eq_true rfl) rfl rfl (Nat.le_of_ble_eq_true rfl) (Nat.le_of_ble_eq_true rfl) (s_Mo_denseOf e6) ?_
        rintro _ _ ⟨rfl, rfl⟩
        refine ok_goto (L := [some (.inr (.inr (.inl 63))), some (.inl w1), some (.inl w2), some (.inl v3), some (.inl w4), some (.inl v5), some (.inr (.inl v6)), z7, some (.inl v8), some (.inl (V 122 v8.toNat))]) (S := [.inl q6, .inl (V 70 ((V 122 v8.toNat).toNat)), .inr (.inr (.inl 63)), .inr (.inl v6)]) (M := mm V h) rfl rfl ?_
        exact s_Mo_pay_19 hf ih
theorem s_Mo_pay_12 {X : Xs} {d : Nat} {h : HP} {V : VV} {v3 : Int} {v5 : Int} {v6 : Int} {v8 : Int} {w1 : Int} {w2 : Int} {w4 : Int} {z7 : Option AV} {z9 : Option AV} {n : Nat} {q : VV × Int} (hf : f_Mo_pay_12 n V v3 v5 v6 v8 = some q) : Ok X (d + 7) 237 12 ([some (.inr (.inr (.inl 63))), some (.inl w1), some (.inl w2), some (.inl v3), some (.inl w4), some (.inl v5), some (.inr (.inl v6)), z7, some (.inl v8), z9], [], mm V h) (fun M r => M = mm q.1 h ∧ r = some (.inr (.inl q.2))) :=
  s_Mo_pay_12_n n V v3 v5 v6 v8 w1 w2 w4 z7 z9 hf
def f_Mo_pay_7 : Nat → VV → Int → Int → Int → (Option (VV × Int))
  | 0, _, _, _, _ => none
  | n + 1, V, v3, v5, v6 => if v6 < v3 then if 0 ≤ v6 ∧ v6 < (36 : Int) then Option.bind (f_Mo_denseOf V (V 122 v6.toNat)) (fun q3 => f_Mo_pay_7 n V v3 (w32 (v5 + q3)) (w32 (v6 + 1))) else none else f_Mo_pay_12 FU V v3 v5 0 0
set_option maxRecDepth 20000 in
set_option maxHeartbeats 4000000 in
theorem s_Mo_pay_7_n {X : Xs} {d : Nat} {h : HP} {q : VV × Int} : ∀ (n : Nat) (V : VV) (v3 : Int) (v5 : Int) (v6 : Int) (w1 : Int) (w2 : Int) (w4 : Int) (z7 : Option AV) (z8 : Option AV) (z9 : Option AV), f_Mo_pay_7 n V v3 v5 v6 = some q → Ok X (d + 7) 237 7 ([some (.inr (.inr (.inl 63))), some (.inl w1), some (.inl w2), some (.inl v3), some (.inl w4), some (.inl v5), some (.inl v6), z7, z8, z9], [], mm V h) (fun M r => M = mm q.1 h ∧ r = some (.inr (.inl q.2))) := by
  intro n
  induction n with
  | zero => intro V v3 v5 v6 w1 w2 w4 z7 z8 z9 hf; cases hf
  | succ n ih =>
    intro V v3 v5 v6 w1 w2 w4 z7 z8 z9 hf
    let QQ : Mm → Option AV → Prop := fun M r => M = mm q.1 h ∧ r = some (.inr (.inl q.2))
    show Ok X (d + 7) 237 7 ([some (.inr (.inr (.inl 63))), some (.inl w1), some (.inl w2), some (.inl v3), some (.inl w4), some (.inl v5), some (.inl v6), z7, z8, z9], [], mm V h) QQ
    refine ok_ic_ge (x := v6) (u := v3) (L := [some (.inr (.inr (.inl 63))), some (.inl w1), some (.inl w2), some (.inl v3), some (.inl w4), some (.inl v5), some (.inl v6), z7, z8, z9]) (S := []) (M := mm V h) rfl rfl (fun c1 => ?_) (fun c1 => ?_)
    ·
      replace hf := (if_neg (Int.not_lt.mpr c1)).symm.trans hf
      refine ok_thru (L := [some (.inr (.inr (.inl 63))), some (.inl w1), some (.inl w2), some (.inl v3), some (.inl w4), some (.inl v5), some (.inr (.inl 0)), none, some (.inl 0), z9]) (S := []) (M := mm V h) rfl rfl ?_
      exact s_Mo_pay_12 hf
    ·
      replace hf := (if_pos c1).symm.trans hf
      by_cases c2 : 0 ≤ v6 ∧ v6 < (36 : Int)
      case neg => replace hf := (if_neg c2).symm.trans hf; cases hf
      replace hf := (if_pos c2).symm.trans hf
      refine ok_iald (i := v6) (id := 122) (n := 36) (L := [some (.inr (.inr (.inl 63))), some (.inl w1), some (.inl w2), some (.inl v3), some (.inl w4), some (.inl v5), some (.inl v6), z7, z8, z9]) (S := [.inr (.inr (.inl 63)), .inl v5]) (M := mm V h) rfl rfl rfl c2.1 c2.2 ?_
      obtain ⟨q3, e3, hf⟩ := obind hf
      refine ok_callA (L := [some (.inr (.inr (.inl 63))), some (.inl w1), some (.inl w2), some (.inl v3), some (.inl w4), some (.inl v5), some (.inl v6), z7, z8, z9]) (M := mm V h) (args := [.inr (.inr (.inl 63)), .inl (V 122 v6.toNat)]) (rest := [.inl v5]) (y2 := 221) rfl rfl rfl (Or.inl rfl) rfl rfl (Nat.le_of_ble_eq_true rfl) rfl rfl (Nat.le_of_ble_eq_true rfl) (Nat.le_of_ble_eq_true rfl) (s_Mo_denseOf e3) ?_
      rintro _ _ ⟨rfl, rfl⟩
      refine ok_goto (L := [some (.inr (.inr (.inl 63))), some (.inl w1), some (.inl w2), some (.inl v3), some (.inl w4), some (.inl (w32 (v5 + q3))), some (.inl (w32 (v6 + 1))), z7, z8, z9]) (S := []) (M := mm V h) rfl rfl ?_
      exact ih V v3 (w32 (v5 + q3)) (w32 (v6 + 1)) w1 w2 w4 z7 z8 z9 hf
theorem s_Mo_pay_7 {X : Xs} {d : Nat} {h : HP} {V : VV} {v3 : Int} {v5 : Int} {v6 : Int} {w1 : Int} {w2 : Int} {w4 : Int} {z7 : Option AV} {z8 : Option AV} {z9 : Option AV} {n : Nat} {q : VV × Int} (hf : f_Mo_pay_7 n V v3 v5 v6 = some q) : Ok X (d + 7) 237 7 ([some (.inr (.inr (.inl 63))), some (.inl w1), some (.inl w2), some (.inl v3), some (.inl w4), some (.inl v5), some (.inl v6), z7, z8, z9], [], mm V h) (fun M r => M = mm q.1 h ∧ r = some (.inr (.inl q.2))) :=
  s_Mo_pay_7_n n V v3 v5 v6 w1 w2 w4 z7 z8 z9 hf
def f_Mo_pay (V : VV) (v1 : Int) (v2 : Int) (v3 : Int) (v4 : Int) : Option (VV × Int) := Option.bind (f_Mo_isRun V v1 v2) (fun q1 => if q1.2 = 0 then some (q1.1, (-1)) else Option.bind (f_Mo_isDrawn q1.1 v3 v4) (fun q3 => if q3.2 = 0 then some (q3.1, (-1)) else Option.bind (f_Mo_roll q3.1) (fun q5 => f_Mo_pay_7 FU q5 v3 0 0)))
set_option maxRecDepth 20000 in
set_option maxHeartbeats 4000000 in
theorem s_Mo_pay {X : Xs} {d : Nat} {V : VV} {h : HP} {v1 : Int} {v2 : Int} {v3 : Int} {v4 : Int} {q : VV × Int} (hf : f_Mo_pay V v1 v2 v3 v4 = some q) : Ok X (d + 7) 237 0 ([some (.inr (.inr (.inl 63))), some (.inl v1), some (.inl v2), some (.inl v3), some (.inl v4), none, none, none, none, none], [], mm V h) (fun M r => M = mm q.1 h ∧ r = some (.inr (.inl q.2))) := by
  let QQ : Mm → Option AV → Prop := fun M r => M = mm q.1 h ∧ r = some (.inr (.inl q.2))
  show Ok X (d + 7) 237 0 ([some (.inr (.inr (.inl 63))), some (.inl v1), some (.inl v2), some (.inl v3), some (.inl v4), none, none, none, none, none], [], mm V h) QQ
  obtain ⟨q1, e1, hf⟩ := obind hf
  refine ok_callA (L := [some (.inr (.inr (.inl 63))), some (.inl v1), some (.inl v2), some (.inl v3), some (.inl v4), none, none, none, none, none]) (M := mm V h) (args := [.inr (.inr (.inl 63)), .inl v1, .inl v2]) (rest := []) (y2 := 193) rfl rfl rfl (Or.inl rfl) rfl rfl (Nat.le_of_ble_eq_true rfl) rfl rfl (Nat.le_of_ble_eq_true rfl) (Nat.le_of_ble_eq_true rfl) (s_Mo_isRun e1) ?_
  rintro _ _ ⟨rfl, rfl, hz1⟩
  refine ok_if_eq (x := q1.2) (L := [some (.inr (.inr (.inl 63))), some (.inl v1), some (.inl v2), some (.inl v3), some (.inl v4), none, none, none, none, none]) (S := []) (M := mm q1.1 h) rfl rfl (fun c2 => ?_) (fun c2 => ?_)
  ·
    replace hf := (if_pos c2).symm.trans hf
    obtain rfl := Option.some.inj hf
    refine ok_lreturn (L := [some (.inr (.inr (.inl 63))), some (.inl v1), some (.inl v2), some (.inl v3), some (.inl v4), none, none, none, none, none]) (M := mm q1.1 h) (x := (-1)) rfl rfl ?_
    exact ⟨rfl, rfl⟩
  ·
    replace hf := (if_neg c2).symm.trans hf
    obtain ⟨q3, e3, hf⟩ := obind hf
    refine ok_callA (L := [some (.inr (.inr (.inl 63))), some (.inl v1), some (.inl v2), some (.inl v3), some (.inl v4), none, none, none, none, none]) (M := mm q1.1 h) (args := [.inr (.inr (.inl 63)), .inl v3, .inl v4]) (rest := []) (y2 := 238) rfl rfl rfl (Or.inl rfl) rfl rfl (Nat.le_of_ble_eq_true rfl) rfl rfl (Nat.le_of_ble_eq_true rfl) (Nat.le_of_ble_eq_true rfl) (s_Mo_isDrawn e3) ?_
    rintro _ _ ⟨rfl, rfl, hz3⟩
    refine ok_if_ne (x := q3.2) (L := [some (.inr (.inr (.inl 63))), some (.inl v1), some (.inl v2), some (.inl v3), some (.inl v4), none, none, none, none, none]) (S := []) (M := mm q3.1 h) rfl rfl (fun c4 => ?_) (fun c4 => ?_)
    ·
      replace hf := (if_neg c4).symm.trans hf
      obtain ⟨q5, e5, hf⟩ := obind hf
      refine ok_callA (L := [some (.inr (.inr (.inl 63))), some (.inl v1), some (.inl v2), some (.inl v3), some (.inl v4), none, none, none, none, none]) (M := mm q3.1 h) (args := [.inr (.inr (.inl 63))]) (rest := []) (y2 := 216) rfl rfl rfl (Or.inl rfl) rfl rfl (Nat.le_of_ble_eq_true rfl) rfl rfl (Nat.le_of_ble_eq_true rfl) (Nat.le_of_ble_eq_true rfl) (s_Mo_roll e5) ?_
      rintro _ _ ⟨rfl, rfl⟩
      refine ok_thru (L := [some (.inr (.inr (.inl 63))), some (.inl v1), some (.inl v2), some (.inl v3), some (.inl v4), some (.inl 0), some (.inl 0), none, none, none]) (S := []) (M := mm q5 h) rfl rfl ?_
      exact s_Mo_pay_7 hf
    ·
      replace hf := (if_pos c4).symm.trans hf
      obtain rfl := Option.some.inj hf
      refine ok_lreturn (L := [some (.inr (.inr (.inl 63))), some (.inl v1), some (.inl v2), some (.inl v3), some (.inl v4), none, none, none, none, none]) (M := mm q3.1 h) (x := (-1)) rfl rfl ?_
      exact ⟨rfl, rfl⟩
def f_Mo_core_6 (V : VV)  : Option (VV × Int) := some (V, (-1))
set_option maxRecDepth 20000 in
set_option maxHeartbeats 4000000 in
theorem s_Mo_core_6 {X : Xs} {d : Nat} {V : VV} {h : HP} {w1 : Int} {w2 : Int} {w3 : Int} {q : VV × Int} (hf : f_Mo_core_6 V = some q) : Ok X (d + 6) 239 6 ([some (.inr (.inr (.inl 63))), some (.inl w1), some (.inl w2), some (.inl w3)], [], mm V h) (fun M r => M = mm q.1 h ∧ r = some (.inl q.2)) := by
  let QQ : Mm → Option AV → Prop := fun M r => M = mm q.1 h ∧ r = some (.inl q.2)
  show Ok X (d + 6) 239 6 ([some (.inr (.inr (.inl 63))), some (.inl w1), some (.inl w2), some (.inl w3)], [], mm V h) QQ
  refine ok_thru (L := [some (.inr (.inr (.inl 63))), some (.inl w1), some (.inl w2), some (.inl w3)]) (S := [.inl (-1)]) (M := mm V h) rfl rfl ?_
  obtain rfl := Option.some.inj hf
  refine ok_ireturn (L := [some (.inr (.inr (.inl 63))), some (.inl w1), some (.inl w2), some (.inl w3)]) (M := mm V h) (x := (-1)) rfl rfl ?_
  exact ⟨rfl, rfl⟩
def f_Mo_core (V : VV) (v1 : Int) (v2 : Int) (v3 : Int) : Option (VV × Int) := Option.bind (f_Mo_isDrawn V v1 v2) (fun q1 => if q1.2 = 0 then f_Mo_core_6 q1.1 else if (f_Mo_isIn q1.1 v3 0 (w32 (v1 - 1))) = 0 then f_Mo_core_6 q1.1 else if 0 ≤ v3 ∧ v3 < (36 : Int) then some (q1.1, q1.1 122 v3.toNat) else none)
set_option maxRecDepth 20000 in
set_option maxHeartbeats 4000000 in
theorem s_Mo_core {X : Xs} {d : Nat} {V : VV} {h : HP} {v1 : Int} {v2 : Int} {v3 : Int} {q : VV × Int} (hf : f_Mo_core V v1 v2 v3 = some q) : Ok X (d + 6) 239 0 ([some (.inr (.inr (.inl 63))), some (.inl v1), some (.inl v2), some (.inl v3)], [], mm V h) (fun M r => M = mm q.1 h ∧ r = some (.inl q.2)) := by
  let QQ : Mm → Option AV → Prop := fun M r => M = mm q.1 h ∧ r = some (.inl q.2)
  show Ok X (d + 6) 239 0 ([some (.inr (.inr (.inl 63))), some (.inl v1), some (.inl v2), some (.inl v3)], [], mm V h) QQ
  obtain ⟨q1, e1, hf⟩ := obind hf
  refine ok_callA (L := [some (.inr (.inr (.inl 63))), some (.inl v1), some (.inl v2), some (.inl v3)]) (M := mm V h) (args := [.inr (.inr (.inl 63)), .inl v1, .inl v2]) (rest := []) (y2 := 238) rfl rfl rfl (Or.inl rfl) rfl rfl (Nat.le_of_ble_eq_true rfl) rfl rfl (Nat.le_of_ble_eq_true rfl) (Nat.le_of_ble_eq_true rfl) (s_Mo_isDrawn e1) ?_
  rintro _ _ ⟨rfl, rfl, hz1⟩
  refine ok_if_eq (x := q1.2) (L := [some (.inr (.inr (.inl 63))), some (.inl v1), some (.inl v2), some (.inl v3)]) (S := []) (M := mm q1.1 h) rfl rfl (fun c2 => ?_) (fun c2 => ?_)
  ·
    replace hf := (if_pos c2).symm.trans hf
    exact s_Mo_core_6 hf
  ·
    replace hf := (if_neg c2).symm.trans hf
    refine ok_callA (L := [some (.inr (.inr (.inl 63))), some (.inl v1), some (.inl v2), some (.inl v3)]) (M := mm q1.1 h) (args := [.inl v3, .inl 0, .inl (w32 (v1 - 1))]) (rest := []) (y2 := 152) rfl rfl rfl (Or.inr (Or.inl rfl)) rfl rfl (Nat.le_of_ble_eq_true rfl) rfl rfl (Nat.le_of_ble_eq_true rfl) (Nat.le_of_ble_eq_true rfl) (s_Mo_isIn rfl) ?_
    rintro _ _ ⟨rfl, rfl, hz3⟩
    refine ok_if_eq (x := f_Mo_isIn q1.1 v3 0 (w32 (v1 - 1))) (L := [some (.inr (.inr (.inl 63))), some (.inl v1), some (.inl v2), some (.inl v3)]) (S := []) (M := mm q1.1 h) rfl rfl (fun c4 => ?_) (fun c4 => ?_)
    ·
      replace hf := (if_pos c4).symm.trans hf
      exact s_Mo_core_6 hf
    ·
      replace hf := (if_neg c4).symm.trans hf
      by_cases c5 : 0 ≤ v3 ∧ v3 < (36 : Int)
      case neg => replace hf := (if_neg c5).symm.trans hf; cases hf
      replace hf := (if_pos c5).symm.trans hf
      refine ok_iald (i := v3) (id := 122) (n := 36) (L := [some (.inr (.inr (.inl 63))), some (.inl v1), some (.inl v2), some (.inl v3)]) (S := []) (M := mm q1.1 h) rfl rfl rfl c5.1 c5.2 ?_
      refine ok_goto (L := [some (.inr (.inr (.inl 63))), some (.inl v1), some (.inl v2), some (.inl v3)]) (S := [.inl (q1.1 122 v3.toNat)]) (M := mm q1.1 h) rfl rfl ?_
      obtain rfl := Option.some.inj hf
      refine ok_ireturn (L := [some (.inr (.inr (.inl 63))), some (.inl v1), some (.inl v2), some (.inl v3)]) (M := mm q1.1 h) (x := q1.1 122 v3.toNat) rfl rfl ?_
      exact ⟨rfl, rfl⟩
def f_Mo_about (V : VV) (v1 : Int) : Option (VV × Int) := Option.bind (f_Mo_hasJobs V) (fun q1 => if v1 = 0 then some (q1.1, q1.1 62 0) else if v1 = 1 then some (q1.1, q1.1 62 8) else if v1 = 2 then some (q1.1, q1.1 62 17) else if v1 = 3 then some (q1.1, q1.1 62 22) else if v1 = 4 then some (q1.1, q1.1 62 23) else if v1 = 5 then some (q1.1, q1.1 62 33) else if v1 = 6 then some (q1.1, q1.1 62 48) else if v1 = 7 then some (q1.1, f_Mo_manyWorlds q1.1) else if v1 = 8 then some (q1.1, q1.1 62 13) else if v1 = 9 then some (q1.1, q1.1 62 14) else if v1 = 10 then some (q1.1, q1.1 62 40) else some (q1.1, (-1)))
set_option maxRecDepth 20000 in
set_option maxHeartbeats 4000000 in
theorem s_Mo_about {X : Xs} {d : Nat} {V : VV} {h : HP} {v1 : Int} {q : VV × Int} (hf : f_Mo_about V v1 = some q) : Ok X (d + 5) 240 0 ([some (.inr (.inr (.inl 63))), some (.inl v1)], [], mm V h) (fun M r => M = mm q.1 h ∧ r = some (.inl q.2)) := by
  let QQ : Mm → Option AV → Prop := fun M r => M = mm q.1 h ∧ r = some (.inl q.2)
  show Ok X (d + 5) 240 0 ([some (.inr (.inr (.inl 63))), some (.inl v1)], [], mm V h) QQ
  obtain ⟨q1, e1, hf⟩ := obind hf
  refine ok_callA (L := [some (.inr (.inr (.inl 63))), some (.inl v1)]) (M := mm V h) (args := [.inr (.inr (.inl 63))]) (rest := []) (y2 := 162) rfl rfl rfl (Or.inl rfl) rfl rfl (Nat.le_of_ble_eq_true rfl) rfl rfl (Nat.le_of_ble_eq_true rfl) (Nat.le_of_ble_eq_true rfl) (s_Mo_hasJobs e1) ?_
  rintro _ _ ⟨rfl, rfl, hz1⟩
  by_cases c2 : v1 = 0
  ·
    replace hf := (if_pos c2).symm.trans hf
    refine ok_sw (x := v1) (b1 := 2) (L := [some (.inr (.inr (.inl 63))), some (.inl v1)]) (S := []) (M := mm q1.1 h) rfl rfl (by rw [c2]; rfl) ?_
    obtain rfl := Option.some.inj hf
    refine ok_ireturn (L := [some (.inr (.inr (.inl 63))), some (.inl v1)]) (M := mm q1.1 h) (x := q1.1 62 0) rfl rfl ?_
    exact ⟨rfl, rfl⟩
  replace hf := (if_neg c2).symm.trans hf
  by_cases c3 : v1 = 1
  ·
    replace hf := (if_pos c3).symm.trans hf
    refine ok_sw (x := v1) (b1 := 3) (L := [some (.inr (.inr (.inl 63))), some (.inl v1)]) (S := []) (M := mm q1.1 h) rfl rfl (by rw [c3]; rfl) ?_
    obtain rfl := Option.some.inj hf
    refine ok_ireturn (L := [some (.inr (.inr (.inl 63))), some (.inl v1)]) (M := mm q1.1 h) (x := q1.1 62 8) rfl rfl ?_
    exact ⟨rfl, rfl⟩
  replace hf := (if_neg c3).symm.trans hf
  by_cases c4 : v1 = 2
  ·
    replace hf := (if_pos c4).symm.trans hf
    refine ok_sw (x := v1) (b1 := 4) (L := [some (.inr (.inr (.inl 63))), some (.inl v1)]) (S := []) (M := mm q1.1 h) rfl rfl (by rw [c4]; rfl) ?_
    obtain rfl := Option.some.inj hf
    refine ok_ireturn (L := [some (.inr (.inr (.inl 63))), some (.inl v1)]) (M := mm q1.1 h) (x := q1.1 62 17) rfl rfl ?_
    exact ⟨rfl, rfl⟩
  replace hf := (if_neg c4).symm.trans hf
  by_cases c5 : v1 = 3
  ·
    replace hf := (if_pos c5).symm.trans hf
    refine ok_sw (x := v1) (b1 := 5) (L := [some (.inr (.inr (.inl 63))), some (.inl v1)]) (S := []) (M := mm q1.1 h) rfl rfl (by rw [c5]; rfl) ?_
    obtain rfl := Option.some.inj hf
    refine ok_ireturn (L := [some (.inr (.inr (.inl 63))), some (.inl v1)]) (M := mm q1.1 h) (x := q1.1 62 22) rfl rfl ?_
    exact ⟨rfl, rfl⟩
  replace hf := (if_neg c5).symm.trans hf
  by_cases c6 : v1 = 4
  ·
    replace hf := (if_pos c6).symm.trans hf
    refine ok_sw (x := v1) (b1 := 6) (L := [some (.inr (.inr (.inl 63))), some (.inl v1)]) (S := []) (M := mm q1.1 h) rfl rfl (by rw [c6]; rfl) ?_
    obtain rfl := Option.some.inj hf
    refine ok_ireturn (L := [some (.inr (.inr (.inl 63))), some (.inl v1)]) (M := mm q1.1 h) (x := q1.1 62 23) rfl rfl ?_
    exact ⟨rfl, rfl⟩
  replace hf := (if_neg c6).symm.trans hf
  by_cases c7 : v1 = 5
  ·
    replace hf := (if_pos c7).symm.trans hf
    refine ok_sw (x := v1) (b1 := 7) (L := [some (.inr (.inr (.inl 63))), some (.inl v1)]) (S := []) (M := mm q1.1 h) rfl rfl (by rw [c7]; rfl) ?_
    obtain rfl := Option.some.inj hf
    refine ok_ireturn (L := [some (.inr (.inr (.inl 63))), some (.inl v1)]) (M := mm q1.1 h) (x := q1.1 62 33) rfl rfl ?_
    exact ⟨rfl, rfl⟩
  replace hf := (if_neg c7).symm.trans hf
  by_cases c8 : v1 = 6
  ·
    replace hf := (if_pos c8).symm.trans hf
    refine ok_sw (x := v1) (b1 := 8) (L := [some (.inr (.inr (.inl 63))), some (.inl v1)]) (S := []) (M := mm q1.1 h) rfl rfl (by rw [c8]; rfl) ?_
    obtain rfl := Option.some.inj hf
    refine ok_ireturn (L := [some (.inr (.inr (.inl 63))), some (.inl v1)]) (M := mm q1.1 h) (x := q1.1 62 48) rfl rfl ?_
    exact ⟨rfl, rfl⟩
  replace hf := (if_neg c8).symm.trans hf
  by_cases c9 : v1 = 7
  ·
    replace hf := (if_pos c9).symm.trans hf
    refine ok_sw (x := v1) (b1 := 9) (L := [some (.inr (.inr (.inl 63))), some (.inl v1)]) (S := []) (M := mm q1.1 h) rfl rfl (by rw [c9]; rfl) ?_
    refine ok_callA (L := [some (.inr (.inr (.inl 63))), some (.inl v1)]) (M := mm q1.1 h) (args := [.inr (.inr (.inl 63))]) (rest := []) (y2 := 187) rfl rfl rfl (Or.inl rfl) rfl rfl (Nat.le_of_ble_eq_true rfl) rfl rfl (Nat.le_of_ble_eq_true rfl) (Nat.le_of_ble_eq_true rfl) (s_Mo_manyWorlds rfl) ?_
    rintro _ _ ⟨rfl, rfl⟩
    obtain rfl := Option.some.inj hf
    refine ok_ireturn (L := [some (.inr (.inr (.inl 63))), some (.inl v1)]) (M := mm q1.1 h) (x := f_Mo_manyWorlds q1.1) rfl rfl ?_
    exact ⟨rfl, rfl⟩
  replace hf := (if_neg c9).symm.trans hf
  by_cases c11 : v1 = 8
  ·
    replace hf := (if_pos c11).symm.trans hf
    refine ok_sw (x := v1) (b1 := 11) (L := [some (.inr (.inr (.inl 63))), some (.inl v1)]) (S := []) (M := mm q1.1 h) rfl rfl (by rw [c11]; rfl) ?_
    obtain rfl := Option.some.inj hf
    refine ok_ireturn (L := [some (.inr (.inr (.inl 63))), some (.inl v1)]) (M := mm q1.1 h) (x := q1.1 62 13) rfl rfl ?_
    exact ⟨rfl, rfl⟩
  replace hf := (if_neg c11).symm.trans hf
  by_cases c12 : v1 = 9
  ·
    replace hf := (if_pos c12).symm.trans hf
    refine ok_sw (x := v1) (b1 := 12) (L := [some (.inr (.inr (.inl 63))), some (.inl v1)]) (S := []) (M := mm q1.1 h) rfl rfl (by rw [c12]; rfl) ?_
    obtain rfl := Option.some.inj hf
    refine ok_ireturn (L := [some (.inr (.inr (.inl 63))), some (.inl v1)]) (M := mm q1.1 h) (x := q1.1 62 14) rfl rfl ?_
    exact ⟨rfl, rfl⟩
  replace hf := (if_neg c12).symm.trans hf
  by_cases c13 : v1 = 10
  ·
    replace hf := (if_pos c13).symm.trans hf
    refine ok_sw (x := v1) (b1 := 13) (L := [some (.inr (.inr (.inl 63))), some (.inl v1)]) (S := []) (M := mm q1.1 h) rfl rfl (by rw [c13]; rfl) ?_
    obtain rfl := Option.some.inj hf
    refine ok_ireturn (L := [some (.inr (.inr (.inl 63))), some (.inl v1)]) (M := mm q1.1 h) (x := q1.1 62 40) rfl rfl ?_
    exact ⟨rfl, rfl⟩
  replace hf := (if_neg c13).symm.trans hf
  refine ok_sw (x := v1) (b1 := 14) (L := [some (.inr (.inr (.inl 63))), some (.inl v1)]) (S := []) (M := mm q1.1 h) rfl rfl (if_pos (by omega)) ?_
  obtain rfl := Option.some.inj hf
  refine ok_ireturn (L := [some (.inr (.inr (.inl 63))), some (.inl v1)]) (M := mm q1.1 h) (x := (-1)) rfl rfl ?_
  exact ⟨rfl, rfl⟩
