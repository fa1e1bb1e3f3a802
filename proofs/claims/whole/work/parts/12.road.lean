/-! shallow functions of the road (printed by wip/tools/gen10.py) -/
def f_Road_jobs (V : VV)  : Int := w32 ((V 1 8) * (V 1 9))
set_option maxRecDepth 20000 in
set_option maxHeartbeats 4000000 in
theorem s_Road_jobs {X : Xs} {d : Nat} {V : VV} {h : HP} {q : Int} (hf : f_Road_jobs V = q) : Ok X (d + 1) 25 0 ([some (.inr (.inr (.inl 2)))], [], mm V h) (fun M r => M = mm V h ∧ r = some (.inl q)) := by
  let QQ : Mm → Option AV → Prop := fun M r => M = mm V h ∧ r = some (.inl q)
  show Ok X (d + 1) 25 0 ([some (.inr (.inr (.inl 2)))], [], mm V h) QQ
  have hq : (w32 ((V 1 8) * (V 1 9))) = q := hf
  subst hq
  refine ok_ireturn (L := [some (.inr (.inr (.inl 2)))]) (M := mm V h) (x := w32 ((V 1 8) * (V 1 9))) rfl rfl ?_
  exact ⟨rfl, rfl⟩
def f_Road_sectionOf (V : VV) (v1 : Int) : Option (Int) := if (V 1 8) = 0 then some 0 else if (V 1 8) = 0 then none else some (Int.tmod v1 (V 1 8))
set_option maxRecDepth 20000 in
set_option maxHeartbeats 4000000 in
theorem s_Road_sectionOf {X : Xs} {d : Nat} {V : VV} {h : HP} {v1 : Int} {q : Int} (hf : f_Road_sectionOf V v1 = some q) : Ok X (d + 1) 26 0 ([some (.inr (.inr (.inl 2))), some (.inl v1)], [], mm V h) (fun M r => M = mm V h ∧ r = some (.inl q)) := by
  let QQ : Mm → Option AV → Prop := fun M r => M = mm V h ∧ r = some (.inl q)
  show Ok X (d + 1) 26 0 ([some (.inr (.inr (.inl 2))), some (.inl v1)], [], mm V h) QQ
  refine ok_if_ne (x := V 1 8) (L := [some (.inr (.inr (.inl 2))), some (.inl v1)]) (S := []) (M := mm V h) rfl rfl (fun c1 => ?_) (fun c1 => ?_)
  ·
    replace hf := (if_neg c1).symm.trans hf
    by_cases c2 : (V 1 8) = 0
    case pos => replace hf := (if_pos c2).symm.trans hf; cases hf
    replace hf := (if_neg c2).symm.trans hf
    refine ok_irem (u := v1) (v := V 1 8) (L := [some (.inr (.inr (.inl 2))), some (.inl v1)]) (S := []) (M := mm V h) rfl rfl c2 ?_
    obtain rfl := Option.some.inj hf
    refine ok_ireturn (L := [some (.inr (.inr (.inl 2))), some (.inl v1)]) (M := mm V h) (x := Int.tmod v1 (V 1 8)) rfl rfl ?_
    exact ⟨rfl, rfl⟩
  ·
    replace hf := (if_pos c1).symm.trans hf
    refine ok_goto (L := [some (.inr (.inr (.inl 2))), some (.inl v1)]) (S := [.inl 0]) (M := mm V h) rfl rfl ?_
    obtain rfl := Option.some.inj hf
    refine ok_ireturn (L := [some (.inr (.inr (.inl 2))), some (.inl v1)]) (M := mm V h) (x := 0) rfl rfl ?_
    exact ⟨rfl, rfl⟩
def f_Road_layerOf (V : VV) (v1 : Int) : Int := cutV v1 (V 1 8)
set_option maxRecDepth 20000 in
set_option maxHeartbeats 4000000 in
theorem s_Road_layerOf {X : Xs} {d : Nat} {V : VV} {h : HP} {v1 : Int} {q : Int} (hf : f_Road_layerOf V v1 = q) : Ok X (d + 2) 27 0 ([some (.inr (.inr (.inl 2))), some (.inl v1)], [], mm V h) (fun M r => M = mm V h ∧ r = some (.inl q)) := by
  let QQ : Mm → Option AV → Prop := fun M r => M = mm V h ∧ r = some (.inl q)
  show Ok X (d + 2) 27 0 ([some (.inr (.inr (.inl 2))), some (.inl v1)], [], mm V h) QQ
  refine ok_callA (L := [some (.inr (.inr (.inl 2))), some (.inl v1)]) (M := mm V h) (args := [.inl v1, .inl (V 1 8)]) (rest := []) (y2 := 28) rfl rfl rfl (Or.inr (Or.inl rfl)) rfl rfl (Nat.le_of_ble_eq_true rfl) rfl rfl (Nat.le_of_ble_eq_true rfl) (Nat.le_of_ble_eq_true rfl) (w_cut rfl) ?_
  rintro _ _ ⟨rfl, rfl⟩
  have hq : (cutV v1 (V 1 8)) = q := hf
  subst hq
  refine ok_ireturn (L := [some (.inr (.inr (.inl 2))), some (.inl v1)]) (M := mm V h) (x := cutV v1 (V 1 8)) rfl rfl ?_
  exact ⟨rfl, rfl⟩
def f_Road_kindOf (V : VV) (v1 : Int) : Int := atV V 7 3 (f_Road_layerOf V v1)
set_option maxRecDepth 20000 in
set_option maxHeartbeats 4000000 in
theorem s_Road_kindOf {X : Xs} {d : Nat} {V : VV} {h : HP} {v1 : Int} {q : Int} (hf : f_Road_kindOf V v1 = q) : Ok X (d + 3) 110 0 ([some (.inr (.inr (.inl 2))), some (.inl v1)], [], mm V h) (fun M r => M = mm V h ∧ r = some (.inl q)) := by
  let QQ : Mm → Option AV → Prop := fun M r => M = mm V h ∧ r = some (.inl q)
  show Ok X (d + 3) 110 0 ([some (.inr (.inr (.inl 2))), some (.inl v1)], [], mm V h) QQ
  refine ok_callA (L := [some (.inr (.inr (.inl 2))), some (.inl v1)]) (M := mm V h) (args := [.inr (.inr (.inl 2)), .inl v1]) (rest := [.inr (.inr (.inl 8))]) (y2 := 27) rfl rfl rfl (Or.inl rfl) rfl rfl (Nat.le_of_ble_eq_true rfl) rfl rfl (Nat.le_of_ble_eq_true rfl) (Nat.le_of_ble_eq_true rfl) (s_Road_layerOf rfl) ?_
  rintro _ _ ⟨rfl, rfl⟩
  refine ok_callA (L := [some (.inr (.inr (.inl 2))), some (.inl v1)]) (M := mm V h) (args := [.inr (.inr (.inl 8)), .inl (f_Road_layerOf V v1)]) (rest := []) (y2 := 21) rfl rfl rfl (Or.inr (Or.inl rfl)) rfl rfl (Nat.le_of_ble_eq_true rfl) rfl rfl (Nat.le_of_ble_eq_true rfl) (Nat.le_of_ble_eq_true rfl) (w_at rfl rfl) ?_
  rintro _ _ ⟨rfl, rfl⟩
  have hq : (atV V 7 3 (f_Road_layerOf V v1)) = q := hf
  subst hq
  refine ok_ireturn (L := [some (.inr (.inr (.inl 2))), some (.inl v1)]) (M := mm V h) (x := atV V 7 3 (f_Road_layerOf V v1)) rfl rfl ?_
  exact ⟨rfl, rfl⟩
def f_Road_cheapest_2 : Nat → VV → Int → Int → Int → Int → Int → (Option (Int))
  | 0, _, _, _, _, _, _ => none
  | n + 1, V, v1, v3, v4, v5, v6 => if (min 60 v3) < v6 then some v4 else f_Road_cheapest_2 n V v1 v3 (if (atV V 5 732 (w32 ((w32 (v1 * 61)) + v6))) < v5 then v6 else v4 : Int) (if (atV V 5 732 (w32 ((w32 (v1 * 61)) + v6))) < v5 then atV V 5 732 (w32 ((w32 (v1 * 61)) + v6)) else v5 : Int) (w32 (v6 + 1))
set_option maxRecDepth 20000 in
set_option maxHeartbeats 4000000 in
theorem s_Road_cheapest_2_n {X : Xs} {d : Nat} {V : VV} {h : HP} {q : Int} : ∀ (n : Nat) (v1 : Int) (v3 : Int) (v4 : Int) (v5 : Int) (v6 : Int) (w2 : Int) (z7 : Option AV), f_Road_cheapest_2 n V v1 v3 v4 v5 v6 = some q → Ok X (d + 2) 22 2 ([some (.inr (.inr (.inl 2))), some (.inl v1), some (.inl w2), some (.inl v3), some (.inl v4), some (.inl v5), some (.inl v6), z7], [], mm V h) (fun M r => M = mm V h ∧ r = some (.inl q)) := by
  intro n
  induction n with
  | zero => intro v1 v3 v4 v5 v6 w2 z7 hf; cases hf
  | succ n ih =>
    intro v1 v3 v4 v5 v6 w2 z7 hf
    let QQ : Mm → Option AV → Prop := fun M r => M = mm V h ∧ r = some (.inl q)
    show Ok X (d + 2) 22 2 ([some (.inr (.inr (.inl 2))), some (.inl v1), some (.inl w2), some (.inl v3), some (.inl v4), some (.inl v5), some (.inl v6), z7], [], mm V h) QQ
    refine ok_mmin (u := 60) (v := v3) (L := [some (.inr (.inr (.inl 2))), some (.inl v1), some (.inl w2), some (.inl v3), some (.inl v4), some (.inl v5), some (.inl v6), z7]) (S := [.inl v6]) (M := mm V h) rfl rfl rfl (Nat.le_of_ble_eq_true rfl) ?_
    refine ok_ic_gt (x := v6) (u := min 60 v3) (L := [some (.inr (.inr (.inl 2))), some (.inl v1), some (.inl w2), some (.inl v3), some (.inl v4), some (.inl v5), some (.inl v6), z7]) (S := []) (M := mm V h) rfl rfl (fun c1 => ?_) (fun c1 => ?_)
    ·
      replace hf := (if_pos c1).symm.trans hf
      obtain rfl := Option.some.inj hf
      refine ok_ireturn (L := [some (.inr (.inr (.inl 2))), some (.inl v1), some (.inl w2), some (.inl v3), some (.inl v4), some (.inl v5), some (.inl v6), z7]) (M := mm V h) (x := v4) rfl rfl ?_
      exact ⟨rfl, rfl⟩
    ·
      replace hf := (if_neg (Int.not_lt.mpr c1)).symm.trans hf
      refine ok_callA (L := [some (.inr (.inr (.inl 2))), some (.inl v1), some (.inl w2), some (.inl v3), some (.inl v4), some (.inl v5), some (.inl v6), z7]) (M := mm V h) (args := [.inr (.inr (.inl 6)), .inl (w32 ((w32 (v1 * 61)) + v6))]) (rest := []) (y2 := 21) rfl rfl rfl (Or.inr (Or.inl rfl)) rfl rfl (Nat.le_of_ble_eq_true rfl) rfl rfl (Nat.le_of_ble_eq_true rfl) (Nat.le_of_ble_eq_true rfl) (w_at rfl rfl) ?_
      rintro _ _ ⟨rfl, rfl⟩
      have JN3 : Ok X (d + 2) 22 7 ([some (.inr (.inr (.inl 2))), some (.inl v1), some (.inl w2), some (.inl v3), some (.inl (if (atV V 5 732 (w32 ((w32 (v1 * 61)) + v6))) < v5 then v6 else v4 : Int)), some (.inl (if (atV V 5 732 (w32 ((w32 (v1 * 61)) + v6))) < v5 then atV V 5 732 (w32 ((w32 (v1 * 61)) + v6)) else v5 : Int)), some (.inl v6), some (.inl (atV V 5 732 (w32 ((w32 (v1 * 61)) + v6))))], [], mm V h) QQ := by
        refine ok_goto (L := [some (.inr (.inr (.inl 2))), some (.inl v1), some (.inl w2), some (.inl v3), some (.inl (if (atV V 5 732 (w32 ((w32 (v1 * 61)) + v6))) < v5 then v6 else v4 : Int)), some (.inl (if (atV V 5 732 (w32 ((w32 (v1 * 61)) + v6))) < v5 then atV V 5 732 (w32 ((w32 (v1 * 61)) + v6)) else v5 : Int)), some (.inl (w32 (v6 + 1))), some (.inl (atV V 5 732 (w32 ((w32 (v1 * 61)) + v6))))]) (S := []) (M := mm V h) rfl rfl ?_
        exact ih v1 v3 (if (atV V 5 732 (w32 ((w32 (v1 * 61)) + v6))) < v5 then v6 else v4 : Int) (if (atV V 5 732 (w32 ((w32 (v1 * 61)) + v6))) < v5 then atV V 5 732 (w32 ((w32 (v1 * 61)) + v6)) else v5 : Int) (w32 (v6 + 1)) w2 (some (.inl (atV V 5 732 (w32 ((w32 (v1 * 61)) + v6))))) hf
      clear hf
      refine ok_ic_ge (x := atV V 5 732 (w32 ((w32 (v1 * 61)) + v6))) (u := v5) (L := [some (.inr (.inr (.inl 2))), some (.inl v1), some (.inl w2), some (.inl v3), some (.inl v4), some (.inl v5), some (.inl v6), some (.inl (atV V 5 732 (w32 ((w32 (v1 * 61)) + v6))))]) (S := []) (M := mm V h) rfl rfl (fun c4 => ?_) (fun c4 => ?_)
      ·
        simp only [if_neg (Int.not_lt.mpr c4)] at JN3
        first | exact JN3 | (simp only [if_neg (Int.not_lt.mpr c4)]; exact JN3)
      ·
        simp only [if_pos c4] at JN3
        refine ok_thru (L := [some (.inr (.inr (.inl 2))), some (.inl v1), some (.inl w2), some (.inl v3), some (.inl v6), some (.inl (atV V 5 732 (w32 ((w32 (v1 * 61)) + v6)))), some (.inl v6), some (.inl (atV V 5 732 (w32 ((w32 (v1 * 61)) + v6))))]) (S := []) (M := mm V h) rfl rfl ?_
        first | exact JN3 | (simp only [if_pos c4]; exact JN3)
theorem s_Road_cheapest_2 {X : Xs} {d : Nat} {V : VV} {h : HP} {v1 : Int} {v3 : Int} {v4 : Int} {v5 : Int} {v6 : Int} {w2 : Int} {z7 : Option AV} {n : Nat} {q : Int} (hf : f_Road_cheapest_2 n V v1 v3 v4 v5 v6 = some q) : Ok X (d + 2) 22 2 ([some (.inr (.inr (.inl 2))), some (.inl v1), some (.inl w2), some (.inl v3), some (.inl v4), some (.inl v5), some (.inl v6), z7], [], mm V h) (fun M r => M = mm V h ∧ r = some (.inl q)) :=
  s_Road_cheapest_2_n n v1 v3 v4 v5 v6 w2 z7 hf
def f_Road_cheapest (V : VV) (v1 : Int) (v2 : Int) (v3 : Int) : Option (Int) := f_Road_cheapest_2 FU V v1 v3 (-1) 1000000 (max 0 v2)
set_option maxRecDepth 20000 in
set_option maxHeartbeats 4000000 in
theorem s_Road_cheapest {X : Xs} {d : Nat} {V : VV} {h : HP} {v1 : Int} {v2 : Int} {v3 : Int} {q : Int} (hf : f_Road_cheapest V v1 v2 v3 = some q) : Ok X (d + 2) 22 0 ([some (.inr (.inr (.inl 2))), some (.inl v1), some (.inl v2), some (.inl v3), none, none, none, none], [], mm V h) (fun M r => M = mm V h ∧ r = some (.inl q)) := by
  let QQ : Mm → Option AV → Prop := fun M r => M = mm V h ∧ r = some (.inl q)
  show Ok X (d + 2) 22 0 ([some (.inr (.inr (.inl 2))), some (.inl v1), some (.inl v2), some (.inl v3), none, none, none, none], [], mm V h) QQ
  refine ok_mmax (u := 0) (v := v2) (L := [some (.inr (.inr (.inl 2))), some (.inl v1), some (.inl v2), some (.inl v3), some (.inl (-1)), some (.inl 1000000), none, none]) (S := []) (M := mm V h) rfl rfl rfl (Nat.le_of_ble_eq_true rfl) ?_
  refine ok_thru (L := [some (.inr (.inr (.inl 2))), some (.inl v1), some (.inl v2), some (.inl v3), some (.inl (-1)), some (.inl 1000000), some (.inl (max 0 v2)), none]) (S := []) (M := mm V h) rfl rfl ?_
  exact s_Road_cheapest_2 hf
def f_Road_costFrom (V : VV) (v1 : Int) (v2 : Int) : Option (Int) := if v2 < (w32 ((atV V 3 12 v1) - (V 1 12))) then some 1000000 else if (w32 (v1 + 1)) < (V 1 8) then Option.bind (f_Road_cheapest V (w32 (v1 + 1)) (w32 (v2 - (V 1 11))) (w32 (v2 + (V 1 11)))) (fun q5 => some (if q5 = (-1) then 1000000 else w32 ((if v2 < (atV V 3 12 v1) then w32 ((w32 ((atV V 3 12 v1) - v2)) * (V 1 13)) else w32 ((w32 (v2 - (atV V 3 12 v1))) * (V 1 14)) : Int) + (atV V 5 732 (w32 ((w32 ((w32 (v1 + 1)) * 61)) + q5)))) : Int)) else some (if v2 < (atV V 3 12 v1) then w32 ((w32 ((atV V 3 12 v1) - v2)) * (V 1 13)) else w32 ((w32 (v2 - (atV V 3 12 v1))) * (V 1 14)) : Int)
set_option maxRecDepth 20000 in
set_option maxHeartbeats 4000000 in
theorem s_Road_costFrom {X : Xs} {d : Nat} {V : VV} {h : HP} {v1 : Int} {v2 : Int} {q : Int} (hf : f_Road_costFrom V v1 v2 = some q) : Ok X (d + 3) 20 0 ([some (.inr (.inr (.inl 2))), some (.inl v1), some (.inl v2), none, none, none], [], mm V h) (fun M r => M = mm V h ∧ r = some (.inl q)) := by
  let QQ : Mm → Option AV → Prop := fun M r => M = mm V h ∧ r = some (.inl q)
  show Ok X (d + 3) 20 0 ([some (.inr (.inr (.inl 2))), some (.inl v1), some (.inl v2), none, none, none], [], mm V h) QQ
  refine ok_callA (L := [some (.inr (.inr (.inl 2))), some (.inl v1), some (.inl v2), none, none, none]) (M := mm V h) (args := [.inr (.inr (.inl 4)), .inl v1]) (rest := []) (y2 := 21) rfl rfl rfl (Or.inr (Or.inl rfl)) rfl rfl (Nat.le_of_ble_eq_true rfl) rfl rfl (Nat.le_of_ble_eq_true rfl) (Nat.le_of_ble_eq_true rfl) (w_at rfl rfl) ?_
  rintro _ _ ⟨rfl, rfl⟩
  refine ok_ic_ge (x := v2) (u := w32 ((atV V 3 12 v1) - (V 1 12))) (L := [some (.inr (.inr (.inl 2))), some (.inl v1), some (.inl v2), some (.inl (atV V 3 12 v1)), none, none]) (S := []) (M := mm V h) rfl rfl (fun c2 => ?_) (fun c2 => ?_)
  ·
    replace hf := (if_neg (Int.not_lt.mpr c2)).symm.trans hf
    have JN3 : Ok X (d + 3) 20 6 ([some (.inr (.inr (.inl 2))), some (.inl v1), some (.inl v2), some (.inl (atV V 3 12 v1)), none, none], [.inl (if v2 < (atV V 3 12 v1) then w32 ((w32 ((atV V 3 12 v1) - v2)) * (V 1 13)) else w32 ((w32 (v2 - (atV V 3 12 v1))) * (V 1 14)) : Int)], mm V h) QQ := by
      refine ok_ic_lt (x := w32 (v1 + 1)) (u := V 1 8) (L := [some (.inr (.inr (.inl 2))), some (.inl v1), some (.inl v2), some (.inl (atV V 3 12 v1)), some (.inl (if v2 < (atV V 3 12 v1) then w32 ((w32 ((atV V 3 12 v1) - v2)) * (V 1 13)) else w32 ((w32 (v2 - (atV V 3 12 v1))) * (V 1 14)) : Int)), none]) (S := []) (M := mm V h) rfl rfl (fun c4 => ?_) (fun c4 => ?_)
      ·
        replace hf := (if_pos c4).symm.trans hf
        obtain ⟨q5, e5, hf⟩ := obind hf
        refine ok_callA (L := [some (.inr (.inr (.inl 2))), some (.inl v1), some (.inl v2), some (.inl (atV V 3 12 v1)), some (.inl (if v2 < (atV V 3 12 v1) then w32 ((w32 ((atV V 3 12 v1) - v2)) * (V 1 13)) else w32 ((w32 (v2 - (atV V 3 12 v1))) * (V 1 14)) : Int)), none]) (M := mm V h) (args := [.inr (.inr (.inl 2)), .inl (w32 (v1 + 1)), .inl (w32 (v2 - (V 1 11))), .inl (w32 (v2 + (V 1 11)))]) (rest := []) (y2 := 22) rfl rfl rfl (Or.inl rfl) rfl rfl (Nat.le_of_ble_eq_true rfl) rfl rfl (Nat.le_of_ble_eq_true rfl) (Nat.le_of_ble_eq_true rfl) (s_Road_cheapest e5) ?_
        rintro _ _ ⟨rfl, rfl⟩
        have JN6 : Ok X (d + 3) 20 13 ([some (.inr (.inr (.inl 2))), some (.inl v1), some (.inl v2), some (.inl (atV V 3 12 v1)), some (.inl (if v2 < (atV V 3 12 v1) then w32 ((w32 ((atV V 3 12 v1) - v2)) * (V 1 13)) else w32 ((w32 (v2 - (atV V 3 12 v1))) * (V 1 14)) : Int)), some (.inl q5)], [.inl (if q5 = (-1) then 1000000 else w32 ((if v2 < (atV V 3 12 v1) then w32 ((w32 ((atV V 3 12 v1) - v2)) * (V 1 13)) else w32 ((w32 (v2 - (atV V 3 12 v1))) * (V 1 14)) : Int) + (atV V 5 732 (w32 ((w32 ((w32 (v1 + 1)) * 61)) + q5)))) : Int)], mm V h) QQ := by
          obtain rfl := Option.some.inj hf
          refine ok_ireturn (L := [some (.inr (.inr (.inl 2))), some (.inl v1), some (.inl v2), some (.inl (atV V 3 12 v1)), some (.inl (if v2 < (atV V 3 12 v1) then w32 ((w32 ((atV V 3 12 v1) - v2)) * (V 1 13)) else w32 ((w32 (v2 - (atV V 3 12 v1))) * (V 1 14)) : Int)), some (.inl q5)]) (M := mm V h) (x := (if q5 = (-1) then 1000000 else w32 ((if v2 < (atV V 3 12 v1) then w32 ((w32 ((atV V 3 12 v1) - v2)) * (V 1 13)) else w32 ((w32 (v2 - (atV V 3 12 v1))) * (V 1 14)) : Int) + (atV V 5 732 (w32 ((w32 ((w32 (v1 + 1)) * 61)) + q5)))) : Int)) rfl rfl ?_
          exact ⟨rfl, rfl⟩
        clear hf
        refine ok_ic_ne (x := q5) (u := (-1)) (L := [some (.inr (.inr (.inl 2))), some (.inl v1), some (.inl v2), some (.inl (atV V 3 12 v1)), some (.inl (if v2 < (atV V 3 12 v1) then w32 ((w32 ((atV V 3 12 v1) - v2)) * (V 1 13)) else w32 ((w32 (v2 - (atV V 3 12 v1))) * (V 1 14)) : Int)), some (.inl q5)]) (S := []) (M := mm V h) rfl rfl (fun c7 => ?_) (fun c7 => ?_)
        ·
          simp only [if_neg c7] at JN6
          refine ok_callA (L := [some (.inr (.inr (.inl 2))), some (.inl v1), some (.inl v2), some (.inl (atV V 3 12 v1)), some (.inl (if v2 < (atV V 3 12 v1) then w32 ((w32 ((atV V 3 12 v1) - v2)) * (V 1 13)) else w32 ((w32 (v2 - (atV V 3 12 v1))) * (V 1 14)) : Int)), some (.inl q5)]) (M := mm V h) (args := [.inr (.inr (.inl 6)), .inl (w32 ((w32 ((w32 (v1 + 1)) * 61)) + q5))]) (rest := [.inl (if v2 < (atV V 3 12 v1) then w32 ((w32 ((atV V 3 12 v1) - v2)) * (V 1 13)) else w32 ((w32 (v2 - (atV V 3 12 v1))) * (V 1 14)) : Int)]) (y2 := 21) rfl rfl rfl (Or.inr (Or.inl rfl)) rfl rfl (Nat.le_of_ble_eq_true rfl) rfl rfl (Nat.le_of_ble_eq_true rfl) (Nat.le_of_ble_eq_true rfl) (w_at rfl rfl) ?_
          rintro _ _ ⟨rfl, rfl⟩
          refine ok_thru (L := [some (.inr (.inr (.inl 2))), some (.inl v1), some (.inl v2), some (.inl (atV V 3 12 v1)), some (.inl (if v2 < (atV V 3 12 v1) then w32 ((w32 ((atV V 3 12 v1) - v2)) * (V 1 13)) else w32 ((w32 (v2 - (atV V 3 12 v1))) * (V 1 14)) : Int)), some (.inl q5)]) (S := [.inl (w32 ((if v2 < (atV V 3 12 v1) then w32 ((w32 ((atV V 3 12 v1) - v2)) * (V 1 13)) else w32 ((w32 (v2 - (atV V 3 12 v1))) * (V 1 14)) : Int) + (atV V 5 732 (w32 ((w32 ((w32 (v1 + 1)) * 61)) + q5)))))]) (M := mm V h) rfl rfl ?_
          first | exact JN6 | (simp only [if_neg c7]; exact JN6)
        ·
          simp only [if_pos c7] at JN6
          refine ok_goto (L := [some (.inr (.inr (.inl 2))), some (.inl v1), some (.inl v2), some (.inl (atV V 3 12 v1)), some (.inl (if v2 < (atV V 3 12 v1) then w32 ((w32 ((atV V 3 12 v1) - v2)) * (V 1 13)) else w32 ((w32 (v2 - (atV V 3 12 v1))) * (V 1 14)) : Int)), some (.inl q5)]) (S := [.inl 1000000]) (M := mm V h) rfl rfl ?_
          first | exact JN6 | (simp only [if_pos c7]; exact JN6)
      ·
        replace hf := (if_neg (Int.not_lt.mpr c4)).symm.trans hf
        obtain rfl := Option.some.inj hf
        refine ok_ireturn (L := [some (.inr (.inr (.inl 2))), some (.inl v1), some (.inl v2), some (.inl (atV V 3 12 v1)), some (.inl (if v2 < (atV V 3 12 v1) then w32 ((w32 ((atV V 3 12 v1) - v2)) * (V 1 13)) else w32 ((w32 (v2 - (atV V 3 12 v1))) * (V 1 14)) : Int)), none]) (M := mm V h) (x := (if v2 < (atV V 3 12 v1) then w32 ((w32 ((atV V 3 12 v1) - v2)) * (V 1 13)) else w32 ((w32 (v2 - (atV V 3 12 v1))) * (V 1 14)) : Int)) rfl rfl ?_
        exact ⟨rfl, rfl⟩
    clear hf
    refine ok_ic_ge (x := v2) (u := atV V 3 12 v1) (L := [some (.inr (.inr (.inl 2))), some (.inl v1), some (.inl v2), some (.inl (atV V 3 12 v1)), none, none]) (S := []) (M := mm V h) rfl rfl (fun c9 => ?_) (fun c9 => ?_)
    ·
      simp only [if_neg (Int.not_lt.mpr c9)] at JN3
      refine ok_thru (L := [some (.inr (.inr (.inl 2))), some (.inl v1), some (.inl v2), some (.inl (atV V 3 12 v1)), none, none]) (S := [.inl (w32 ((w32 (v2 - (atV V 3 12 v1))) * (V 1 14)))]) (M := mm V h) rfl rfl ?_
      first | exact JN3 | (simp only [if_neg (Int.not_lt.mpr c9)]; exact JN3)
    ·
      simp only [if_pos c9] at JN3
      refine ok_goto (L := [some (.inr (.inr (.inl 2))), some (.inl v1), some (.inl v2), some (.inl (atV V 3 12 v1)), none, none]) (S := [.inl (w32 ((w32 ((atV V 3 12 v1) - v2)) * (V 1 13)))]) (M := mm V h) rfl rfl ?_
      first | exact JN3 | (simp only [if_pos c9]; exact JN3)
  ·
    replace hf := (if_pos c2).symm.trans hf
    obtain rfl := Option.some.inj hf
    refine ok_ireturn (L := [some (.inr (.inr (.inl 2))), some (.inl v1), some (.inl v2), some (.inl (atV V 3 12 v1)), none, none]) (M := mm V h) (x := 1000000) rfl rfl ?_
    exact ⟨rfl, rfl⟩
def f_Road_weighHeights_3 (k1 : VV → Int → (Option (VV))) : Nat → VV → Int → Int → (Option (VV))
  | 0, _, _, _ => none
  | n + 1, V, v1, v2 => if v2 < 61 then Option.bind (f_Road_costFrom V v1 v2) (fun q2 => lt_ (setV V 5 732 (w32 ((w32 (v1 * 61)) + v2)) q2) (fun q3 => f_Road_weighHeights_3 k1 n q3 v1 (w32 (v2 + 1)))) else k1 V (w32 (v1 + (-1)))
set_option maxRecDepth 20000 in
set_option maxHeartbeats 4000000 in
theorem s_Road_weighHeights_3_n {X : Xs} {d : Nat} {k1 : VV → Int → (Option (VV))} {h : HP} {q : VV} (K1 : ∀ (V : VV) (v1 : Int) (z2 : Option AV), k1 V v1 = some q → Ok X (d + 4) 19 1 ([some (.inr (.inr (.inl 2))), some (.inl v1), z2], [], mm V h) (fun M r => M = mm q h ∧ r = none)) : ∀ (n : Nat) (V : VV) (v1 : Int) (v2 : Int), f_Road_weighHeights_3 k1 n V v1 v2 = some q → Ok X (d + 4) 19 3 ([some (.inr (.inr (.inl 2))), some (.inl v1), some (.inl v2)], [], mm V h) (fun M r => M = mm q h ∧ r = none) := by
  intro n
  induction n with
  | zero => intro V v1 v2 hf; cases hf
  | succ n ih =>
    intro V v1 v2 hf
    let QQ : Mm → Option AV → Prop := fun M r => M = mm q h ∧ r = none
    show Ok X (d + 4) 19 3 ([some (.inr (.inr (.inl 2))), some (.inl v1), some (.inl v2)], [], mm V h) QQ
    refine ok_ic_ge (x := v2) (u := 61) (L := [some (.inr (.inr (.inl 2))), some (.inl v1), some (.inl v2)]) (S := []) (M := mm V h) rfl rfl (fun c1 => ?_) (fun c1 => ?_)
    ·
      replace hf := (if_neg (Int.not_lt.mpr c1)).symm.trans hf
      refine ok_goto (L := [some (.inr (.inr (.inl 2))), some (.inl (w32 (v1 + (-1)))), some (.inl v2)]) (S := []) (M := mm V h) rfl rfl ?_
      exact K1 V (w32 (v1 + (-1))) (some (.inl v2)) hf
    ·
      replace hf := (if_pos c1).symm.trans hf
      obtain ⟨q2, e2, hf⟩ := obind hf
      refine ok_callA (L := [some (.inr (.inr (.inl 2))), some (.inl v1), some (.inl v2)]) (M := mm V h) (args := [.inr (.inr (.inl 2)), .inl v1, .inl v2]) (rest := [.inl (w32 ((w32 (v1 * 61)) + v2)), .inr (.inr (.inl 6))]) (y2 := 20) rfl rfl rfl (Or.inl rfl) rfl rfl (Nat.le_of_ble_eq_true rfl) rfl rfl (Nat.le_of_ble_eq_true rfl) (Nat.le_of_ble_eq_true rfl) (s_Road_costFrom e2) ?_
      rintro _ _ ⟨rfl, rfl⟩
      obtain ⟨q3, e3, hf⟩ := lt_x hf
      refine ok_callA (L := [some (.inr (.inr (.inl 2))), some (.inl v1), some (.inl v2)]) (M := mm V h) (args := [.inr (.inr (.inl 6)), .inl (w32 ((w32 (v1 * 61)) + v2)), .inl q2]) (rest := []) (y2 := 9) rfl rfl rfl (Or.inr (Or.inl rfl)) rfl rfl (Nat.le_of_ble_eq_true rfl) rfl rfl (Nat.le_of_ble_eq_true rfl) (Nat.le_of_ble_eq_true rfl) (w_set rfl e3) ?_
      rintro _ _ ⟨rfl, rfl⟩
      refine ok_goto (L := [some (.inr (.inr (.inl 2))), some (.inl v1), some (.inl (w32 (v2 + 1)))]) (S := []) (M := mm q3 h) rfl rfl ?_
      exact ih q3 v1 (w32 (v2 + 1)) hf
theorem s_Road_weighHeights_3 {X : Xs} {d : Nat} {k1 : VV → Int → (Option (VV))} {h : HP} {V : VV} {v1 : Int} {v2 : Int} {n : Nat} {q : VV} (hf : f_Road_weighHeights_3 k1 n V v1 v2 = some q) (K1 : ∀ (V : VV) (v1 : Int) (z2 : Option AV), k1 V v1 = some q → Ok X (d + 4) 19 1 ([some (.inr (.inr (.inl 2))), some (.inl v1), z2], [], mm V h) (fun M r => M = mm q h ∧ r = none)) : Ok X (d + 4) 19 3 ([some (.inr (.inr (.inl 2))), some (.inl v1), some (.inl v2)], [], mm V h) (fun M r => M = mm q h ∧ r = none) :=
  s_Road_weighHeights_3_n K1 n V v1 v2 hf
def f_Road_weighHeights_1 : Nat → VV → Int → (Option (VV))
  | 0, _, _ => none
  | n + 1, V, v1 => if v1 < 0 then some V else f_Road_weighHeights_3 (f_Road_weighHeights_1 n) FU V v1 0
set_option maxRecDepth 20000 in
set_option maxHeartbeats 4000000 in
theorem s_Road_weighHeights_1_n {X : Xs} {d : Nat} {h : HP} {q : VV} : ∀ (n : Nat) (V : VV) (v1 : Int) (z2 : Option AV), f_Road_weighHeights_1 n V v1 = some q → Ok X (d + 4) 19 1 ([some (.inr (.inr (.inl 2))), some (.inl v1), z2], [], mm V h) (fun M r => M = mm q h ∧ r = none) := by
  intro n
  induction n with
  | zero => intro V v1 z2 hf; cases hf
  | succ n ih =>
    intro V v1 z2 hf
    let QQ : Mm → Option AV → Prop := fun M r => M = mm q h ∧ r = none
    show Ok X (d + 4) 19 1 ([some (.inr (.inr (.inl 2))), some (.inl v1), z2], [], mm V h) QQ
    refine ok_if_lt (x := v1) (L := [some (.inr (.inr (.inl 2))), some (.inl v1), z2]) (S := []) (M := mm V h) rfl rfl (fun c1 => ?_) (fun c1 => ?_)
    ·
      replace hf := (if_pos c1).symm.trans hf
      obtain rfl := Option.some.inj hf
      refine ok_return (L := [some (.inr (.inr (.inl 2))), some (.inl v1), z2]) (M := mm V h) rfl rfl ?_
      exact ⟨rfl, rfl⟩
    ·
      replace hf := (if_neg (Int.not_lt.mpr c1)).symm.trans hf
      refine ok_thru (L := [some (.inr (.inr (.inl 2))), some (.inl v1), some (.inl 0)]) (S := []) (M := mm V h) rfl rfl ?_
      exact s_Road_weighHeights_3 hf ih
theorem s_Road_weighHeights_1 {X : Xs} {d : Nat} {h : HP} {V : VV} {v1 : Int} {z2 : Option AV} {n : Nat} {q : VV} (hf : f_Road_weighHeights_1 n V v1 = some q) : Ok X (d + 4) 19 1 ([some (.inr (.inr (.inl 2))), some (.inl v1), z2], [], mm V h) (fun M r => M = mm q h ∧ r = none) :=
  s_Road_weighHeights_1_n n V v1 z2 hf
def f_Road_weighHeights (V : VV)  : Option (VV) := f_Road_weighHeights_1 FU V (w32 ((V 1 8) - 1))
set_option maxRecDepth 20000 in
set_option maxHeartbeats 4000000 in
theorem s_Road_weighHeights {X : Xs} {d : Nat} {V : VV} {h : HP} {q : VV} (hf : f_Road_weighHeights V = some q) : Ok X (d + 4) 19 0 ([some (.inr (.inr (.inl 2))), none, none], [], mm V h) (fun M r => M = mm q h ∧ r = none) := by
  let QQ : Mm → Option AV → Prop := fun M r => M = mm q h ∧ r = none
  show Ok X (d + 4) 19 0 ([some (.inr (.inr (.inl 2))), none, none], [], mm V h) QQ
  refine ok_thru (L := [some (.inr (.inr (.inl 2))), some (.inl (w32 ((V 1 8) - 1))), none]) (S := []) (M := mm V h) rfl rfl ?_
  exact s_Road_weighHeights_1 hf
def f_Road_chooseLevels_9 (k1 : VV → Int → Int → Int → (Option (VV))) (V : VV) (v3 : Int) (v4 : Int) : Option (VV) := k1 V (w32 (v4 - (V 1 11))) (w32 (v4 + (V 1 11))) (w32 (v3 + 1))
set_option maxRecDepth 20000 in
set_option maxHeartbeats 4000000 in
theorem s_Road_chooseLevels_9 {X : Xs} {d : Nat} {k1 : VV → Int → Int → Int → (Option (VV))} {V : VV} {h : HP} {v3 : Int} {v4 : Int} {w1 : Int} {w2 : Int} {q : VV} (hf : f_Road_chooseLevels_9 k1 V v3 v4 = some q) (K1 : ∀ (V : VV) (v1 : Int) (v2 : Int) (v3 : Int) (z4 : Option AV), k1 V v1 v2 v3 = some q → Ok X (d + 3) 23 1 ([some (.inr (.inr (.inl 2))), some (.inl v1), some (.inl v2), some (.inl v3), z4], [], mm V h) (fun M r => M = mm q h ∧ r = none)) : Ok X (d + 3) 23 9 ([some (.inr (.inr (.inl 2))), some (.inl w1), some (.inl w2), some (.inl v3), some (.inl v4)], [], mm V h) (fun M r => M = mm q h ∧ r = none) := by
  let QQ : Mm → Option AV → Prop := fun M r => M = mm q h ∧ r = none
  show Ok X (d + 3) 23 9 ([some (.inr (.inr (.inl 2))), some (.inl w1), some (.inl w2), some (.inl v3), some (.inl v4)], [], mm V h) QQ
  refine ok_goto (L := [some (.inr (.inr (.inl 2))), some (.inl (w32 (v4 - (V 1 11)))), some (.inl (w32 (v4 + (V 1 11)))), some (.inl (w32 (v3 + 1))), some (.inl v4)]) (S := []) (M := mm V h) rfl rfl ?_
  exact K1 V (w32 (v4 - (V 1 11))) (w32 (v4 + (V 1 11))) (w32 (v3 + 1)) (some (.inl v4)) hf
def f_Road_chooseLevels_1 : Nat → VV → Int → Int → Int → (Option (VV))
  | 0, _, _, _, _ => none
  | n + 1, V, v1, v2, v3 => if v3 < (V 1 8) then Option.bind (f_Road_cheapest V v3 v1 v2) (fun q2 => if q2 = (-1) then some (up V 1 15 (-1)) else lt_ (setV V 4 12 v3 q2) (fun q4 => if v3 = 0 then f_Road_chooseLevels_9 (f_Road_chooseLevels_1 n) (up q4 1 15 (atV q4 5 732 q2)) v3 q2 else f_Road_chooseLevels_9 (f_Road_chooseLevels_1 n) q4 v3 q2)) else some V
set_option maxRecDepth 20000 in
set_option maxHeartbeats 4000000 in
theorem s_Road_chooseLevels_1_n {X : Xs} {d : Nat} {h : HP} {q : VV} : ∀ (n : Nat) (V : VV) (v1 : Int) (v2 : Int) (v3 : Int) (z4 : Option AV), f_Road_chooseLevels_1 n V v1 v2 v3 = some q → Ok X (d + 3) 23 1 ([some (.inr (.inr (.inl 2))), some (.inl v1), some (.inl v2), some (.inl v3), z4], [], mm V h) (fun M r => M = mm q h ∧ r = none) := by
  intro n
  induction n with
  | zero => intro V v1 v2 v3 z4 hf; cases hf
  | succ n ih =>
    intro V v1 v2 v3 z4 hf
    let QQ : Mm → Option AV → Prop := fun M r => M = mm q h ∧ r = none
    show Ok X (d + 3) 23 1 ([some (.inr (.inr (.inl 2))), some (.inl v1), some (.inl v2), some (.inl v3), z4], [], mm V h) QQ
    refine ok_ic_ge (x := v3) (u := V 1 8) (L := [some (.inr (.inr (.inl 2))), some (.inl v1), some (.inl v2), some (.inl v3), z4]) (S := []) (M := mm V h) rfl rfl (fun c1 => ?_) (fun c1 => ?_)
    ·
      replace hf := (if_neg (Int.not_lt.mpr c1)).symm.trans hf
      obtain rfl := Option.some.inj hf
      refine ok_return (L := [some (.inr (.inr (.inl 2))), some (.inl v1), some (.inl v2), some (.inl v3), z4]) (M := mm V h) rfl rfl ?_
      exact ⟨rfl, rfl⟩
    ·
      replace hf := (if_pos c1).symm.trans hf
      obtain ⟨q2, e2, hf⟩ := obind hf
      refine ok_callA (L := [some (.inr (.inr (.inl 2))), some (.inl v1), some (.inl v2), some (.inl v3), z4]) (M := mm V h) (args := [.inr (.inr (.inl 2)), .inl v3, .inl v1, .inl v2]) (rest := []) (y2 := 22) rfl rfl rfl (Or.inl rfl) rfl rfl (Nat.le_of_ble_eq_true rfl) rfl rfl (Nat.le_of_ble_eq_true rfl) (Nat.le_of_ble_eq_true rfl) (s_Road_cheapest e2) ?_
      rintro _ _ ⟨rfl, rfl⟩
      refine ok_ic_ne (x := q2) (u := (-1)) (L := [some (.inr (.inr (.inl 2))), some (.inl v1), some (.inl v2), some (.inl v3), some (.inl q2)]) (S := []) (M := mm V h) rfl rfl (fun c3 => ?_) (fun c3 => ?_)
      ·
        replace hf := (if_neg c3).symm.trans hf
        obtain ⟨q4, e4, hf⟩ := lt_x hf
        refine ok_callA (L := [some (.inr (.inr (.inl 2))), some (.inl v1), some (.inl v2), some (.inl v3), some (.inl q2)]) (M := mm V h) (args := [.inr (.inr (.inl 5)), .inl v3, .inl q2]) (rest := []) (y2 := 9) rfl rfl rfl (Or.inr (Or.inl rfl)) rfl rfl (Nat.le_of_ble_eq_true rfl) rfl rfl (Nat.le_of_ble_eq_true rfl) (Nat.le_of_ble_eq_true rfl) (w_set rfl e4) ?_
        rintro _ _ ⟨rfl, rfl⟩
        refine ok_if_ne (x := v3) (L := [some (.inr (.inr (.inl 2))), some (.inl v1), some (.inl v2), some (.inl v3), some (.inl q2)]) (S := []) (M := mm q4 h) rfl rfl (fun c5 => ?_) (fun c5 => ?_)
        ·
          replace hf := (if_neg c5).symm.trans hf
          exact s_Road_chooseLevels_9 hf ih
        ·
          replace hf := (if_pos c5).symm.trans hf
          refine ok_callA (L := [some (.inr (.inr (.inl 2))), some (.inl v1), some (.inl v2), some (.inl v3), some (.inl q2)]) (M := mm q4 h) (args := [.inr (.inr (.inl 6)), .inl q2]) (rest := [.inr (.inr (.inl 2))]) (y2 := 21) rfl rfl rfl (Or.inr (Or.inl rfl)) rfl rfl (Nat.le_of_ble_eq_true rfl) rfl rfl (Nat.le_of_ble_eq_true rfl) (Nat.le_of_ble_eq_true rfl) (w_at rfl rfl) ?_
          rintro _ _ ⟨rfl, rfl⟩
          refine ok_thru (L := [some (.inr (.inr (.inl 2))), some (.inl v1), some (.inl v2), some (.inl v3), some (.inl q2)]) (S := []) (M := mm (up q4 1 15 (atV q4 5 732 q2)) h) rfl rfl ?_
          exact s_Road_chooseLevels_9 hf ih
      ·
        replace hf := (if_pos c3).symm.trans hf
        obtain rfl := Option.some.inj hf
        refine ok_return (L := [some (.inr (.inr (.inl 2))), some (.inl v1), some (.inl v2), some (.inl v3), some (.inl q2)]) (M := mm (up V 1 15 (-1)) h) rfl rfl ?_
        exact ⟨rfl, rfl⟩
theorem s_Road_chooseLevels_1 {X : Xs} {d : Nat} {h : HP} {V : VV} {v1 : Int} {v2 : Int} {v3 : Int} {z4 : Option AV} {n : Nat} {q : VV} (hf : f_Road_chooseLevels_1 n V v1 v2 v3 = some q) : Ok X (d + 3) 23 1 ([some (.inr (.inr (.inl 2))), some (.inl v1), some (.inl v2), some (.inl v3), z4], [], mm V h) (fun M r => M = mm q h ∧ r = none) :=
  s_Road_chooseLevels_1_n n V v1 v2 v3 z4 hf
def f_Road_chooseLevels (V : VV)  : Option (VV) := f_Road_chooseLevels_1 FU (up V 1 15 (-1)) 0 60 0
set_option maxRecDepth 20000 in
set_option maxHeartbeats 4000000 in
theorem s_Road_chooseLevels {X : Xs} {d : Nat} {V : VV} {h : HP} {q : VV} (hf : f_Road_chooseLevels V = some q) : Ok X (d + 3) 23 0 ([some (.inr (.inr (.inl 2))), none, none, none, none], [], mm V h) (fun M r => M = mm q h ∧ r = none) := by
  let QQ : Mm → Option AV → Prop := fun M r => M = mm q h ∧ r = none
  show Ok X (d + 3) 23 0 ([some (.inr (.inr (.inl 2))), none, none, none, none], [], mm V h) QQ
  refine ok_thru (L := [some (.inr (.inr (.inl 2))), some (.inl 0), some (.inl 60), some (.inl 0), none]) (S := []) (M := mm (up V 1 15 (-1)) h) rfl rfl ?_
  exact s_Road_chooseLevels_1 hf
def f_Road_measureJobs_1 : Nat → VV → Int → (Option (VV))
  | 0, _, _ => none
  | n + 1, V, v1 => if v1 < (f_Road_jobs V) then Option.bind (f_Road_sectionOf V v1) (fun q3 => lt_ (setV V 8 36 v1 (w32 ((atV V 6 3 (f_Road_layerOf V v1)) + (if (f_Road_layerOf V v1) = 0 then max 0 (w32 ((atV V 4 12 q3) - (atV V 3 12 q3))) else 0 : Int)))) (fun q7 => lt_ (setV q7 9 36 v1 (w32 (Int.tdiv (w32 ((w32 ((w32 ((w32 ((atV q7 2 12 q3) * (q7 1 10))) * (w32 ((atV V 6 3 (f_Road_layerOf V v1)) + (if (f_Road_layerOf V v1) = 0 then max 0 (w32 ((atV V 4 12 q3) - (atV V 3 12 q3))) else 0 : Int))))) * 24)) + 99999)) 100000))) (fun q10 => f_Road_measureJobs_1 n q10 (w32 (v1 + 1))))) else some V
set_option maxRecDepth 20000 in
set_option maxHeartbeats 4000000 in
theorem s_Road_measureJobs_1_n {X : Xs} {d : Nat} {h : HP} {q : VV} : ∀ (n : Nat) (V : VV) (v1 : Int) (z2 : Option AV) (z3 : Option AV) (z4 : Option AV) (z5 : Option AV), f_Road_measureJobs_1 n V v1 = some q → Ok X (d + 3) 24 1 ([some (.inr (.inr (.inl 2))), some (.inl v1), z2, z3, z4, z5], [], mm V h) (fun M r => M = mm q h ∧ r = none) := by
  intro n
  induction n with
  | zero => intro V v1 z2 z3 z4 z5 hf; cases hf
  | succ n ih =>
    intro V v1 z2 z3 z4 z5 hf
    let QQ : Mm → Option AV → Prop := fun M r => M = mm q h ∧ r = none
    show Ok X (d + 3) 24 1 ([some (.inr (.inr (.inl 2))), some (.inl v1), z2, z3, z4, z5], [], mm V h) QQ
    refine ok_callA (L := [some (.inr (.inr (.inl 2))), some (.inl v1), z2, z3, z4, z5]) (M := mm V h) (args := [.inr (.inr (.inl 2))]) (rest := [.inl v1]) (y2 := 25) rfl rfl rfl (Or.inl rfl) rfl rfl (Nat.le_of_ble_eq_true rfl) rfl rfl (Nat.le_of_ble_eq_true rfl) (Nat.le_of_ble_eq_true rfl) (s_Road_jobs rfl) ?_
    rintro _ _ ⟨rfl, rfl⟩
    refine ok_ic_ge (x := v1) (u := f_Road_jobs V) (L := [some (.inr (.inr (.inl 2))), some (.inl v1), z2, z3, z4, z5]) (S := []) (M := mm V h) rfl rfl (fun c2 => ?_) (fun c2 => ?_)
    ·
      replace hf := (if_neg (Int.not_lt.mpr c2)).symm.trans hf
      obtain rfl := Option.some.inj hf
      refine ok_return (L := [some (.inr (.inr (.inl 2))), some (.inl v1), z2, z3, z4, z5]) (M := mm V h) rfl rfl ?_
      exact ⟨rfl, rfl⟩
    ·
      replace hf := (if_pos c2).symm.trans hf
      obtain ⟨q3, e3, hf⟩ := obind hf
      refine ok_callA (L := [some (.inr (.inr (.inl 2))), some (.inl v1), z2, z3, z4, z5]) (M := mm V h) (args := [.inr (.inr (.inl 2)), .inl v1]) (rest := []) (y2 := 26) rfl rfl rfl (Or.inl rfl) rfl rfl (Nat.le_of_ble_eq_true rfl) rfl rfl (Nat.le_of_ble_eq_true rfl) (Nat.le_of_ble_eq_true rfl) (s_Road_sectionOf e3) ?_
      rintro _ _ ⟨rfl, rfl⟩
      refine ok_callA (L := [some (.inr (.inr (.inl 2))), some (.inl v1), some (.inl q3), z3, z4, z5]) (M := mm V h) (args := [.inr (.inr (.inl 2)), .inl v1]) (rest := []) (y2 := 27) rfl rfl rfl (Or.inl rfl) rfl rfl (Nat.le_of_ble_eq_true rfl) rfl rfl (Nat.le_of_ble_eq_true rfl) (Nat.le_of_ble_eq_true rfl) (s_Road_layerOf rfl) ?_
      rintro _ _ ⟨rfl, rfl⟩
      have JN5 : Ok X (d + 3) 24 11 ([some (.inr (.inr (.inl 2))), some (.inl v1), some (.inl q3), some (.inl (f_Road_layerOf V v1)), z4, z5], [.inl (if (f_Road_layerOf V v1) = 0 then max 0 (w32 ((atV V 4 12 q3) - (atV V 3 12 q3))) else 0 : Int)], mm V h) QQ := by
        refine ok_callA (L := [some (.inr (.inr (.inl 2))), some (.inl v1), some (.inl q3), some (.inl (f_Road_layerOf V v1)), some (.inl (if (f_Road_layerOf V v1) = 0 then max 0 (w32 ((atV V 4 12 q3) - (atV V 3 12 q3))) else 0 : Int)), z5]) (M := mm V h) (args := [.inr (.inr (.inl 7)), .inl (f_Road_layerOf V v1)]) (rest := []) (y2 := 21) rfl rfl rfl (Or.inr (Or.inl rfl)) rfl rfl (Nat.le_of_ble_eq_true rfl) rfl rfl (Nat.le_of_ble_eq_true rfl) (Nat.le_of_ble_eq_true rfl) (w_at rfl rfl) ?_
        rintro _ _ ⟨rfl, rfl⟩
        obtain ⟨q7, e7, hf⟩ := lt_x hf
        refine ok_callA (L := [some (.inr (.inr (.inl 2))), some (.inl v1), some (.inl q3), some (.inl (f_Road_layerOf V v1)), some (.inl (if (f_Road_layerOf V v1) = 0 then max 0 (w32 ((atV V 4 12 q3) - (atV V 3 12 q3))) else 0 : Int)), some (.inl (w32 ((atV V 6 3 (f_Road_layerOf V v1)) + (if (f_Road_layerOf V v1) = 0 then max 0 (w32 ((atV V 4 12 q3) - (atV V 3 12 q3))) else 0 : Int))))]) (M := mm V h) (args := [.inr (.inr (.inl 9)), .inl v1, .inl (w32 ((atV V 6 3 (f_Road_layerOf V v1)) + (if (f_Road_layerOf V v1) = 0 then max 0 (w32 ((atV V 4 12 q3) - (atV V 3 12 q3))) else 0 : Int)))]) (rest := []) (y2 := 9) rfl rfl rfl (Or.inr (Or.inl rfl)) rfl rfl (Nat.le_of_ble_eq_true rfl) rfl rfl (Nat.le_of_ble_eq_true rfl) (Nat.le_of_ble_eq_true rfl) (w_set rfl e7) ?_
        rintro _ _ ⟨rfl, rfl⟩
        refine ok_callA (L := [some (.inr (.inr (.inl 2))), some (.inl v1), some (.inl q3), some (.inl (f_Road_layerOf V v1)), some (.inl (if (f_Road_layerOf V v1) = 0 then max 0 (w32 ((atV V 4 12 q3) - (atV V 3 12 q3))) else 0 : Int)), some (.inl (w32 ((atV V 6 3 (f_Road_layerOf V v1)) + (if (f_Road_layerOf V v1) = 0 then max 0 (w32 ((atV V 4 12 q3) - (atV V 3 12 q3))) else 0 : Int))))]) (M := mm q7 h) (args := [.inr (.inr (.inl 3)), .inl q3]) (rest := [.inl v1, .inr (.inr (.inl 10))]) (y2 := 21) rfl rfl rfl (Or.inr (Or.inl rfl)) rfl rfl (Nat.le_of_ble_eq_true rfl) rfl rfl (Nat.le_of_ble_eq_true rfl) (Nat.le_of_ble_eq_true rfl) (w_at rfl rfl) ?_
        rintro _ _ ⟨rfl, rfl⟩
        refine ok_idiv (u := w32 ((w32 ((w32 ((w32 ((atV q7 2 12 q3) * (q7 1 10))) * (w32 ((atV V 6 3 (f_Road_layerOf V v1)) + (if (f_Road_layerOf V v1) = 0 then max 0 (w32 ((atV V 4 12 q3) - (atV V 3 12 q3))) else 0 : Int))))) * 24)) + 99999)) (v := 100000) (L := [some (.inr (.inr (.inl 2))), some (.inl v1), some (.inl q3), some (.inl (f_Road_layerOf V v1)), some (.inl (if (f_Road_layerOf V v1) = 0 then max 0 (w32 ((atV V 4 12 q3) - (atV V 3 12 q3))) else 0 : Int)), some (.inl (w32 ((atV V 6 3 (f_Road_layerOf V v1)) + (if (f_Road_layerOf V v1) = 0 then max 0 (w32 ((atV V 4 12 q3) - (atV V 3 12 q3))) else 0 : Int))))]) (S := [.inl v1, .inr (.inr (.inl 10))]) (M := mm q7 h) rfl rfl (by decide) ?_
        obtain ⟨q10, e10, hf⟩ := lt_x hf
        refine ok_callA (L := [some (.inr (.inr (.inl 2))), some (.inl v1), some (.inl q3), some (.inl (f_Road_layerOf V v1)), some (.inl (if (f_Road_layerOf V v1) = 0 then max 0 (w32 ((atV V 4 12 q3) - (atV V 3 12 q3))) else 0 : Int)), some (.inl (w32 ((atV V 6 3 (f_Road_layerOf V v1)) + (if (f_Road_layerOf V v1) = 0 then max 0 (w32 ((atV V 4 12 q3) - (atV V 3 12 q3))) else 0 : Int))))]) (M := mm q7 h) (args := [.inr (.inr (.inl 10)), .inl v1, .inl (w32 (Int.tdiv (w32 ((w32 ((w32 ((w32 ((atV q7 2 12 q3) * (q7 1 10))) * (w32 ((atV V 6 3 (f_Road_layerOf V v1)) + (if (f_Road_layerOf V v1) = 0 then max 0 (w32 ((atV V 4 12 q3) - (atV V 3 12 q3))) else 0 : Int))))) * 24)) + 99999)) 100000))]) (rest := []) (y2 := 9) rfl rfl rfl (Or.inr (Or.inl rfl)) rfl rfl (Nat.le_of_ble_eq_true rfl) rfl rfl (Nat.le_of_ble_eq_true rfl) (Nat.le_of_ble_eq_true rfl) (w_set rfl e10) ?_
        rintro _ _ ⟨rfl, rfl⟩
        refine ok_goto (L := [some (.inr (.inr (.inl 2))), some (.inl (w32 (v1 + 1))), some (.inl q3), some (.inl (f_Road_layerOf V v1)), some (.inl (if (f_Road_layerOf V v1) = 0 then max 0 (w32 ((atV V 4 12 q3) - (atV V 3 12 q3))) else 0 : Int)), some (.inl (w32 ((atV V 6 3 (f_Road_layerOf V v1)) + (if (f_Road_layerOf V v1) = 0 then max 0 (w32 ((atV V 4 12 q3) - (atV V 3 12 q3))) else 0 : Int))))]) (S := []) (M := mm q10 h) rfl rfl ?_
        exact ih q10 (w32 (v1 + 1)) (some (.inl q3)) (some (.inl (f_Road_layerOf V v1))) (some (.inl (if (f_Road_layerOf V v1) = 0 then max 0 (w32 ((atV V 4 12 q3) - (atV V 3 12 q3))) else 0 : Int))) (some (.inl (w32 ((atV V 6 3 (f_Road_layerOf V v1)) + (if (f_Road_layerOf V v1) = 0 then max 0 (w32 ((atV V 4 12 q3) - (atV V 3 12 q3))) else 0 : Int))))) hf
      clear hf
      refine ok_if_ne (x := f_Road_layerOf V v1) (L := [some (.inr (.inr (.inl 2))), some (.inl v1), some (.inl q3), some (.inl (f_Road_layerOf V v1)), z4, z5]) (S := []) (M := mm V h) rfl rfl (fun c11 => ?_) (fun c11 => ?_)
      ·
        simp only [if_neg c11] at JN5
        refine ok_thru (L := [some (.inr (.inr (.inl 2))), some (.inl v1), some (.inl q3), some (.inl (f_Road_layerOf V v1)), z4, z5]) (S := [.inl 0]) (M := mm V h) rfl rfl ?_
        first | exact JN5 | (simp only [if_neg c11]; exact JN5)
      ·
        simp only [if_pos c11] at JN5
        refine ok_callA (L := [some (.inr (.inr (.inl 2))), some (.inl v1), some (.inl q3), some (.inl (f_Road_layerOf V v1)), z4, z5]) (M := mm V h) (args := [.inr (.inr (.inl 5)), .inl q3]) (rest := [.inl 0]) (y2 := 21) rfl rfl rfl (Or.inr (Or.inl rfl)) rfl rfl (Nat.le_of_ble_eq_true rfl) rfl rfl (Nat.le_of_ble_eq_true rfl) (Nat.le_of_ble_eq_true rfl) (w_at rfl rfl) ?_
        rintro _ _ ⟨rfl, rfl⟩
        refine ok_callA (L := [some (.inr (.inr (.inl 2))), some (.inl v1), some (.inl q3), some (.inl (f_Road_layerOf V v1)), z4, z5]) (M := mm V h) (args := [.inr (.inr (.inl 4)), .inl q3]) (rest := [.inl (atV V 4 12 q3), .inl 0]) (y2 := 21) rfl rfl rfl (Or.inr (Or.inl rfl)) rfl rfl (Nat.le_of_ble_eq_true rfl) rfl rfl (Nat.le_of_ble_eq_true rfl) (Nat.le_of_ble_eq_true rfl) (w_at rfl rfl) ?_
        rintro _ _ ⟨rfl, rfl⟩
        refine ok_mmax (u := 0) (v := w32 ((atV V 4 12 q3) - (atV V 3 12 q3))) (L := [some (.inr (.inr (.inl 2))), some (.inl v1), some (.inl q3), some (.inl (f_Road_layerOf V v1)), z4, z5]) (S := []) (M := mm V h) rfl rfl rfl (Nat.le_of_ble_eq_true rfl) ?_
        refine ok_goto (L := [some (.inr (.inr (.inl 2))), some (.inl v1), some (.inl q3), some (.inl (f_Road_layerOf V v1)), z4, z5]) (S := [.inl (max 0 (w32 ((atV V 4 12 q3) - (atV V 3 12 q3))))]) (M := mm V h) rfl rfl ?_
        first | exact JN5 | (simp only [if_pos c11]; exact JN5)
theorem s_Road_measureJobs_1 {X : Xs} {d : Nat} {h : HP} {V : VV} {v1 : Int} {z2 : Option AV} {z3 : Option AV} {z4 : Option AV} {z5 : Option AV} {n : Nat} {q : VV} (hf : f_Road_measureJobs_1 n V v1 = some q) : Ok X (d + 3) 24 1 ([some (.inr (.inr (.inl 2))), some (.inl v1), z2, z3, z4, z5], [], mm V h) (fun M r => M = mm q h ∧ r = none) :=
  s_Road_measureJobs_1_n n V v1 z2 z3 z4 z5 hf
def f_Road_measureJobs (V : VV)  : Option (VV) := f_Road_measureJobs_1 FU V 0
set_option maxRecDepth 20000 in
set_option maxHeartbeats 4000000 in
theorem s_Road_measureJobs {X : Xs} {d : Nat} {V : VV} {h : HP} {q : VV} (hf : f_Road_measureJobs V = some q) : Ok X (d + 3) 24 0 ([some (.inr (.inr (.inl 2))), none, none, none, none, none], [], mm V h) (fun M r => M = mm q h ∧ r = none) := by
  let QQ : Mm → Option AV → Prop := fun M r => M = mm q h ∧ r = none
  show Ok X (d + 3) 24 0 ([some (.inr (.inr (.inl 2))), none, none, none, none, none], [], mm V h) QQ
  refine ok_thru (L := [some (.inr (.inr (.inl 2))), some (.inl 0), none, none, none, none]) (S := []) (M := mm V h) rfl rfl ?_
  exact s_Road_measureJobs_1 hf
def f_Road_settle (V : VV)  : Option (VV) := Option.bind (f_Road_weighHeights V) (fun q1 => Option.bind (f_Road_chooseLevels q1) (fun q2 => Option.bind (f_Road_measureJobs q2) (fun q3 => some q3)))
set_option maxRecDepth 20000 in
set_option maxHeartbeats 4000000 in
theorem s_Road_settle {X : Xs} {d : Nat} {V : VV} {h : HP} {q : VV} (hf : f_Road_settle V = some q) : Ok X (d + 5) 18 0 ([some (.inr (.inr (.inl 2)))], [], mm V h) (fun M r => M = mm q h ∧ r = none) := by
  let QQ : Mm → Option AV → Prop := fun M r => M = mm q h ∧ r = none
  show Ok X (d + 5) 18 0 ([some (.inr (.inr (.inl 2)))], [], mm V h) QQ
  obtain ⟨q1, e1, hf⟩ := obind hf
  refine ok_callA (L := [some (.inr (.inr (.inl 2)))]) (M := mm V h) (args := [.inr (.inr (.inl 2))]) (rest := []) (y2 := 19) rfl rfl rfl (Or.inl rfl) rfl rfl (Nat.le_of_ble_eq_true rfl) rfl rfl (Nat.le_of_ble_eq_true rfl) (Nat.le_of_ble_eq_true rfl) (s_Road_weighHeights e1) ?_
  rintro _ _ ⟨rfl, rfl⟩
  obtain ⟨q2, e2, hf⟩ := obind hf
  refine ok_callA (L := [some (.inr (.inr (.inl 2)))]) (M := mm q1 h) (args := [.inr (.inr (.inl 2))]) (rest := []) (y2 := 23) rfl rfl rfl (Or.inl rfl) rfl rfl (Nat.le_of_ble_eq_true rfl) rfl rfl (Nat.le_of_ble_eq_true rfl) (Nat.le_of_ble_eq_true rfl) (s_Road_chooseLevels e2) ?_
  rintro _ _ ⟨rfl, rfl⟩
  obtain ⟨q3, e3, hf⟩ := obind hf
  refine ok_callA (L := [some (.inr (.inr (.inl 2)))]) (M := mm q2 h) (args := [.inr (.inr (.inl 2))]) (rest := []) (y2 := 24) rfl rfl rfl (Or.inl rfl) rfl rfl (Nat.le_of_ble_eq_true rfl) rfl rfl (Nat.le_of_ble_eq_true rfl) (Nat.le_of_ble_eq_true rfl) (s_Road_measureJobs e3) ?_
  rintro _ _ ⟨rfl, rfl⟩
  obtain rfl := Option.some.inj hf
  refine ok_return (L := [some (.inr (.inr (.inl 2)))]) (M := mm q3 h) rfl rfl ?_
  exact ⟨rfl, rfl⟩
def f_Road_allTonnes_6 (V : VV) (v1 : Int) : Option (Int) := some v1
set_option maxRecDepth 20000 in
set_option maxHeartbeats 4000000 in
theorem s_Road_allTonnes_6 {X : Xs} {d : Nat} {V : VV} {h : HP} {v1 : Int} {w2 : Int} {q : Int} (hf : f_Road_allTonnes_6 V v1 = some q) : Ok X (d + 2) 149 6 ([some (.inr (.inr (.inl 2))), some (.inl v1), some (.inl w2)], [], mm V h) (fun M r => M = mm V h ∧ r = some (.inl q)) := by
  let QQ : Mm → Option AV → Prop := fun M r => M = mm V h ∧ r = some (.inl q)
  show Ok X (d + 2) 149 6 ([some (.inr (.inr (.inl 2))), some (.inl v1), some (.inl w2)], [], mm V h) QQ
  obtain rfl := Option.some.inj hf
  refine ok_ireturn (L := [some (.inr (.inr (.inl 2))), some (.inl v1), some (.inl w2)]) (M := mm V h) (x := v1) rfl rfl ?_
  exact ⟨rfl, rfl⟩
def f_Road_allTonnes_1 : Nat → VV → Int → Int → (Option (Int))
  | 0, _, _, _ => none
  | n + 1, V, v1, v2 => if v2 < (f_Road_jobs V) then if (V 1 15) = (-1) then f_Road_allTonnes_6 V v1 else f_Road_allTonnes_1 n V (w32 (v1 + (atV V 9 36 v2))) (w32 (v2 + 1)) else f_Road_allTonnes_6 V v1
set_option maxRecDepth 20000 in
set_option maxHeartbeats 4000000 in
theorem s_Road_allTonnes_1_n {X : Xs} {d : Nat} {V : VV} {h : HP} {q : Int} : ∀ (n : Nat) (v1 : Int) (v2 : Int), f_Road_allTonnes_1 n V v1 v2 = some q → Ok X (d + 2) 149 1 ([some (.inr (.inr (.inl 2))), some (.inl v1), some (.inl v2)], [], mm V h) (fun M r => M = mm V h ∧ r = some (.inl q)) := by
  intro n
  induction n with
  | zero => intro v1 v2 hf; cases hf
  | succ n ih =>
    intro v1 v2 hf
    let QQ : Mm → Option AV → Prop := fun M r => M = mm V h ∧ r = some (.inl q)
    show Ok X (d + 2) 149 1 ([some (.inr (.inr (.inl 2))), some (.inl v1), some (.inl v2)], [], mm V h) QQ
    refine ok_callA (L := [some (.inr (.inr (.inl 2))), some (.inl v1), some (.inl v2)]) (M := mm V h) (args := [.inr (.inr (.inl 2))]) (rest := [.inl v2]) (y2 := 25) rfl rfl rfl (Or.inl rfl) rfl rfl (Nat.le_of_ble_eq_true rfl) rfl rfl (Nat.le_of_ble_eq_true rfl) (Nat.le_of_ble_eq_true rfl) (s_Road_jobs rfl) ?_
    rintro _ _ ⟨rfl, rfl⟩
    refine ok_ic_ge (x := v2) (u := f_Road_jobs V) (L := [some (.inr (.inr (.inl 2))), some (.inl v1), some (.inl v2)]) (S := []) (M := mm V h) rfl rfl (fun c2 => ?_) (fun c2 => ?_)
    ·
      replace hf := (if_neg (Int.not_lt.mpr c2)).symm.trans hf
      exact s_Road_allTonnes_6 hf
    ·
      replace hf := (if_pos c2).symm.trans hf
      refine ok_ic_eq (x := V 1 15) (u := (-1)) (L := [some (.inr (.inr (.inl 2))), some (.inl v1), some (.inl v2)]) (S := []) (M := mm V h) rfl rfl (fun c3 => ?_) (fun c3 => ?_)
      ·
        replace hf := (if_pos c3).symm.trans hf
        exact s_Road_allTonnes_6 hf
      ·
        replace hf := (if_neg c3).symm.trans hf
        refine ok_callA (L := [some (.inr (.inr (.inl 2))), some (.inl v1), some (.inl v2)]) (M := mm V h) (args := [.inr (.inr (.inl 10)), .inl v2]) (rest := [.inl v1]) (y2 := 21) rfl rfl rfl (Or.inr (Or.inl rfl)) rfl rfl (Nat.le_of_ble_eq_true rfl) rfl rfl (Nat.le_of_ble_eq_true rfl) (Nat.le_of_ble_eq_true rfl) (w_at rfl rfl) ?_
        rintro _ _ ⟨rfl, rfl⟩
        refine ok_goto (L := [some (.inr (.inr (.inl 2))), some (.inl (w32 (v1 + (atV V 9 36 v2)))), some (.inl (w32 (v2 + 1)))]) (S := []) (M := mm V h) rfl rfl ?_
        exact ih (w32 (v1 + (atV V 9 36 v2))) (w32 (v2 + 1)) hf
theorem s_Road_allTonnes_1 {X : Xs} {d : Nat} {V : VV} {h : HP} {v1 : Int} {v2 : Int} {n : Nat} {q : Int} (hf : f_Road_allTonnes_1 n V v1 v2 = some q) : Ok X (d + 2) 149 1 ([some (.inr (.inr (.inl 2))), some (.inl v1), some (.inl v2)], [], mm V h) (fun M r => M = mm V h ∧ r = some (.inl q)) :=
  s_Road_allTonnes_1_n n v1 v2 hf
def f_Road_allTonnes (V : VV)  : Option (Int) := f_Road_allTonnes_1 FU V 0 0
set_option maxRecDepth 20000 in
set_option maxHeartbeats 4000000 in
theorem s_Road_allTonnes {X : Xs} {d : Nat} {V : VV} {h : HP} {q : Int} (hf : f_Road_allTonnes V = some q) : Ok X (d + 2) 149 0 ([some (.inr (.inr (.inl 2))), none, none], [], mm V h) (fun M r => M = mm V h ∧ r = some (.inl q)) := by
  let QQ : Mm → Option AV → Prop := fun M r => M = mm V h ∧ r = some (.inl q)
  show Ok X (d + 2) 149 0 ([some (.inr (.inr (.inl 2))), none, none], [], mm V h) QQ
  refine ok_thru (L := [some (.inr (.inr (.inl 2))), some (.inl 0), some (.inl 0)]) (S := []) (M := mm V h) rfl rfl ?_
  exact s_Road_allTonnes_1 hf
def f_Road_addSection (V : VV) (v1 : Int) (v2 : Int) : Option (VV × Int) := if (V 1 8) < 12 then lt_ (setV V 2 12 (V 1 8) v1) (fun q2 => lt_ (setV q2 3 12 (q2 1 8) v2) (fun q3 => Option.bind (f_Road_settle (up q3 1 8 (w32 ((q3 1 8) + 1)))) (fun q4 => some (q4, w32 ((q4 1 8) - 1))))) else some (V, (-1))
set_option maxRecDepth 20000 in
set_option maxHeartbeats 4000000 in
theorem s_Road_addSection {X : Xs} {d : Nat} {V : VV} {h : HP} {v1 : Int} {v2 : Int} {q : VV × Int} (hf : f_Road_addSection V v1 v2 = some q) : Ok X (d + 6) 17 0 ([some (.inr (.inr (.inl 2))), some (.inl v1), some (.inl v2)], [], mm V h) (fun M r => M = mm q.1 h ∧ r = some (.inl q.2)) := by
  let QQ : Mm → Option AV → Prop := fun M r => M = mm q.1 h ∧ r = some (.inl q.2)
  show Ok X (d + 6) 17 0 ([some (.inr (.inr (.inl 2))), some (.inl v1), some (.inl v2)], [], mm V h) QQ
  refine ok_ic_lt (x := V 1 8) (u := 12) (L := [some (.inr (.inr (.inl 2))), some (.inl v1), some (.inl v2)]) (S := []) (M := mm V h) rfl rfl (fun c1 => ?_) (fun c1 => ?_)
  ·
    replace hf := (if_pos c1).symm.trans hf
    obtain ⟨q2, e2, hf⟩ := lt_x hf
    refine ok_callA (L := [some (.inr (.inr (.inl 2))), some (.inl v1), some (.inl v2)]) (M := mm V h) (args := [.inr (.inr (.inl 3)), .inl (V 1 8), .inl v1]) (rest := []) (y2 := 9) rfl rfl rfl (Or.inr (Or.inl rfl)) rfl rfl (Nat.le_of_ble_eq_true rfl) rfl rfl (Nat.le_of_ble_eq_true rfl) (Nat.le_of_ble_eq_true rfl) (w_set rfl e2) ?_
    rintro _ _ ⟨rfl, rfl⟩
    obtain ⟨q3, e3, hf⟩ := lt_x hf
    refine ok_callA (L := [some (.inr (.inr (.inl 2))), some (.inl v1), some (.inl v2)]) (M := mm q2 h) (args := [.inr (.inr (.inl 4)), .inl (q2 1 8), .inl v2]) (rest := []) (y2 := 9) rfl rfl rfl (Or.inr (Or.inl rfl)) rfl rfl (Nat.le_of_ble_eq_true rfl) rfl rfl (Nat.le_of_ble_eq_true rfl) (Nat.le_of_ble_eq_true rfl) (w_set rfl e3) ?_
    rintro _ _ ⟨rfl, rfl⟩
    obtain ⟨q4, e4, hf⟩ := obind hf
    refine ok_callA (L := [some (.inr (.inr (.inl 2))), some (.inl v1), some (.inl v2)]) (M := mm (up q3 1 8 (w32 ((q3 1 8) + 1))) h) (args := [.inr (.inr (.inl 2))]) (rest := []) (y2 := 18) rfl rfl rfl (Or.inl rfl) rfl rfl (Nat.le_of_ble_eq_true rfl) rfl rfl (Nat.le_of_ble_eq_true rfl) (Nat.le_of_ble_eq_true rfl) (s_Road_settle e4) ?_
    rintro _ _ ⟨rfl, rfl⟩
    obtain rfl := Option.some.inj hf
    refine ok_ireturn (L := [some (.inr (.inr (.inl 2))), some (.inl v1), some (.inl v2)]) (M := mm q4 h) (x := w32 ((q4 1 8) - 1)) rfl rfl ?_
    exact ⟨rfl, rfl⟩
  ·
    replace hf := (if_neg (Int.not_lt.mpr c1)).symm.trans hf
    obtain rfl := Option.some.inj hf
    refine ok_ireturn (L := [some (.inr (.inr (.inl 2))), some (.inl v1), some (.inl v2)]) (M := mm V h) (x := (-1)) rfl rfl ?_
    exact ⟨rfl, rfl⟩
def f_Road_addLayer (V : VV) (v1 : Int) (v2 : Int) : Option (VV × Int) := if (V 1 9) < 3 then lt_ (setV V 6 3 (V 1 9) v1) (fun q2 => lt_ (setV q2 7 3 (q2 1 9) v2) (fun q3 => Option.bind (f_Road_settle (up q3 1 9 (w32 ((q3 1 9) + 1)))) (fun q4 => some (q4, w32 ((q4 1 9) - 1))))) else some (V, (-1))
set_option maxRecDepth 20000 in
set_option maxHeartbeats 4000000 in
theorem s_Road_addLayer {X : Xs} {d : Nat} {V : VV} {h : HP} {v1 : Int} {v2 : Int} {q : VV × Int} (hf : f_Road_addLayer V v1 v2 = some q) : Ok X (d + 6) 35 0 ([some (.inr (.inr (.inl 2))), some (.inl v1), some (.inl v2)], [], mm V h) (fun M r => M = mm q.1 h ∧ r = some (.inl q.2)) := by
  let QQ : Mm → Option AV → Prop := fun M r => M = mm q.1 h ∧ r = some (.inl q.2)
  show Ok X (d + 6) 35 0 ([some (.inr (.inr (.inl 2))), some (.inl v1), some (.inl v2)], [], mm V h) QQ
  refine ok_ic_lt (x := V 1 9) (u := 3) (L := [some (.inr (.inr (.inl 2))), some (.inl v1), some (.inl v2)]) (S := []) (M := mm V h) rfl rfl (fun c1 => ?_) (fun c1 => ?_)
  ·
    replace hf := (if_pos c1).symm.trans hf
    obtain ⟨q2, e2, hf⟩ := lt_x hf
    refine ok_callA (L := [some (.inr (.inr (.inl 2))), some (.inl v1), some (.inl v2)]) (M := mm V h) (args := [.inr (.inr (.inl 7)), .inl (V 1 9), .inl v1]) (rest := []) (y2 := 9) rfl rfl rfl (Or.inr (Or.inl rfl)) rfl rfl (Nat.le_of_ble_eq_true rfl) rfl rfl (Nat.le_of_ble_eq_true rfl) (Nat.le_of_ble_eq_true rfl) (w_set rfl e2) ?_
    rintro _ _ ⟨rfl, rfl⟩
    obtain ⟨q3, e3, hf⟩ := lt_x hf
    refine ok_callA (L := [some (.inr (.inr (.inl 2))), some (.inl v1), some (.inl v2)]) (M := mm q2 h) (args := [.inr (.inr (.inl 8)), .inl (q2 1 9), .inl v2]) (rest := []) (y2 := 9) rfl rfl rfl (Or.inr (Or.inl rfl)) rfl rfl (Nat.le_of_ble_eq_true rfl) rfl rfl (Nat.le_of_ble_eq_true rfl) (Nat.le_of_ble_eq_true rfl) (w_set rfl e3) ?_
    rintro _ _ ⟨rfl, rfl⟩
    obtain ⟨q4, e4, hf⟩ := obind hf
    refine ok_callA (L := [some (.inr (.inr (.inl 2))), some (.inl v1), some (.inl v2)]) (M := mm (up q3 1 9 (w32 ((q3 1 9) + 1))) h) (args := [.inr (.inr (.inl 2))]) (rest := []) (y2 := 18) rfl rfl rfl (Or.inl rfl) rfl rfl (Nat.le_of_ble_eq_true rfl) rfl rfl (Nat.le_of_ble_eq_true rfl) (Nat.le_of_ble_eq_true rfl) (s_Road_settle e4) ?_
    rintro _ _ ⟨rfl, rfl⟩
    obtain rfl := Option.some.inj hf
    refine ok_ireturn (L := [some (.inr (.inr (.inl 2))), some (.inl v1), some (.inl v2)]) (M := mm q4 h) (x := w32 ((q4 1 9) - 1)) rfl rfl ?_
    exact ⟨rfl, rfl⟩
  ·
    replace hf := (if_neg (Int.not_lt.mpr c1)).symm.trans hf
    obtain rfl := Option.some.inj hf
    refine ok_ireturn (L := [some (.inr (.inr (.inl 2))), some (.inl v1), some (.inl v2)]) (M := mm V h) (x := (-1)) rfl rfl ?_
    exact ⟨rfl, rfl⟩
