/-! shallow functions of the program (printed by wip/tools/gen20.py) -/
def f_Loads_of (V : VV) (h : HP) (v1 : Int) (v2 : Int) : Int := atV V h.1 (rowN h) (w32 ((w32 (v1 * 9)) + v2))
set_option maxRecDepth 20000 in
set_option maxHeartbeats 4000000 in
theorem s_Loads_of {X : Xs} {d : Nat} {V : VV} {h : HP} {v1 : Int} {v2 : Int} {q : Int} (hh : HOK h) (hf : f_Loads_of V h v1 v2 = q) : Ok X (d + 2) 105 0 ([some (.inr (.inr (.inl 29))), some (.inl v1), some (.inl v2)], [], mm V h) (fun M r => M = mm V h ∧ r = some (.inl q)) := by
  let QQ : Mm → Option AV → Prop := fun M r => M = mm V h ∧ r = some (.inl q)
  show Ok X (d + 2) 105 0 ([some (.inr (.inr (.inl 29))), some (.inl v1), some (.inl v2)], [], mm V h) QQ
  refine ok_callA (L := [some (.inr (.inr (.inl 29))), some (.inl v1), some (.inl v2)]) (M := mm V h) (args := [.inr (.inr (.inl (h.1 + 1))), .inl (w32 ((w32 (v1 * 9)) + v2))]) (rest := []) (y2 := 21) rfl rfl rfl (Or.inr (Or.inl rfl)) rfl rfl (Nat.le_of_ble_eq_true rfl) rfl rfl (Nat.le_of_ble_eq_true rfl) (Nat.le_of_ble_eq_true rfl) (w_at hh.row rfl) ?_
  rintro _ _ ⟨rfl, rfl⟩
  have hq : (atV V h.1 (rowN h) (w32 ((w32 (v1 * 9)) + v2))) = q := hf
  subst hq
  refine ok_ireturn (L := [some (.inr (.inr (.inl 29))), some (.inl v1), some (.inl v2)]) (M := mm V h) (x := atV V h.1 (rowN h) (w32 ((w32 (v1 * 9)) + v2))) rfl rfl ?_
  exact ⟨rfl, rfl⟩
def f_Haulage_firstStanding_1 : Nat → VV → HP → Int → Int → Int → Int → Int → (Option (Int))
  | 0, _, _, _, _, _, _, _ => none
  | n + 1, V, h, v1, v2, v3, v4, v5 => if v5 < (V 37 5) then f_Haulage_firstStanding_1 n V h v1 v2 v3 (if (atV V 42 16 v5) = v1 then (if (f_Loads_of V h (atV V 44 16 v5) v2) = v3 then (if v4 = (-1) then v5 else (if (atV V 43 16 v5) < (atV V 43 16 v4) then v5 else v4 : Int) : Int) else v4 : Int) else v4 : Int) (w32 (v5 + 1)) else some v4
set_option maxRecDepth 20000 in
set_option maxHeartbeats 4000000 in
theorem s_Haulage_firstStanding_1_n {X : Xs} {d : Nat} {V : VV} {h : HP} {q : Int} (hh : HOK h) : ∀ (n : Nat) (v1 : Int) (v2 : Int) (v3 : Int) (v4 : Int) (v5 : Int), f_Haulage_firstStanding_1 n V h v1 v2 v3 v4 v5 = some q → Ok X (d + 3) 104 1 ([some (.inr (.inr (.inl 38))), some (.inl v1), some (.inl v2), some (.inl v3), some (.inl v4), some (.inl v5)], [], mm V h) (fun M r => M = mm V h ∧ r = some (.inl q)) := by
  intro n
  induction n with
  | zero => intro v1 v2 v3 v4 v5 hf; cases hf
  | succ n ih =>
    intro v1 v2 v3 v4 v5 hf
    let QQ : Mm → Option AV → Prop := fun M r => M = mm V h ∧ r = some (.inl q)
    show Ok X (d + 3) 104 1 ([some (.inr (.inr (.inl 38))), some (.inl v1), some (.inl v2), some (.inl v3), some (.inl v4), some (.inl v5)], [], mm V h) QQ
    refine ok_ic_ge (x := v5) (u := V 37 5) (L := [some (.inr (.inr (.inl 38))), some (.inl v1), some (.inl v2), some (.inl v3), some (.inl v4), some (.inl v5)]) (S := []) (M := mm V h) rfl rfl (fun c1 => ?_) (fun c1 => ?_)
    ·
      replace hf := (if_neg (Int.not_lt.mpr c1)).symm.trans hf
      obtain rfl := Option.some.inj hf
      refine ok_ireturn (L := [some (.inr (.inr (.inl 38))), some (.inl v1), some (.inl v2), some (.inl v3), some (.inl v4), some (.inl v5)]) (M := mm V h) (x := v4) rfl rfl ?_
      exact ⟨rfl, rfl⟩
    ·
      replace hf := (if_pos c1).symm.trans hf
      refine ok_callA (L := [some (.inr (.inr (.inl 38))), some (.inl v1), some (.inl v2), some (.inl v3), some (.inl v4), some (.inl v5)]) (M := mm V h) (args := [.inr (.inr (.inl 43)), .inl v5]) (rest := []) (y2 := 21) rfl rfl rfl (Or.inr (Or.inl rfl)) rfl rfl (Nat.le_of_ble_eq_true rfl) rfl rfl (Nat.le_of_ble_eq_true rfl) (Nat.le_of_ble_eq_true rfl) (w_at rfl rfl) ?_
      rintro _ _ ⟨rfl, rfl⟩
      have JN3 : Ok X (d + 3) 104 12 ([some (.inr (.inr (.inl 38))), some (.inl v1), some (.inl v2), some (.inl v3), some (.inl (if (atV V 42 16 v5) = v1 then (if (f_Loads_of V h (atV V 44 16 v5) v2) = v3 then (if v4 = (-1) then v5 else (if (atV V 43 16 v5) < (atV V 43 16 v4) then v5 else v4 : Int) : Int) else v4 : Int) else v4 : Int)), some (.inl v5)], [], mm V h) QQ := by
        refine ok_goto (L := [some (.inr (.inr (.inl 38))), some (.inl v1), some (.inl v2), some (.inl v3), some (.inl (if (atV V 42 16 v5) = v1 then (if (f_Loads_of V h (atV V 44 16 v5) v2) = v3 then (if v4 = (-1) then v5 else (if (atV V 43 16 v5) < (atV V 43 16 v4) then v5 else v4 : Int) : Int) else v4 : Int) else v4 : Int)), some (.inl (w32 (v5 + 1)))]) (S := []) (M := mm V h) rfl rfl ?_
        exact ih v1 v2 v3 (if (atV V 42 16 v5) = v1 then (if (f_Loads_of V h (atV V 44 16 v5) v2) = v3 then (if v4 = (-1) then v5 else (if (atV V 43 16 v5) < (atV V 43 16 v4) then v5 else v4 : Int) : Int) else v4 : Int) else v4 : Int) (w32 (v5 + 1)) hf
      clear hf
      refine ok_ic_ne (x := atV V 42 16 v5) (u := v1) (L := [some (.inr (.inr (.inl 38))), some (.inl v1), some (.inl v2), some (.inl v3), some (.inl v4), some (.inl v5)]) (S := []) (M := mm V h) rfl rfl (fun c4 => ?_) (fun c4 => ?_)
      ·
        simp only [if_neg c4] at JN3
        first | exact JN3 | (simp only [if_neg c4]; exact JN3)
      ·
        simp only [if_pos c4] at JN3
        refine ok_callA (L := [some (.inr (.inr (.inl 38))), some (.inl v1), some (.inl v2), some (.inl v3), some (.inl v4), some (.inl v5)]) (M := mm V h) (args := [.inr (.inr (.inl 45)), .inl v5]) (rest := [.inr (.inr (.inl 29))]) (y2 := 21) rfl rfl rfl (Or.inr (Or.inl rfl)) rfl rfl (Nat.le_of_ble_eq_true rfl) rfl rfl (Nat.le_of_ble_eq_true rfl) (Nat.le_of_ble_eq_true rfl) (w_at rfl rfl) ?_
        rintro _ _ ⟨rfl, rfl⟩
        refine ok_callA (L := [some (.inr (.inr (.inl 38))), some (.inl v1), some (.inl v2), some (.inl v3), some (.inl v4), some (.inl v5)]) (M := mm V h) (args := [.inr (.inr (.inl 29)), .inl (atV V 44 16 v5), .inl v2]) (rest := []) (y2 := 105) rfl rfl rfl (Or.inl rfl) rfl rfl (Nat.le_of_ble_eq_true rfl) rfl rfl (Nat.le_of_ble_eq_true rfl) (Nat.le_of_ble_eq_true rfl) (s_Loads_of hh rfl) ?_
        rintro _ _ ⟨rfl, rfl⟩
        refine ok_ic_ne (x := f_Loads_of V h (atV V 44 16 v5) v2) (u := v3) (L := [some (.inr (.inr (.inl 38))), some (.inl v1), some (.inl v2), some (.inl v3), some (.inl v4), some (.inl v5)]) (S := []) (M := mm V h) rfl rfl (fun c7 => ?_) (fun c7 => ?_)
        ·
          simp only [if_neg c7] at JN3
          first | exact JN3 | (simp only [if_pos c4, if_neg c7]; exact JN3)
        ·
          simp only [if_pos c7] at JN3
          refine ok_ic_eq (x := v4) (u := (-1)) (L := [some (.inr (.inr (.inl 38))), some (.inl v1), some (.inl v2), some (.inl v3), some (.inl v4), some (.inl v5)]) (S := []) (M := mm V h) rfl rfl (fun c8 => ?_) (fun c8 => ?_)
          ·
            simp only [if_pos c8] at JN3
            refine ok_thru (L := [some (.inr (.inr (.inl 38))), some (.inl v1), some (.inl v2), some (.inl v3), some (.inl v5), some (.inl v5)]) (S := []) (M := mm V h) rfl rfl ?_
            first | exact JN3 | (simp only [if_pos c4, if_pos c7, if_pos c8]; exact JN3)
          ·
            simp only [if_neg c8] at JN3
            refine ok_callA (L := [some (.inr (.inr (.inl 38))), some (.inl v1), some (.inl v2), some (.inl v3), some (.inl v4), some (.inl v5)]) (M := mm V h) (args := [.inr (.inr (.inl 44)), .inl v5]) (rest := []) (y2 := 21) rfl rfl rfl (Or.inr (Or.inl rfl)) rfl rfl (Nat.le_of_ble_eq_true rfl) rfl rfl (Nat.le_of_ble_eq_true rfl) (Nat.le_of_ble_eq_true rfl) (w_at rfl rfl) ?_
            rintro _ _ ⟨rfl, rfl⟩
            refine ok_callA (L := [some (.inr (.inr (.inl 38))), some (.inl v1), some (.inl v2), some (.inl v3), some (.inl v4), some (.inl v5)]) (M := mm V h) (args := [.inr (.inr (.inl 44)), .inl v4]) (rest := [.inl (atV V 43 16 v5)]) (y2 := 21) rfl rfl rfl (Or.inr (Or.inl rfl)) rfl rfl (Nat.le_of_ble_eq_true rfl) rfl rfl (Nat.le_of_ble_eq_true rfl) (Nat.le_of_ble_eq_true rfl) (w_at rfl rfl) ?_
            rintro _ _ ⟨rfl, rfl⟩
            refine ok_ic_ge (x := atV V 43 16 v5) (u := atV V 43 16 v4) (L := [some (.inr (.inr (.inl 38))), some (.inl v1), some (.inl v2), some (.inl v3), some (.inl v4), some (.inl v5)]) (S := []) (M := mm V h) rfl rfl (fun c11 => ?_) (fun c11 => ?_)
            ·
              simp only [if_neg (Int.not_lt.mpr c11)] at JN3
              first | exact JN3 | (simp only [if_pos c4, if_pos c7, if_neg c8, if_neg (Int.not_lt.mpr c11)]; exact JN3)
            ·
              simp only [if_pos c11] at JN3
              refine ok_thru (L := [some (.inr (.inr (.inl 38))), some (.inl v1), some (.inl v2), some (.inl v3), some (.inl v5), some (.inl v5)]) (S := []) (M := mm V h) rfl rfl ?_
              first | exact JN3 | (simp only [if_pos c4, if_pos c7, if_neg c8, if_pos c11]; exact JN3)
theorem s_Haulage_firstStanding_1 {X : Xs} {d : Nat} {V : VV} {h : HP} {v1 : Int} {v2 : Int} {v3 : Int} {v4 : Int} {v5 : Int} {n : Nat} {q : Int} (hh : HOK h) (hf : f_Haulage_firstStanding_1 n V h v1 v2 v3 v4 v5 = some q) : Ok X (d + 3) 104 1 ([some (.inr (.inr (.inl 38))), some (.inl v1), some (.inl v2), some (.inl v3), some (.inl v4), some (.inl v5)], [], mm V h) (fun M r => M = mm V h ∧ r = some (.inl q)) :=
  s_Haulage_firstStanding_1_n hh n v1 v2 v3 v4 v5 hf
def f_Haulage_firstStanding (V : VV) (h : HP) (v1 : Int) (v2 : Int) (v3 : Int) : Option (Int) := f_Haulage_firstStanding_1 FU V h v1 v2 v3 (-1) 0
set_option maxRecDepth 20000 in
set_option maxHeartbeats 4000000 in
theorem s_Haulage_firstStanding {X : Xs} {d : Nat} {V : VV} {h : HP} {v1 : Int} {v2 : Int} {v3 : Int} {q : Int} (hh : HOK h) (hf : f_Haulage_firstStanding V h v1 v2 v3 = some q) : Ok X (d + 3) 104 0 ([some (.inr (.inr (.inl 38))), some (.inl v1), some (.inl v2), some (.inl v3), none, none], [], mm V h) (fun M r => M = mm V h ∧ r = some (.inl q)) := by
  let QQ : Mm → Option AV → Prop := fun M r => M = mm V h ∧ r = some (.inl q)
  show Ok X (d + 3) 104 0 ([some (.inr (.inr (.inl 38))), some (.inl v1), some (.inl v2), some (.inl v3), none, none], [], mm V h) QQ
  refine ok_thru (L := [some (.inr (.inr (.inl 38))), some (.inl v1), some (.inl v2), some (.inl v3), some (.inl (-1)), some (.inl 0)]) (S := []) (M := mm V h) rfl rfl ?_
  exact s_Haulage_firstStanding_1 hh hf
def f_Loads_note (V : VV) (h : HP) (v1 : Int) (v2 : Int) (v3 : Int) : VV := lt_ (setV V h.1 (rowN h) (w32 ((w32 (v1 * 9)) + v2)) v3) (fun q1 => q1)
set_option maxRecDepth 20000 in
set_option maxHeartbeats 4000000 in
theorem s_Loads_note {X : Xs} {d : Nat} {V : VV} {h : HP} {v1 : Int} {v2 : Int} {v3 : Int} {q : VV} (hh : HOK h) (hf : f_Loads_note V h v1 v2 v3 = q) : Ok X (d + 2) 106 0 ([some (.inr (.inr (.inl 29))), some (.inl v1), some (.inl v2), some (.inl v3)], [], mm V h) (fun M r => M = mm q h ∧ r = none) := by
  let QQ : Mm → Option AV → Prop := fun M r => M = mm q h ∧ r = none
  show Ok X (d + 2) 106 0 ([some (.inr (.inr (.inl 29))), some (.inl v1), some (.inl v2), some (.inl v3)], [], mm V h) QQ
  obtain ⟨q1, e1, hf⟩ := lt_x hf
  refine ok_callA (L := [some (.inr (.inr (.inl 29))), some (.inl v1), some (.inl v2), some (.inl v3)]) (M := mm V h) (args := [.inr (.inr (.inl (h.1 + 1))), .inl (w32 ((w32 (v1 * 9)) + v2)), .inl v3]) (rest := []) (y2 := 9) rfl rfl rfl (Or.inr (Or.inl rfl)) rfl rfl (Nat.le_of_ble_eq_true rfl) rfl rfl (Nat.le_of_ble_eq_true rfl) (Nat.le_of_ble_eq_true rfl) (w_set hh.row e1) ?_
  rintro _ _ ⟨rfl, rfl⟩
  have hq : (q1) = q := hf
  subst hq
  refine ok_return (L := [some (.inr (.inr (.inl 29))), some (.inl v1), some (.inl v2), some (.inl v3)]) (M := mm q1 h) rfl rfl ?_
  exact ⟨rfl, rfl⟩
def f_Haulage_beginFilling (V : VV) (h : HP) (v1 : Int) (v2 : Int) : Option (VV) := Option.bind (f_Haulage_firstStanding V h 2 3 v1) (fun q1 => if q1 = (-1) then some V else if (atV V 38 3 v1) < (f_Loads_of V h (atV V 44 16 q1) 1) then some V else lt_ (setV V 38 3 v1 (w32 ((atV V 38 3 v1) - (f_Loads_of V h (atV V 44 16 q1) 1)))) (fun q8 => lt_ (setV q8 39 3 v1 q1) (fun q9 => lt_ (setV q9 40 3 v1 (w32 (v2 + (atV q9 14 3 v1)))) (fun q11 => lt_ (setV q11 42 16 q1 3) (fun q12 => lt_ (f_Loads_note q12 h (atV V 44 16 q1) 5 v2) (fun q13 => some q13))))))
set_option maxRecDepth 20000 in
set_option maxHeartbeats 4000000 in
theorem s_Haulage_beginFilling {X : Xs} {d : Nat} {V : VV} {h : HP} {v1 : Int} {v2 : Int} {q : VV} (hh : HOK h) (hf : f_Haulage_beginFilling V h v1 v2 = some q) : Ok X (d + 4) 103 0 ([some (.inr (.inr (.inl 38))), some (.inl v1), some (.inl v2), none, none, none], [], mm V h) (fun M r => M = mm q h ∧ r = none) := by
  let QQ : Mm → Option AV → Prop := fun M r => M = mm q h ∧ r = none
  show Ok X (d + 4) 103 0 ([some (.inr (.inr (.inl 38))), some (.inl v1), some (.inl v2), none, none, none], [], mm V h) QQ
  obtain ⟨q1, e1, hf⟩ := obind hf
  refine ok_callA (L := [some (.inr (.inr (.inl 38))), some (.inl v1), some (.inl v2), none, none, none]) (M := mm V h) (args := [.inr (.inr (.inl 38)), .inl 2, .inl 3, .inl v1]) (rest := []) (y2 := 104) rfl rfl rfl (Or.inl rfl) rfl rfl (Nat.le_of_ble_eq_true rfl) rfl rfl (Nat.le_of_ble_eq_true rfl) (Nat.le_of_ble_eq_true rfl) (s_Haulage_firstStanding hh e1) ?_
  rintro _ _ ⟨rfl, rfl⟩
  refine ok_ic_ne (x := q1) (u := (-1)) (L := [some (.inr (.inr (.inl 38))), some (.inl v1), some (.inl v2), some (.inl q1), none, none]) (S := []) (M := mm V h) rfl rfl (fun c2 => ?_) (fun c2 => ?_)
  ·
    replace hf := (if_neg c2).symm.trans hf
    refine ok_callA (L := [some (.inr (.inr (.inl 38))), some (.inl v1), some (.inl v2), some (.inl q1), none, none]) (M := mm V h) (args := [.inr (.inr (.inl 45)), .inl q1]) (rest := []) (y2 := 21) rfl rfl rfl (Or.inr (Or.inl rfl)) rfl rfl (Nat.le_of_ble_eq_true rfl) rfl rfl (Nat.le_of_ble_eq_true rfl) (Nat.le_of_ble_eq_true rfl) (w_at rfl rfl) ?_
    rintro _ _ ⟨rfl, rfl⟩
    refine ok_callA (L := [some (.inr (.inr (.inl 38))), some (.inl v1), some (.inl v2), some (.inl q1), some (.inl (atV V 44 16 q1)), none]) (M := mm V h) (args := [.inr (.inr (.inl 29)), .inl (atV V 44 16 q1), .inl 1]) (rest := []) (y2 := 105) rfl rfl rfl (Or.inl rfl) rfl rfl (Nat.le_of_ble_eq_true rfl) rfl rfl (Nat.le_of_ble_eq_true rfl) (Nat.le_of_ble_eq_true rfl) (s_Loads_of hh rfl) ?_
    rintro _ _ ⟨rfl, rfl⟩
    refine ok_callA (L := [some (.inr (.inr (.inl 38))), some (.inl v1), some (.inl v2), some (.inl q1), some (.inl (atV V 44 16 q1)), some (.inl (f_Loads_of V h (atV V 44 16 q1) 1))]) (M := mm V h) (args := [.inr (.inr (.inl 39)), .inl v1]) (rest := []) (y2 := 21) rfl rfl rfl (Or.inr (Or.inl rfl)) rfl rfl (Nat.le_of_ble_eq_true rfl) rfl rfl (Nat.le_of_ble_eq_true rfl) (Nat.le_of_ble_eq_true rfl) (w_at rfl rfl) ?_
    rintro _ _ ⟨rfl, rfl⟩
    refine ok_ic_ge (x := atV V 38 3 v1) (u := f_Loads_of V h (atV V 44 16 q1) 1) (L := [some (.inr (.inr (.inl 38))), some (.inl v1), some (.inl v2), some (.inl q1), some (.inl (atV V 44 16 q1)), some (.inl (f_Loads_of V h (atV V 44 16 q1) 1))]) (S := []) (M := mm V h) rfl rfl (fun c6 => ?_) (fun c6 => ?_)
    ·
      replace hf := (if_neg (Int.not_lt.mpr c6)).symm.trans hf
      refine ok_callA (L := [some (.inr (.inr (.inl 38))), some (.inl v1), some (.inl v2), some (.inl q1), some (.inl (atV V 44 16 q1)), some (.inl (f_Loads_of V h (atV V 44 16 q1) 1))]) (M := mm V h) (args := [.inr (.inr (.inl 39)), .inl v1]) (rest := [.inl v1, .inr (.inr (.inl 39))]) (y2 := 21) rfl rfl rfl (Or.inr (Or.inl rfl)) rfl rfl (Nat.le_of_ble_eq_true rfl) rfl rfl (Nat.le_of_ble_eq_true rfl) (Nat.le_of_ble_eq_true rfl) (w_at rfl rfl) ?_
      rintro _ _ ⟨rfl, rfl⟩
      obtain ⟨q8, e8, hf⟩ := lt_x hf
      refine ok_callA (L := [some (.inr (.inr (.inl 38))), some (.inl v1), some (.inl v2), some (.inl q1), some (.inl (atV V 44 16 q1)), some (.inl (f_Loads_of V h (atV V 44 16 q1) 1))]) (M := mm V h) (args := [.inr (.inr (.inl 39)), .inl v1, .inl (w32 ((atV V 38 3 v1) - (f_Loads_of V h (atV V 44 16 q1) 1)))]) (rest := []) (y2 := 9) rfl rfl rfl (Or.inr (Or.inl rfl)) rfl rfl (Nat.le_of_ble_eq_true rfl) rfl rfl (Nat.le_of_ble_eq_true rfl) (Nat.le_of_ble_eq_true rfl) (w_set rfl e8) ?_
      rintro _ _ ⟨rfl, rfl⟩
      obtain ⟨q9, e9, hf⟩ := lt_x hf
      refine ok_callA (L := [some (.inr (.inr (.inl 38))), some (.inl v1), some (.inl v2), some (.inl q1), some (.inl (atV V 44 16 q1)), some (.inl (f_Loads_of V h (atV V 44 16 q1) 1))]) (M := mm q8 h) (args := [.inr (.inr (.inl 40)), .inl v1, .inl q1]) (rest := []) (y2 := 9) rfl rfl rfl (Or.inr (Or.inl rfl)) rfl rfl (Nat.le_of_ble_eq_true rfl) rfl rfl (Nat.le_of_ble_eq_true rfl) (Nat.le_of_ble_eq_true rfl) (w_set rfl e9) ?_
      rintro _ _ ⟨rfl, rfl⟩
      refine ok_callA (L := [some (.inr (.inr (.inl 38))), some (.inl v1), some (.inl v2), some (.inl q1), some (.inl (atV V 44 16 q1)), some (.inl (f_Loads_of V h (atV V 44 16 q1) 1))]) (M := mm q9 h) (args := [.inr (.inr (.inl 15)), .inl v1]) (rest := [.inl v2, .inl v1, .inr (.inr (.inl 41))]) (y2 := 21) rfl rfl rfl (Or.inr (Or.inl rfl)) rfl rfl (Nat.le_of_ble_eq_true rfl) rfl rfl (Nat.le_of_ble_eq_true rfl) (Nat.le_of_ble_eq_true rfl) (w_at rfl rfl) ?_
      rintro _ _ ⟨rfl, rfl⟩
      obtain ⟨q11, e11, hf⟩ := lt_x hf
      refine ok_callA (L := [some (.inr (.inr (.inl 38))), some (.inl v1), some (.inl v2), some (.inl q1), some (.inl (atV V 44 16 q1)), some (.inl (f_Loads_of V h (atV V 44 16 q1) 1))]) (M := mm q9 h) (args := [.inr (.inr (.inl 41)), .inl v1, .inl (w32 (v2 + (atV q9 14 3 v1)))]) (rest := []) (y2 := 9) rfl rfl rfl (Or.inr (Or.inl rfl)) rfl rfl (Nat.le_of_ble_eq_true rfl) rfl rfl (Nat.le_of_ble_eq_true rfl) (Nat.le_of_ble_eq_true rfl) (w_set rfl e11) ?_
      rintro _ _ ⟨rfl, rfl⟩
      obtain ⟨q12, e12, hf⟩ := lt_x hf
      refine ok_callA (L := [some (.inr (.inr (.inl 38))), some (.inl v1), some (.inl v2), some (.inl q1), some (.inl (atV V 44 16 q1)), some (.inl (f_Loads_of V h (atV V 44 16 q1) 1))]) (M := mm q11 h) (args := [.inr (.inr (.inl 43)), .inl q1, .inl 3]) (rest := []) (y2 := 9) rfl rfl rfl (Or.inr (Or.inl rfl)) rfl rfl (Nat.le_of_ble_eq_true rfl) rfl rfl (Nat.le_of_ble_eq_true rfl) (Nat.le_of_ble_eq_true rfl) (w_set rfl e12) ?_
      rintro _ _ ⟨rfl, rfl⟩
      obtain ⟨q13, e13, hf⟩ := lt_x hf
      refine ok_callA (L := [some (.inr (.inr (.inl 38))), some (.inl v1), some (.inl v2), some (.inl q1), some (.inl (atV V 44 16 q1)), some (.inl (f_Loads_of V h (atV V 44 16 q1) 1))]) (M := mm q12 h) (args := [.inr (.inr (.inl 29)), .inl (atV V 44 16 q1), .inl 5, .inl v2]) (rest := []) (y2 := 106) rfl rfl rfl (Or.inl rfl) rfl rfl (Nat.le_of_ble_eq_true rfl) rfl rfl (Nat.le_of_ble_eq_true rfl) (Nat.le_of_ble_eq_true rfl) (s_Loads_note hh e13) ?_
      rintro _ _ ⟨rfl, rfl⟩
      obtain rfl := Option.some.inj hf
      refine ok_return (L := [some (.inr (.inr (.inl 38))), some (.inl v1), some (.inl v2), some (.inl q1), some (.inl (atV V 44 16 q1)), some (.inl (f_Loads_of V h (atV V 44 16 q1) 1))]) (M := mm q13 h) rfl rfl ?_
      exact ⟨rfl, rfl⟩
    ·
      replace hf := (if_pos c6).symm.trans hf
      obtain rfl := Option.some.inj hf
      refine ok_return (L := [some (.inr (.inr (.inl 38))), some (.inl v1), some (.inl v2), some (.inl q1), some (.inl (atV V 44 16 q1)), some (.inl (f_Loads_of V h (atV V 44 16 q1) 1))]) (M := mm V h) rfl rfl ?_
      exact ⟨rfl, rfl⟩
  ·
    replace hf := (if_pos c2).symm.trans hf
    obtain rfl := Option.some.inj hf
    refine ok_return (L := [some (.inr (.inr (.inl 38))), some (.inl v1), some (.inl v2), some (.inl q1), none, none]) (M := mm V h) rfl rfl ?_
    exact ⟨rfl, rfl⟩
def f_Haulage_servePlant_10 (V : VV) (h : HP) (v1 : Int) (v2 : Int) : Option (VV) := if (atV V 39 3 v1) = (-1) then if (f_Hours_isShut V (V 37 4) v1 v2) = 0 then Option.bind (f_Haulage_beginFilling V h v1 v2) (fun q5 => some q5) else some V else some V
set_option maxRecDepth 20000 in
set_option maxHeartbeats 4000000 in
theorem s_Haulage_servePlant_10 {X : Xs} {d : Nat} {V : VV} {h : HP} {v1 : Int} {v2 : Int} {w3 : Int} {q : VV} (hh : HOK h) (hf : f_Haulage_servePlant_10 V h v1 v2 = some q) : Ok X (d + 5) 102 10 ([some (.inr (.inr (.inl 38))), some (.inl v1), some (.inl v2), some (.inl w3)], [], mm V h) (fun M r => M = mm q h ∧ r = none) := by
  let QQ : Mm → Option AV → Prop := fun M r => M = mm q h ∧ r = none
  show Ok X (d + 5) 102 10 ([some (.inr (.inr (.inl 38))), some (.inl v1), some (.inl v2), some (.inl w3)], [], mm V h) QQ
  refine ok_callA (L := [some (.inr (.inr (.inl 38))), some (.inl v1), some (.inl v2), some (.inl w3)]) (M := mm V h) (args := [.inr (.inr (.inl 40)), .inl v1]) (rest := []) (y2 := 21) rfl rfl rfl (Or.inr (Or.inl rfl)) rfl rfl (Nat.le_of_ble_eq_true rfl) rfl rfl (Nat.le_of_ble_eq_true rfl) (Nat.le_of_ble_eq_true rfl) (w_at rfl rfl) ?_
  rintro _ _ ⟨rfl, rfl⟩
  refine ok_ic_ne (x := atV V 39 3 v1) (u := (-1)) (L := [some (.inr (.inr (.inl 38))), some (.inl v1), some (.inl v2), some (.inl w3)]) (S := []) (M := mm V h) rfl rfl (fun c2 => ?_) (fun c2 => ?_)
  ·
    replace hf := (if_neg c2).symm.trans hf
    obtain rfl := Option.some.inj hf
    refine ok_return (L := [some (.inr (.inr (.inl 38))), some (.inl v1), some (.inl v2), some (.inl w3)]) (M := mm V h) rfl rfl ?_
    exact ⟨rfl, rfl⟩
  ·
    replace hf := (if_pos c2).symm.trans hf
    refine ok_callA (L := [some (.inr (.inr (.inl 38))), some (.inl v1), some (.inl v2), some (.inl w3)]) (M := mm V h) (args := [.inr (.inr (.inl 19)), .inl (V 37 4), .inl v1, .inl v2]) (rest := []) (y2 := 91) rfl rfl rfl (Or.inl rfl) rfl rfl (Nat.le_of_ble_eq_true rfl) rfl rfl (Nat.le_of_ble_eq_true rfl) (Nat.le_of_ble_eq_true rfl) (s_Hours_isShut rfl) ?_
    rintro _ _ ⟨rfl, rfl, hz3⟩
    refine ok_if_ne (x := f_Hours_isShut V (V 37 4) v1 v2) (L := [some (.inr (.inr (.inl 38))), some (.inl v1), some (.inl v2), some (.inl w3)]) (S := []) (M := mm V h) rfl rfl (fun c4 => ?_) (fun c4 => ?_)
    ·
      replace hf := (if_neg c4).symm.trans hf
      obtain rfl := Option.some.inj hf
      refine ok_return (L := [some (.inr (.inr (.inl 38))), some (.inl v1), some (.inl v2), some (.inl w3)]) (M := mm V h) rfl rfl ?_
      exact ⟨rfl, rfl⟩
    ·
      replace hf := (if_pos c4).symm.trans hf
      obtain ⟨q5, e5, hf⟩ := obind hf
      refine ok_callA (L := [some (.inr (.inr (.inl 38))), some (.inl v1), some (.inl v2), some (.inl w3)]) (M := mm V h) (args := [.inr (.inr (.inl 38)), .inl v1, .inl v2]) (rest := []) (y2 := 103) rfl rfl rfl (Or.inl rfl) rfl rfl (Nat.le_of_ble_eq_true rfl) rfl rfl (Nat.le_of_ble_eq_true rfl) (Nat.le_of_ble_eq_true rfl) (s_Haulage_beginFilling hh e5) ?_
      rintro _ _ ⟨rfl, rfl⟩
      obtain rfl := Option.some.inj hf
      refine ok_return (L := [some (.inr (.inr (.inl 38))), some (.inl v1), some (.inl v2), some (.inl w3)]) (M := mm q5 h) rfl rfl ?_
      exact ⟨rfl, rfl⟩
def f_Haulage_servePlant (V : VV) (h : HP) (v1 : Int) (v2 : Int) : Option (VV) := if (atV V 39 3 v1) = (-1) then f_Haulage_servePlant_10 V h v1 v2 else if v2 < (atV V 40 3 v1) then f_Haulage_servePlant_10 V h v1 v2 else lt_ (setV V 42 16 (atV V 39 3 v1) 4) (fun q5 => Option.bind (f_Hours_haul q5 (q5 37 4) v1 v2) (fun q6 => lt_ (setV q5 43 16 (atV V 39 3 v1) (w32 (v2 + q6))) (fun q7 => lt_ (setV q7 41 3 v1 (w32 ((atV q7 41 3 v1) - 1))) (fun q9 => lt_ (setV q9 39 3 v1 (-1)) (fun q10 => f_Haulage_servePlant_10 q10 h v1 v2)))))
set_option maxRecDepth 20000 in
set_option maxHeartbeats 4000000 in
theorem s_Haulage_servePlant {X : Xs} {d : Nat} {V : VV} {h : HP} {v1 : Int} {v2 : Int} {q : VV} (hh : HOK h) (hf : f_Haulage_servePlant V h v1 v2 = some q) : Ok X (d + 5) 102 0 ([some (.inr (.inr (.inl 38))), some (.inl v1), some (.inl v2), none], [], mm V h) (fun M r => M = mm q h ∧ r = none) := by
  let QQ : Mm → Option AV → Prop := fun M r => M = mm q h ∧ r = none
  show Ok X (d + 5) 102 0 ([some (.inr (.inr (.inl 38))), some (.inl v1), some (.inl v2), none], [], mm V h) QQ
  refine ok_callA (L := [some (.inr (.inr (.inl 38))), some (.inl v1), some (.inl v2), none]) (M := mm V h) (args := [.inr (.inr (.inl 40)), .inl v1]) (rest := []) (y2 := 21) rfl rfl rfl (Or.inr (Or.inl rfl)) rfl rfl (Nat.le_of_ble_eq_true rfl) rfl rfl (Nat.le_of_ble_eq_true rfl) (Nat.le_of_ble_eq_true rfl) (w_at rfl rfl) ?_
  rintro _ _ ⟨rfl, rfl⟩
  refine ok_ic_eq (x := atV V 39 3 v1) (u := (-1)) (L := [some (.inr (.inr (.inl 38))), some (.inl v1), some (.inl v2), some (.inl (atV V 39 3 v1))]) (S := []) (M := mm V h) rfl rfl (fun c2 => ?_) (fun c2 => ?_)
  ·
    replace hf := (if_pos c2).symm.trans hf
    exact s_Haulage_servePlant_10 hh hf
  ·
    replace hf := (if_neg c2).symm.trans hf
    refine ok_callA (L := [some (.inr (.inr (.inl 38))), some (.inl v1), some (.inl v2), some (.inl (atV V 39 3 v1))]) (M := mm V h) (args := [.inr (.inr (.inl 41)), .inl v1]) (rest := []) (y2 := 21) rfl rfl rfl (Or.inr (Or.inl rfl)) rfl rfl (Nat.le_of_ble_eq_true rfl) rfl rfl (Nat.le_of_ble_eq_true rfl) (Nat.le_of_ble_eq_true rfl) (w_at rfl rfl) ?_
    rintro _ _ ⟨rfl, rfl⟩
    refine ok_ic_gt (x := atV V 40 3 v1) (u := v2) (L := [some (.inr (.inr (.inl 38))), some (.inl v1), some (.inl v2), some (.inl (atV V 39 3 v1))]) (S := []) (M := mm V h) rfl rfl (fun c4 => ?_) (fun c4 => ?_)
    ·
      replace hf := (if_pos c4).symm.trans hf
      exact s_Haulage_servePlant_10 hh hf
    ·
      replace hf := (if_neg (Int.not_lt.mpr c4)).symm.trans hf
      obtain ⟨q5, e5, hf⟩ := lt_x hf
      refine ok_callA (L := [some (.inr (.inr (.inl 38))), some (.inl v1), some (.inl v2), some (.inl (atV V 39 3 v1))]) (M := mm V h) (args := [.inr (.inr (.inl 43)), .inl (atV V 39 3 v1), .inl 4]) (rest := []) (y2 := 9) rfl rfl rfl (Or.inr (Or.inl rfl)) rfl rfl (Nat.le_of_ble_eq_true rfl) rfl rfl (Nat.le_of_ble_eq_true rfl) (Nat.le_of_ble_eq_true rfl) (w_set rfl e5) ?_
      rintro _ _ ⟨rfl, rfl⟩
      obtain ⟨q6, e6, hf⟩ := obind hf
      refine ok_callA (L := [some (.inr (.inr (.inl 38))), some (.inl v1), some (.inl v2), some (.inl (atV V 39 3 v1))]) (M := mm q5 h) (args := [.inr (.inr (.inl 19)), .inl (q5 37 4), .inl v1, .inl v2]) (rest := [.inl v2, .inl (atV V 39 3 v1), .inr (.inr (.inl 44))]) (y2 := 90) rfl rfl rfl (Or.inl rfl) rfl rfl (Nat.le_of_ble_eq_true rfl) rfl rfl (Nat.le_of_ble_eq_true rfl) (Nat.le_of_ble_eq_true rfl) (s_Hours_haul e6) ?_
      rintro _ _ ⟨rfl, rfl⟩
      obtain ⟨q7, e7, hf⟩ := lt_x hf
      refine ok_callA (L := [some (.inr (.inr (.inl 38))), some (.inl v1), some (.inl v2), some (.inl (atV V 39 3 v1))]) (M := mm q5 h) (args := [.inr (.inr (.inl 44)), .inl (atV V 39 3 v1), .inl (w32 (v2 + q6))]) (rest := []) (y2 := 9) rfl rfl rfl (Or.inr (Or.inl rfl)) rfl rfl (Nat.le_of_ble_eq_true rfl) rfl rfl (Nat.le_of_ble_eq_true rfl) (Nat.le_of_ble_eq_true rfl) (w_set rfl e7) ?_
      rintro _ _ ⟨rfl, rfl⟩
      refine ok_callA (L := [some (.inr (.inr (.inl 38))), some (.inl v1), some (.inl v2), some (.inl (atV V 39 3 v1))]) (M := mm q7 h) (args := [.inr (.inr (.inl 42)), .inl v1]) (rest := [.inl v1, .inr (.inr (.inl 42))]) (y2 := 21) rfl rfl rfl (Or.inr (Or.inl rfl)) rfl rfl (Nat.le_of_ble_eq_true rfl) rfl rfl (Nat.le_of_ble_eq_true rfl) (Nat.le_of_ble_eq_true rfl) (w_at rfl rfl) ?_
      rintro _ _ ⟨rfl, rfl⟩
      obtain ⟨q9, e9, hf⟩ := lt_x hf
      refine ok_callA (L := [some (.inr (.inr (.inl 38))), some (.inl v1), some (.inl v2), some (.inl (atV V 39 3 v1))]) (M := mm q7 h) (args := [.inr (.inr (.inl 42)), .inl v1, .inl (w32 ((atV q7 41 3 v1) - 1))]) (rest := []) (y2 := 9) rfl rfl rfl (Or.inr (Or.inl rfl)) rfl rfl (Nat.le_of_ble_eq_true rfl) rfl rfl (Nat.le_of_ble_eq_true rfl) (Nat.le_of_ble_eq_true rfl) (w_set rfl e9) ?_
      rintro _ _ ⟨rfl, rfl⟩
      obtain ⟨q10, e10, hf⟩ := lt_x hf
      refine ok_callA (L := [some (.inr (.inr (.inl 38))), some (.inl v1), some (.inl v2), some (.inl (atV V 39 3 v1))]) (M := mm q9 h) (args := [.inr (.inr (.inl 40)), .inl v1, .inl (-1)]) (rest := []) (y2 := 9) rfl rfl rfl (Or.inr (Or.inl rfl)) rfl rfl (Nat.le_of_ble_eq_true rfl) rfl rfl (Nat.le_of_ble_eq_true rfl) (Nat.le_of_ble_eq_true rfl) (w_set rfl e10) ?_
      rintro _ _ ⟨rfl, rfl⟩
      exact s_Haulage_servePlant_10 hh hf
def f_Haulage_nextToOrder_6 (V : VV)  : Option (VV × Int) := some (V, (if (V 37 6) < (f_Road_jobs V) then V 37 6 else (-1) : Int))
set_option maxRecDepth 20000 in
set_option maxHeartbeats 4000000 in
theorem s_Haulage_nextToOrder_6 {X : Xs} {d : Nat} {V : VV} {h : HP} {q : VV × Int} (hf : f_Haulage_nextToOrder_6 V = some q) : Ok X (d + 2) 108 6 ([some (.inr (.inr (.inl 38)))], [], mm V h) (fun M r => M = mm q.1 h ∧ r = some (.inl q.2)) := by
  let QQ : Mm → Option AV → Prop := fun M r => M = mm q.1 h ∧ r = some (.inl q.2)
  show Ok X (d + 2) 108 6 ([some (.inr (.inr (.inl 38)))], [], mm V h) QQ
  refine ok_callA (L := [some (.inr (.inr (.inl 38)))]) (M := mm V h) (args := [.inr (.inr (.inl 2))]) (rest := [.inl (V 37 6)]) (y2 := 25) rfl rfl rfl (Or.inl rfl) rfl rfl (Nat.le_of_ble_eq_true rfl) rfl rfl (Nat.le_of_ble_eq_true rfl) (Nat.le_of_ble_eq_true rfl) (s_Road_jobs rfl) ?_
  rintro _ _ ⟨rfl, rfl⟩
  have JN2 : Ok X (d + 2) 108 10 ([some (.inr (.inr (.inl 38)))], [.inl (if (V 37 6) < (f_Road_jobs V) then V 37 6 else (-1) : Int)], mm V h) QQ := by
    obtain rfl := Option.some.inj hf
    refine ok_ireturn (L := [some (.inr (.inr (.inl 38)))]) (M := mm V h) (x := (if (V 37 6) < (f_Road_jobs V) then V 37 6 else (-1) : Int)) rfl rfl ?_
    exact ⟨rfl, rfl⟩
  clear hf
  refine ok_ic_ge (x := V 37 6) (u := f_Road_jobs V) (L := [some (.inr (.inr (.inl 38)))]) (S := []) (M := mm V h) rfl rfl (fun c3 => ?_) (fun c3 => ?_)
  ·
    simp only [if_neg (Int.not_lt.mpr c3)] at JN2
    refine ok_thru (L := [some (.inr (.inr (.inl 38)))]) (S := [.inl (-1)]) (M := mm V h) rfl rfl ?_
    first | exact JN2 | (simp only [if_neg (Int.not_lt.mpr c3)]; exact JN2)
  ·
    simp only [if_pos c3] at JN2
    refine ok_goto (L := [some (.inr (.inr (.inl 38)))]) (S := [.inl (V 37 6)]) (M := mm V h) rfl rfl ?_
    first | exact JN2 | (simp only [if_pos c3]; exact JN2)
def f_Haulage_nextToOrder_0 : Nat → VV → (Option (VV × Int))
  | 0, _ => none
  | n + 1, V => if (V 37 6) < (f_Road_jobs V) then if (atV V 45 36 (V 37 6)) < (atV V 9 36 (V 37 6)) then f_Haulage_nextToOrder_6 V else f_Haulage_nextToOrder_0 n (up V 37 6 (w32 ((V 37 6) + 1))) else f_Haulage_nextToOrder_6 V
set_option maxRecDepth 20000 in
set_option maxHeartbeats 4000000 in
theorem s_Haulage_nextToOrder_0_n {X : Xs} {d : Nat} {h : HP} {q : VV × Int} : ∀ (n : Nat) (V : VV), f_Haulage_nextToOrder_0 n V = some q → Ok X (d + 2) 108 0 ([some (.inr (.inr (.inl 38)))], [], mm V h) (fun M r => M = mm q.1 h ∧ r = some (.inl q.2)) := by
  intro n
  induction n with
  | zero => intro V hf; cases hf
  | succ n ih =>
    intro V hf
    let QQ : Mm → Option AV → Prop := fun M r => M = mm q.1 h ∧ r = some (.inl q.2)
    show Ok X (d + 2) 108 0 ([some (.inr (.inr (.inl 38)))], [], mm V h) QQ
    refine ok_callA (L := [some (.inr (.inr (.inl 38)))]) (M := mm V h) (args := [.inr (.inr (.inl 2))]) (rest := [.inl (V 37 6)]) (y2 := 25) rfl rfl rfl (Or.inl rfl) rfl rfl (Nat.le_of_ble_eq_true rfl) rfl rfl (Nat.le_of_ble_eq_true rfl) (Nat.le_of_ble_eq_true rfl) (s_Road_jobs rfl) ?_
    rintro _ _ ⟨rfl, rfl⟩
    refine ok_ic_ge (x := V 37 6) (u := f_Road_jobs V) (L := [some (.inr (.inr (.inl 38)))]) (S := []) (M := mm V h) rfl rfl (fun c2 => ?_) (fun c2 => ?_)
    ·
      replace hf := (if_neg (Int.not_lt.mpr c2)).symm.trans hf
      exact s_Haulage_nextToOrder_6 hf
    ·
      replace hf := (if_pos c2).symm.trans hf
      refine ok_callA (L := [some (.inr (.inr (.inl 38)))]) (M := mm V h) (args := [.inr (.inr (.inl 46)), .inl (V 37 6)]) (rest := []) (y2 := 21) rfl rfl rfl (Or.inr (Or.inl rfl)) rfl rfl (Nat.le_of_ble_eq_true rfl) rfl rfl (Nat.le_of_ble_eq_true rfl) (Nat.le_of_ble_eq_true rfl) (w_at rfl rfl) ?_
      rintro _ _ ⟨rfl, rfl⟩
      refine ok_callA (L := [some (.inr (.inr (.inl 38)))]) (M := mm V h) (args := [.inr (.inr (.inl 10)), .inl (V 37 6)]) (rest := [.inl (atV V 45 36 (V 37 6))]) (y2 := 21) rfl rfl rfl (Or.inr (Or.inl rfl)) rfl rfl (Nat.le_of_ble_eq_true rfl) rfl rfl (Nat.le_of_ble_eq_true rfl) (Nat.le_of_ble_eq_true rfl) (w_at rfl rfl) ?_
      rintro _ _ ⟨rfl, rfl⟩
      refine ok_ic_lt (x := atV V 45 36 (V 37 6)) (u := atV V 9 36 (V 37 6)) (L := [some (.inr (.inr (.inl 38)))]) (S := []) (M := mm V h) rfl rfl (fun c5 => ?_) (fun c5 => ?_)
      ·
        replace hf := (if_pos c5).symm.trans hf
        exact s_Haulage_nextToOrder_6 hf
      ·
        replace hf := (if_neg (Int.not_lt.mpr c5)).symm.trans hf
        refine ok_goto (L := [some (.inr (.inr (.inl 38)))]) (S := []) (M := mm (up V 37 6 (w32 ((V 37 6) + 1))) h) rfl rfl ?_
        exact ih (up V 37 6 (w32 ((V 37 6) + 1))) hf
theorem s_Haulage_nextToOrder_0 {X : Xs} {d : Nat} {h : HP} {V : VV} {n : Nat} {q : VV × Int} (hf : f_Haulage_nextToOrder_0 n V = some q) : Ok X (d + 2) 108 0 ([some (.inr (.inr (.inl 38)))], [], mm V h) (fun M r => M = mm q.1 h ∧ r = some (.inl q.2)) :=
  s_Haulage_nextToOrder_0_n n V hf
def f_Haulage_nextToOrder (V : VV)  : Option (VV × Int) := f_Haulage_nextToOrder_0 FU V
theorem s_Haulage_nextToOrder {X : Xs} {d : Nat} {V : VV} {h : HP} {q : VV × Int} (hf : f_Haulage_nextToOrder V = some q) : Ok X (d + 2) 108 0 ([some (.inr (.inr (.inl 38)))], [], mm V h) (fun M r => M = mm q.1 h ∧ r = some (.inl q.2)) :=
  s_Haulage_nextToOrder_0_n FU V hf
def f_Haulage_leastSent_1 : Nat → VV → Int → Int → Int → (Option (Int))
  | 0, _, _, _, _ => none
  | n + 1, V, v1, v2, v3 => if v3 < (V 10 4) then f_Haulage_leastSent_1 n V v1 (if (atV V 11 3 v3) = v1 then (if v2 = (-1) then v3 else (if (atV V 41 3 v3) < (atV V 41 3 v2) then v3 else v2 : Int) : Int) else v2 : Int) (w32 (v3 + 1)) else some v2
set_option maxRecDepth 20000 in
set_option maxHeartbeats 4000000 in
theorem s_Haulage_leastSent_1_n {X : Xs} {d : Nat} {V : VV} {h : HP} {q : Int} : ∀ (n : Nat) (v1 : Int) (v2 : Int) (v3 : Int), f_Haulage_leastSent_1 n V v1 v2 v3 = some q → Ok X (d + 2) 111 1 ([some (.inr (.inr (.inl 38))), some (.inl v1), some (.inl v2), some (.inl v3)], [], mm V h) (fun M r => M = mm V h ∧ r = some (.inl q)) := by
  intro n
  induction n with
  | zero => intro v1 v2 v3 hf; cases hf
  | succ n ih =>
    intro v1 v2 v3 hf
    let QQ : Mm → Option AV → Prop := fun M r => M = mm V h ∧ r = some (.inl q)
    show Ok X (d + 2) 111 1 ([some (.inr (.inr (.inl 38))), some (.inl v1), some (.inl v2), some (.inl v3)], [], mm V h) QQ
    refine ok_ic_ge (x := v3) (u := V 10 4) (L := [some (.inr (.inr (.inl 38))), some (.inl v1), some (.inl v2), some (.inl v3)]) (S := []) (M := mm V h) rfl rfl (fun c1 => ?_) (fun c1 => ?_)
    ·
      replace hf := (if_neg (Int.not_lt.mpr c1)).symm.trans hf
      obtain rfl := Option.some.inj hf
      refine ok_ireturn (L := [some (.inr (.inr (.inl 38))), some (.inl v1), some (.inl v2), some (.inl v3)]) (M := mm V h) (x := v2) rfl rfl ?_
      exact ⟨rfl, rfl⟩
    ·
      replace hf := (if_pos c1).symm.trans hf
      refine ok_callA (L := [some (.inr (.inr (.inl 38))), some (.inl v1), some (.inl v2), some (.inl v3)]) (M := mm V h) (args := [.inr (.inr (.inl 12)), .inl v3]) (rest := []) (y2 := 21) rfl rfl rfl (Or.inr (Or.inl rfl)) rfl rfl (Nat.le_of_ble_eq_true rfl) rfl rfl (Nat.le_of_ble_eq_true rfl) (Nat.le_of_ble_eq_true rfl) (w_at rfl rfl) ?_
      rintro _ _ ⟨rfl, rfl⟩
      have JN3 : Ok X (d + 2) 111 9 ([some (.inr (.inr (.inl 38))), some (.inl v1), some (.inl (if (atV V 11 3 v3) = v1 then (if v2 = (-1) then v3 else (if (atV V 41 3 v3) < (atV V 41 3 v2) then v3 else v2 : Int) : Int) else v2 : Int)), some (.inl v3)], [], mm V h) QQ := by
        refine ok_goto (L := [some (.inr (.inr (.inl 38))), some (.inl v1), some (.inl (if (atV V 11 3 v3) = v1 then (if v2 = (-1) then v3 else (if (atV V 41 3 v3) < (atV V 41 3 v2) then v3 else v2 : Int) : Int) else v2 : Int)), some (.inl (w32 (v3 + 1)))]) (S := []) (M := mm V h) rfl rfl ?_
        exact ih v1 (if (atV V 11 3 v3) = v1 then (if v2 = (-1) then v3 else (if (atV V 41 3 v3) < (atV V 41 3 v2) then v3 else v2 : Int) : Int) else v2 : Int) (w32 (v3 + 1)) hf
      clear hf
      refine ok_ic_ne (x := atV V 11 3 v3) (u := v1) (L := [some (.inr (.inr (.inl 38))), some (.inl v1), some (.inl v2), some (.inl v3)]) (S := []) (M := mm V h) rfl rfl (fun c4 => ?_) (fun c4 => ?_)
      ·
        simp only [if_neg c4] at JN3
        first | exact JN3 | (simp only [if_neg c4]; exact JN3)
      ·
        simp only [if_pos c4] at JN3
        refine ok_ic_eq (x := v2) (u := (-1)) (L := [some (.inr (.inr (.inl 38))), some (.inl v1), some (.inl v2), some (.inl v3)]) (S := []) (M := mm V h) rfl rfl (fun c5 => ?_) (fun c5 => ?_)
        ·
          simp only [if_pos c5] at JN3
          refine ok_thru (L := [some (.inr (.inr (.inl 38))), some (.inl v1), some (.inl v3), some (.inl v3)]) (S := []) (M := mm V h) rfl rfl ?_
          first | exact JN3 | (simp only [if_pos c4, if_pos c5]; exact JN3)
        ·
          simp only [if_neg c5] at JN3
          refine ok_callA (L := [some (.inr (.inr (.inl 38))), some (.inl v1), some (.inl v2), some (.inl v3)]) (M := mm V h) (args := [.inr (.inr (.inl 42)), .inl v3]) (rest := []) (y2 := 21) rfl rfl rfl (Or.inr (Or.inl rfl)) rfl rfl (Nat.le_of_ble_eq_true rfl) rfl rfl (Nat.le_of_ble_eq_true rfl) (Nat.le_of_ble_eq_true rfl) (w_at rfl rfl) ?_
          rintro _ _ ⟨rfl, rfl⟩
          refine ok_callA (L := [some (.inr (.inr (.inl 38))), some (.inl v1), some (.inl v2), some (.inl v3)]) (M := mm V h) (args := [.inr (.inr (.inl 42)), .inl v2]) (rest := [.inl (atV V 41 3 v3)]) (y2 := 21) rfl rfl rfl (Or.inr (Or.inl rfl)) rfl rfl (Nat.le_of_ble_eq_true rfl) rfl rfl (Nat.le_of_ble_eq_true rfl) (Nat.le_of_ble_eq_true rfl) (w_at rfl rfl) ?_
          rintro _ _ ⟨rfl, rfl⟩
          refine ok_ic_ge (x := atV V 41 3 v3) (u := atV V 41 3 v2) (L := [some (.inr (.inr (.inl 38))), some (.inl v1), some (.inl v2), some (.inl v3)]) (S := []) (M := mm V h) rfl rfl (fun c8 => ?_) (fun c8 => ?_)
          ·
            simp only [if_neg (Int.not_lt.mpr c8)] at JN3
            first | exact JN3 | (simp only [if_pos c4, if_neg c5, if_neg (Int.not_lt.mpr c8)]; exact JN3)
          ·
            simp only [if_pos c8] at JN3
            refine ok_thru (L := [some (.inr (.inr (.inl 38))), some (.inl v1), some (.inl v3), some (.inl v3)]) (S := []) (M := mm V h) rfl rfl ?_
            first | exact JN3 | (simp only [if_pos c4, if_neg c5, if_pos c8]; exact JN3)
theorem s_Haulage_leastSent_1 {X : Xs} {d : Nat} {V : VV} {h : HP} {v1 : Int} {v2 : Int} {v3 : Int} {n : Nat} {q : Int} (hf : f_Haulage_leastSent_1 n V v1 v2 v3 = some q) : Ok X (d + 2) 111 1 ([some (.inr (.inr (.inl 38))), some (.inl v1), some (.inl v2), some (.inl v3)], [], mm V h) (fun M r => M = mm V h ∧ r = some (.inl q)) :=
  s_Haulage_leastSent_1_n n v1 v2 v3 hf
def f_Haulage_leastSent (V : VV) (v1 : Int) : Option (Int) := f_Haulage_leastSent_1 FU V v1 (-1) 0
set_option maxRecDepth 20000 in
set_option maxHeartbeats 4000000 in
theorem s_Haulage_leastSent {X : Xs} {d : Nat} {V : VV} {h : HP} {v1 : Int} {q : Int} (hf : f_Haulage_leastSent V v1 = some q) : Ok X (d + 2) 111 0 ([some (.inr (.inr (.inl 38))), some (.inl v1), none, none], [], mm V h) (fun M r => M = mm V h ∧ r = some (.inl q)) := by
  let QQ : Mm → Option AV → Prop := fun M r => M = mm V h ∧ r = some (.inl q)
  show Ok X (d + 2) 111 0 ([some (.inr (.inr (.inl 38))), some (.inl v1), none, none], [], mm V h) QQ
  refine ok_thru (L := [some (.inr (.inr (.inl 38))), some (.inl v1), some (.inl (-1)), some (.inl 0)]) (S := []) (M := mm V h) rfl rfl ?_
  exact s_Haulage_leastSent_1 hf
def f_Haulage_orderLoad_8 (V : VV) (h : HP) (v1 : Int) (v2 : Int) (v3 : Int) (v4 : Int) (v5 : Int) (t0 : Int) : Option (VV × HP) := if t0 = (-1) then some (V, h) else lt_ (setV V 45 36 v2 (w32 ((atV V 45 36 v2) + v5))) (fun q3 => lt_ (setV q3 41 3 v4 (w32 ((atV q3 41 3 v4) + 1))) (fun q5 => lt_ (setV q5 44 16 v1 t0) (fun q6 => lt_ (setV q6 42 16 v1 1) (fun q7 => Option.bind (f_Hours_haul q7 (q7 37 4) v4 v3) (fun q8 => lt_ (setV q7 43 16 v1 (w32 (v3 + q8))) (fun q9 => some (q9, h)))))))
set_option maxRecDepth 20000 in
set_option maxHeartbeats 4000000 in
theorem s_Haulage_orderLoad_8 {X : Xs} {d : Nat} {V : VV} {h : HP} {v1 : Int} {v2 : Int} {v3 : Int} {v4 : Int} {v5 : Int} {t0 : Int} {z6 : Option AV} {q : VV × HP} (hh : HOK h) (hf : f_Haulage_orderLoad_8 V h v1 v2 v3 v4 v5 t0 = some q) : Ok X (d + 5) 109 8 ([some (.inr (.inr (.inl 38))), some (.inl v1), some (.inl v2), some (.inl v3), some (.inl v4), some (.inl v5), z6], [.inl t0], mm V h) (fun M r => M = mm q.1 q.2 ∧ HOK q.2 ∧ r = none) := by
  let QQ : Mm → Option AV → Prop := fun M r => M = mm q.1 q.2 ∧ HOK q.2 ∧ r = none
  show Ok X (d + 5) 109 8 ([some (.inr (.inr (.inl 38))), some (.inl v1), some (.inl v2), some (.inl v3), some (.inl v4), some (.inl v5), z6], [.inl t0], mm V h) QQ
  refine ok_ic_ne (x := t0) (u := (-1)) (L := [some (.inr (.inr (.inl 38))), some (.inl v1), some (.inl v2), some (.inl v3), some (.inl v4), some (.inl v5), some (.inl t0)]) (S := []) (M := mm V h) rfl rfl (fun c1 => ?_) (fun c1 => ?_)
  ·
    replace hf := (if_neg c1).symm.trans hf
    refine ok_callA (L := [some (.inr (.inr (.inl 38))), some (.inl v1), some (.inl v2), some (.inl v3), some (.inl v4), some (.inl v5), some (.inl t0)]) (M := mm V h) (args := [.inr (.inr (.inl 46)), .inl v2]) (rest := [.inl v2, .inr (.inr (.inl 46))]) (y2 := 21) rfl rfl rfl (Or.inr (Or.inl rfl)) rfl rfl (Nat.le_of_ble_eq_true rfl) rfl rfl (Nat.le_of_ble_eq_true rfl) (Nat.le_of_ble_eq_true rfl) (w_at rfl rfl) ?_
    rintro _ _ ⟨rfl, rfl⟩
    obtain ⟨q3, e3, hf⟩ := lt_x hf
    refine ok_callA (L := [some (.inr (.inr (.inl 38))), some (.inl v1), some (.inl v2), some (.inl v3), some (.inl v4), some (.inl v5), some (.inl t0)]) (M := mm V h) (args := [.inr (.inr (.inl 46)), .inl v2, .inl (w32 ((atV V 45 36 v2) + v5))]) (rest := []) (y2 := 9) rfl rfl rfl (Or.inr (Or.inl rfl)) rfl rfl (Nat.le_of_ble_eq_true rfl) rfl rfl (Nat.le_of_ble_eq_true rfl) (Nat.le_of_ble_eq_true rfl) (w_set rfl e3) ?_
    rintro _ _ ⟨rfl, rfl⟩
    refine ok_callA (L := [some (.inr (.inr (.inl 38))), some (.inl v1), some (.inl v2), some (.inl v3), some (.inl v4), some (.inl v5), some (.inl t0)]) (M := mm q3 h) (args := [.inr (.inr (.inl 42)), .inl v4]) (rest := [.inl v4, .inr (.inr (.inl 42))]) (y2 := 21) rfl rfl rfl (Or.inr (Or.inl rfl)) rfl rfl (Nat.le_of_ble_eq_true rfl) rfl rfl (Nat.le_of_ble_eq_true rfl) (Nat.le_of_ble_eq_true rfl) (w_at rfl rfl) ?_
    rintro _ _ ⟨rfl, rfl⟩
    obtain ⟨q5, e5, hf⟩ := lt_x hf
    refine ok_callA (L := [some (.inr (.inr (.inl 38))), some (.inl v1), some (.inl v2), some (.inl v3), some (.inl v4), some (.inl v5), some (.inl t0)]) (M := mm q3 h) (args := [.inr (.inr (.inl 42)), .inl v4, .inl (w32 ((atV q3 41 3 v4) + 1))]) (rest := []) (y2 := 9) rfl rfl rfl (Or.inr (Or.inl rfl)) rfl rfl (Nat.le_of_ble_eq_true rfl) rfl rfl (Nat.le_of_ble_eq_true rfl) (Nat.le_of_ble_eq_true rfl) (w_set rfl e5) ?_
    rintro _ _ ⟨rfl, rfl⟩
    obtain ⟨q6, e6, hf⟩ := lt_x hf
    refine ok_callA (L := [some (.inr (.inr (.inl 38))), some (.inl v1), some (.inl v2), some (.inl v3), some (.inl v4), some (.inl v5), some (.inl t0)]) (M := mm q5 h) (args := [.inr (.inr (.inl 45)), .inl v1, .inl t0]) (rest := []) (y2 := 9) rfl rfl rfl (Or.inr (Or.inl rfl)) rfl rfl (Nat.le_of_ble_eq_true rfl) rfl rfl (Nat.le_of_ble_eq_true rfl) (Nat.le_of_ble_eq_true rfl) (w_set rfl e6) ?_
    rintro _ _ ⟨rfl, rfl⟩
    obtain ⟨q7, e7, hf⟩ := lt_x hf
    refine ok_callA (L := [some (.inr (.inr (.inl 38))), some (.inl v1), some (.inl v2), some (.inl v3), some (.inl v4), some (.inl v5), some (.inl t0)]) (M := mm q6 h) (args := [.inr (.inr (.inl 43)), .inl v1, .inl 1]) (rest := []) (y2 := 9) rfl rfl rfl (Or.inr (Or.inl rfl)) rfl rfl (Nat.le_of_ble_eq_true rfl) rfl rfl (Nat.le_of_ble_eq_true rfl) (Nat.le_of_ble_eq_true rfl) (w_set rfl e7) ?_
    rintro _ _ ⟨rfl, rfl⟩
    obtain ⟨q8, e8, hf⟩ := obind hf
    refine ok_callA (L := [some (.inr (.inr (.inl 38))), some (.inl v1), some (.inl v2), some (.inl v3), some (.inl v4), some (.inl v5), some (.inl t0)]) (M := mm q7 h) (args := [.inr (.inr (.inl 19)), .inl (q7 37 4), .inl v4, .inl v3]) (rest := [.inl v3, .inl v1, .inr (.inr (.inl 44))]) (y2 := 90) rfl rfl rfl (Or.inl rfl) rfl rfl (Nat.le_of_ble_eq_true rfl) rfl rfl (Nat.le_of_ble_eq_true rfl) (Nat.le_of_ble_eq_true rfl) (s_Hours_haul e8) ?_
    rintro _ _ ⟨rfl, rfl⟩
    obtain ⟨q9, e9, hf⟩ := lt_x hf
    refine ok_callA (L := [some (.inr (.inr (.inl 38))), some (.inl v1), some (.inl v2), some (.inl v3), some (.inl v4), some (.inl v5), some (.inl t0)]) (M := mm q7 h) (args := [.inr (.inr (.inl 44)), .inl v1, .inl (w32 (v3 + q8))]) (rest := []) (y2 := 9) rfl rfl rfl (Or.inr (Or.inl rfl)) rfl rfl (Nat.le_of_ble_eq_true rfl) rfl rfl (Nat.le_of_ble_eq_true rfl) (Nat.le_of_ble_eq_true rfl) (w_set rfl e9) ?_
    rintro _ _ ⟨rfl, rfl⟩
    obtain rfl := Option.some.inj hf
    refine ok_return (L := [some (.inr (.inr (.inl 38))), some (.inl v1), some (.inl v2), some (.inl v3), some (.inl v4), some (.inl v5), some (.inl t0)]) (M := mm q9 h) rfl rfl ?_
    exact ⟨rfl, hh, rfl⟩
  ·
    replace hf := (if_pos c1).symm.trans hf
    obtain rfl := Option.some.inj hf
    refine ok_return (L := [some (.inr (.inr (.inl 38))), some (.inl v1), some (.inl v2), some (.inl v3), some (.inl v4), some (.inl v5), some (.inl t0)]) (M := mm V h) rfl rfl ?_
    exact ⟨rfl, hh, rfl⟩
def f_Haulage_orderLoad (V : VV) (h : HP) (v1 : Int) (v2 : Int) (v3 : Int) : Option (VV × HP) := Option.bind (f_Haulage_leastSent V (f_Road_kindOf V v2)) (fun q2 => if q2 = (-1) then f_Haulage_orderLoad_8 V h v1 v2 v3 q2 (min (V 10 6) (w32 ((atV V 9 36 v2) - (atV V 45 36 v2)))) (-1) else lt_ (f_Loads_add V h v2 (min (V 10 6) (w32 ((atV V 9 36 v2) - (atV V 45 36 v2)))) v1 q2 v3) (fun q6 => f_Haulage_orderLoad_8 q6.1.1 (q6.1.2) v1 v2 v3 q2 (min (V 10 6) (w32 ((atV V 9 36 v2) - (atV V 45 36 v2)))) q6.2))
set_option maxRecDepth 20000 in
set_option maxHeartbeats 4000000 in
theorem s_Haulage_orderLoad {X : Xs} {d : Nat} {V : VV} {h : HP} {v1 : Int} {v2 : Int} {v3 : Int} {q : VV × HP} (hh : HOK h) (hf : f_Haulage_orderLoad V h v1 v2 v3 = some q) : Ok X (d + 5) 109 0 ([some (.inr (.inr (.inl 38))), some (.inl v1), some (.inl v2), some (.inl v3), none, none, none], [], mm V h) (fun M r => M = mm q.1 q.2 ∧ HOK q.2 ∧ r = none) := by
  let QQ : Mm → Option AV → Prop := fun M r => M = mm q.1 q.2 ∧ HOK q.2 ∧ r = none
  show Ok X (d + 5) 109 0 ([some (.inr (.inr (.inl 38))), some (.inl v1), some (.inl v2), some (.inl v3), none, none, none], [], mm V h) QQ
  refine ok_callA (L := [some (.inr (.inr (.inl 38))), some (.inl v1), some (.inl v2), some (.inl v3), none, none, none]) (M := mm V h) (args := [.inr (.inr (.inl 2)), .inl v2]) (rest := [.inr (.inr (.inl 38))]) (y2 := 110) rfl rfl rfl (Or.inl rfl) rfl rfl (Nat.le_of_ble_eq_true rfl) rfl rfl (Nat.le_of_ble_eq_true rfl) (Nat.le_of_ble_eq_true rfl) (s_Road_kindOf rfl) ?_
  rintro _ _ ⟨rfl, rfl⟩
  obtain ⟨q2, e2, hf⟩ := obind hf
  refine ok_callA (L := [some (.inr (.inr (.inl 38))), some (.inl v1), some (.inl v2), some (.inl v3), none, none, none]) (M := mm V h) (args := [.inr (.inr (.inl 38)), .inl (f_Road_kindOf V v2)]) (rest := []) (y2 := 111) rfl rfl rfl (Or.inl rfl) rfl rfl (Nat.le_of_ble_eq_true rfl) rfl rfl (Nat.le_of_ble_eq_true rfl) (Nat.le_of_ble_eq_true rfl) (s_Haulage_leastSent e2) ?_
  rintro _ _ ⟨rfl, rfl⟩
  refine ok_callA (L := [some (.inr (.inr (.inl 38))), some (.inl v1), some (.inl v2), some (.inl v3), some (.inl q2), none, none]) (M := mm V h) (args := [.inr (.inr (.inl 10)), .inl v2]) (rest := [.inl (V 10 6)]) (y2 := 21) rfl rfl rfl (Or.inr (Or.inl rfl)) rfl rfl (Nat.le_of_ble_eq_true rfl) rfl rfl (Nat.le_of_ble_eq_true rfl) (Nat.le_of_ble_eq_true rfl) (w_at rfl rfl) ?_
  rintro _ _ ⟨rfl, rfl⟩
  refine ok_callA (L := [some (.inr (.inr (.inl 38))), some (.inl v1), some (.inl v2), some (.inl v3), some (.inl q2), none, none]) (M := mm V h) (args := [.inr (.inr (.inl 46)), .inl v2]) (rest := [.inl (atV V 9 36 v2), .inl (V 10 6)]) (y2 := 21) rfl rfl rfl (Or.inr (Or.inl rfl)) rfl rfl (Nat.le_of_ble_eq_true rfl) rfl rfl (Nat.le_of_ble_eq_true rfl) (Nat.le_of_ble_eq_true rfl) (w_at rfl rfl) ?_
  rintro _ _ ⟨rfl, rfl⟩
  refine ok_mmin (u := V 10 6) (v := w32 ((atV V 9 36 v2) - (atV V 45 36 v2))) (L := [some (.inr (.inr (.inl 38))), some (.inl v1), some (.inl v2), some (.inl v3), some (.inl q2), none, none]) (S := []) (M := mm V h) rfl rfl rfl (Nat.le_of_ble_eq_true rfl) ?_
  refine ok_ic_ne (x := q2) (u := (-1)) (L := [some (.inr (.inr (.inl 38))), some (.inl v1), some (.inl v2), some (.inl v3), some (.inl q2), some (.inl (min (V 10 6) (w32 ((atV V 9 36 v2) - (atV V 45 36 v2))))), none]) (S := []) (M := mm V h) rfl rfl (fun c5 => ?_) (fun c5 => ?_)
  ·
    replace hf := (if_neg c5).symm.trans hf
    obtain ⟨q6, e6, hf⟩ := lt_x hf
    refine ok_callA (L := [some (.inr (.inr (.inl 38))), some (.inl v1), some (.inl v2), some (.inl v3), some (.inl q2), some (.inl (min (V 10 6) (w32 ((atV V 9 36 v2) - (atV V 45 36 v2))))), none]) (M := mm V h) (args := [.inr (.inr (.inl 29)), .inl v2, .inl (min (V 10 6) (w32 ((atV V 9 36 v2) - (atV V 45 36 v2)))), .inl v1, .inl q2, .inl v3]) (rest := []) (y2 := 112) rfl rfl rfl (Or.inl rfl) rfl rfl (Nat.le_of_ble_eq_true rfl) rfl rfl (Nat.le_of_ble_eq_true rfl) (Nat.le_of_ble_eq_true rfl) (s_Loads_add hh e6) ?_
    rintro _ _ ⟨rfl, hh, rfl⟩
    exact s_Haulage_orderLoad_8 hh hf
  ·
    replace hf := (if_pos c5).symm.trans hf
    refine ok_goto (L := [some (.inr (.inr (.inl 38))), some (.inl v1), some (.inl v2), some (.inl v3), some (.inl q2), some (.inl (min (V 10 6) (w32 ((atV V 9 36 v2) - (atV V 45 36 v2))))), none]) (S := [.inl (-1)]) (M := mm V h) rfl rfl ?_
    exact s_Haulage_orderLoad_8 hh hf
def f_Haulage_orderLoads_8 (k1 : VV → HP → Int → Int → (Option (VV × HP))) (V : VV) (h : HP) (v1 : Int) (v2 : Int) : Option (VV × HP) := k1 V h v1 (w32 (v2 + 1))
set_option maxRecDepth 20000 in
set_option maxHeartbeats 4000000 in
theorem s_Haulage_orderLoads_8 {X : Xs} {d : Nat} {k1 : VV → HP → Int → Int → (Option (VV × HP))} {V : VV} {h : HP} {v1 : Int} {v2 : Int} {z3 : Option AV} {q : VV × HP} (hh : HOK h) (hf : f_Haulage_orderLoads_8 k1 V h v1 v2 = some q) (K1 : ∀ (V : VV) (h : HP) (v1 : Int) (v2 : Int) (z3 : Option AV), HOK h → k1 V h v1 v2 = some q → Ok X (d + 6) 107 1 ([some (.inr (.inr (.inl 38))), some (.inl v1), some (.inl v2), z3], [], mm V h) (fun M r => M = mm q.1 q.2 ∧ HOK q.2 ∧ r = none)) : Ok X (d + 6) 107 8 ([some (.inr (.inr (.inl 38))), some (.inl v1), some (.inl v2), z3], [], mm V h) (fun M r => M = mm q.1 q.2 ∧ HOK q.2 ∧ r = none) := by
  let QQ : Mm → Option AV → Prop := fun M r => M = mm q.1 q.2 ∧ HOK q.2 ∧ r = none
  show Ok X (d + 6) 107 8 ([some (.inr (.inr (.inl 38))), some (.inl v1), some (.inl v2), z3], [], mm V h) QQ
  refine ok_goto (L := [some (.inr (.inr (.inl 38))), some (.inl v1), some (.inl (w32 (v2 + 1))), z3]) (S := []) (M := mm V h) rfl rfl ?_
  exact K1 V h v1 (w32 (v2 + 1)) z3 hh hf
def f_Haulage_orderLoads_1 : Nat → VV → HP → Int → Int → (Option (VV × HP))
  | 0, _, _, _, _ => none
  | n + 1, V, h, v1, v2 => if v2 < (V 37 5) then if (atV V 42 16 v2) = 0 then Option.bind (f_Haulage_nextToOrder V) (fun q4 => if q4.2 = (-1) then some (q4.1, h) else Option.bind (f_Haulage_orderLoad q4.1 h v2 q4.2 v1) (fun q6 => f_Haulage_orderLoads_8 (f_Haulage_orderLoads_1 n) q6.1 (q6.2) v1 v2)) else f_Haulage_orderLoads_8 (f_Haulage_orderLoads_1 n) V h v1 v2 else some (V, h)
set_option maxRecDepth 20000 in
set_option maxHeartbeats 4000000 in
theorem s_Haulage_orderLoads_1_n {X : Xs} {d : Nat}  {q : VV × HP} : ∀ (n : Nat) (V : VV) (h : HP) (v1 : Int) (v2 : Int) (z3 : Option AV), HOK h → f_Haulage_orderLoads_1 n V h v1 v2 = some q → Ok X (d + 6) 107 1 ([some (.inr (.inr (.inl 38))), some (.inl v1), some (.inl v2), z3], [], mm V h) (fun M r => M = mm q.1 q.2 ∧ HOK q.2 ∧ r = none) := by
  intro n
  induction n with
  | zero => intro V h v1 v2 z3 hh hf; cases hf
  | succ n ih =>
    intro V h v1 v2 z3 hh hf
    let QQ : Mm → Option AV → Prop := fun M r => M = mm q.1 q.2 ∧ HOK q.2 ∧ r = none
    show Ok X (d + 6) 107 1 ([some (.inr (.inr (.inl 38))), some (.inl v1), some (.inl v2), z3], [], mm V h) QQ
    refine ok_ic_ge (x := v2) (u := V 37 5) (L := [some (.inr (.inr (.inl 38))), some (.inl v1), some (.inl v2), z3]) (S := []) (M := mm V h) rfl rfl (fun c1 => ?_) (fun c1 => ?_)
    ·
      replace hf := (if_neg (Int.not_lt.mpr c1)).symm.trans hf
      obtain rfl := Option.some.inj hf
      refine ok_return (L := [some (.inr (.inr (.inl 38))), some (.inl v1), some (.inl v2), z3]) (M := mm V h) rfl rfl ?_
      exact ⟨rfl, hh, rfl⟩
    ·
      replace hf := (if_pos c1).symm.trans hf
      refine ok_callA (L := [some (.inr (.inr (.inl 38))), some (.inl v1), some (.inl v2), z3]) (M := mm V h) (args := [.inr (.inr (.inl 43)), .inl v2]) (rest := []) (y2 := 21) rfl rfl rfl (Or.inr (Or.inl rfl)) rfl rfl (Nat.le_of_ble_eq_true rfl) rfl rfl (Nat.le_of_ble_eq_true rfl) (Nat.le_of_ble_eq_true rfl) (w_at rfl rfl) ?_
      rintro _ _ ⟨rfl, rfl⟩
      refine ok_if_ne (x := atV V 42 16 v2) (L := [some (.inr (.inr (.inl 38))), some (.inl v1), some (.inl v2), z3]) (S := []) (M := mm V h) rfl rfl (fun c3 => ?_) (fun c3 => ?_)
      ·
        replace hf := (if_neg c3).symm.trans hf
        exact s_Haulage_orderLoads_8 hh hf ih
      ·
        replace hf := (if_pos c3).symm.trans hf
        obtain ⟨q4, e4, hf⟩ := obind hf
        refine ok_callA (L := [some (.inr (.inr (.inl 38))), some (.inl v1), some (.inl v2), z3]) (M := mm V h) (args := [.inr (.inr (.inl 38))]) (rest := []) (y2 := 108) rfl rfl rfl (Or.inl rfl) rfl rfl (Nat.le_of_ble_eq_true rfl) rfl rfl (Nat.le_of_ble_eq_true rfl) (Nat.le_of_ble_eq_true rfl) (s_Haulage_nextToOrder e4) ?_
        rintro _ _ ⟨rfl, rfl⟩
        refine ok_ic_ne (x := q4.2) (u := (-1)) (L := [some (.inr (.inr (.inl 38))), some (.inl v1), some (.inl v2), some (.inl q4.2)]) (S := []) (M := mm q4.1 h) rfl rfl (fun c5 => ?_) (fun c5 => ?_)
        ·
          replace hf := (if_neg c5).symm.trans hf
          obtain ⟨q6, e6, hf⟩ := obind hf
          refine ok_callA (L := [some (.inr (.inr (.inl 38))), some (.inl v1), some (.inl v2), some (.inl q4.2)]) (M := mm q4.1 h) (args := [.inr (.inr (.inl 38)), .inl v2, .inl q4.2, .inl v1]) (rest := []) (y2 := 109) rfl rfl rfl (Or.inl rfl) rfl rfl (Nat.le_of_ble_eq_true rfl) rfl rfl (Nat.le_of_ble_eq_true rfl) (Nat.le_of_ble_eq_true rfl) (s_Haulage_orderLoad hh e6) ?_
          rintro _ _ ⟨rfl, hh, rfl⟩
          exact s_Haulage_orderLoads_8 hh hf ih
        ·
          replace hf := (if_pos c5).symm.trans hf
          obtain rfl := Option.some.inj hf
          refine ok_return (L := [some (.inr (.inr (.inl 38))), some (.inl v1), some (.inl v2), some (.inl q4.2)]) (M := mm q4.1 h) rfl rfl ?_
          exact ⟨rfl, hh, rfl⟩
theorem s_Haulage_orderLoads_1 {X : Xs} {d : Nat} {V : VV} {h : HP} {v1 : Int} {v2 : Int} {z3 : Option AV} {n : Nat} {q : VV × HP} (hh : HOK h) (hf : f_Haulage_orderLoads_1 n V h v1 v2 = some q) : Ok X (d + 6) 107 1 ([some (.inr (.inr (.inl 38))), some (.inl v1), some (.inl v2), z3], [], mm V h) (fun M r => M = mm q.1 q.2 ∧ HOK q.2 ∧ r = none) :=
  s_Haulage_orderLoads_1_n n V h v1 v2 z3 hh hf
def f_Haulage_orderLoads (V : VV) (h : HP) (v1 : Int) : Option (VV × HP) := f_Haulage_orderLoads_1 FU V h v1 0
set_option maxRecDepth 20000 in
set_option maxHeartbeats 4000000 in
theorem s_Haulage_orderLoads {X : Xs} {d : Nat} {V : VV} {h : HP} {v1 : Int} {q : VV × HP} (hh : HOK h) (hf : f_Haulage_orderLoads V h v1 = some q) : Ok X (d + 6) 107 0 ([some (.inr (.inr (.inl 38))), some (.inl v1), none, none], [], mm V h) (fun M r => M = mm q.1 q.2 ∧ HOK q.2 ∧ r = none) := by
  let QQ : Mm → Option AV → Prop := fun M r => M = mm q.1 q.2 ∧ HOK q.2 ∧ r = none
  show Ok X (d + 6) 107 0 ([some (.inr (.inr (.inl 38))), some (.inl v1), none, none], [], mm V h) QQ
  refine ok_thru (L := [some (.inr (.inr (.inl 38))), some (.inl v1), some (.inl 0), none]) (S := []) (M := mm V h) rfl rfl ?_
  exact s_Haulage_orderLoads_1 hh hf
def f_Cooling_cool_17 (k6 : VV → Int → Int → Int → Int → Int → Int → (Option (VV × Int))) (V : VV) (v3 : Int) (v4 : Int) (v5 : Int) (v6 : Int) (v7 : Int) (v8 : Int) (v10 : Int) (t0 : Int) : Option (VV × Int) := lt_ (setV V 35 180 (w32 (v4 + v8)) (w32 ((w32 (v6 + v7)) - t0))) (fun q1 => k6 q1 v3 v4 (w32 (v5 + (w32 ((w32 (v6 + v7)) - t0)))) v10 t0 (w32 (v8 + 1)))
set_option maxRecDepth 20000 in
set_option maxHeartbeats 4000000 in
theorem s_Cooling_cool_17 {X : Xs} {d : Nat} {k6 : VV → Int → Int → Int → Int → Int → Int → (Option (VV × Int))} {V : VV} {h : HP} {v3 : Int} {v4 : Int} {v5 : Int} {v6 : Int} {v7 : Int} {v8 : Int} {v10 : Int} {t0 : Int} {w1 : Int} {w2 : Int} {w9 : Int} {z11 : Option AV} {z12 : Option AV} {q : VV × Int} (hf : f_Cooling_cool_17 k6 V v3 v4 v5 v6 v7 v8 v10 t0 = some q) (K6 : ∀ (V : VV) (v3 : Int) (v4 : Int) (v5 : Int) (v6 : Int) (v7 : Int) (v8 : Int) (w1 : Int) (w2 : Int) (z9 : Option AV) (z10 : Option AV) (z11 : Option AV) (z12 : Option AV), k6 V v3 v4 v5 v6 v7 v8 = some q → Ok X (d + 2) 117 6 ([some (.inr (.inr (.inl 32))), some (.inl w1), some (.inl w2), some (.inl v3), some (.inl v4), some (.inl v5), some (.inl v6), some (.inl v7), some (.inl v8), z9, z10, z11, z12], [], mm V h) (fun M r => M = mm q.1 h ∧ r = some (.inl q.2))) : Ok X (d + 2) 117 17 ([some (.inr (.inr (.inl 32))), some (.inl w1), some (.inl w2), some (.inl v3), some (.inl v4), some (.inl v5), some (.inl v6), some (.inl v7), some (.inl v8), some (.inl w9), some (.inl v10), z11, z12], [.inl t0], mm V h) (fun M r => M = mm q.1 h ∧ r = some (.inl q.2)) := by
  let QQ : Mm → Option AV → Prop := fun M r => M = mm q.1 h ∧ r = some (.inl q.2)
  show Ok X (d + 2) 117 17 ([some (.inr (.inr (.inl 32))), some (.inl w1), some (.inl w2), some (.inl v3), some (.inl v4), some (.inl v5), some (.inl v6), some (.inl v7), some (.inl v8), some (.inl w9), some (.inl v10), z11, z12], [.inl t0], mm V h) QQ
  obtain ⟨q1, e1, hf⟩ := lt_x hf
  refine ok_callA (L := [some (.inr (.inr (.inl 32))), some (.inl w1), some (.inl w2), some (.inl v3), some (.inl v4), some (.inl v5), some (.inl v6), some (.inl v7), some (.inl v8), some (.inl w9), some (.inl v10), some (.inl t0), some (.inl (w32 ((w32 (v6 + v7)) - t0)))]) (M := mm V h) (args := [.inr (.inr (.inl 36)), .inl (w32 (v4 + v8)), .inl (w32 ((w32 (v6 + v7)) - t0))]) (rest := []) (y2 := 9) rfl rfl rfl (Or.inr (Or.inl rfl)) rfl rfl (Nat.le_of_ble_eq_true rfl) rfl rfl (Nat.le_of_ble_eq_true rfl) (Nat.le_of_ble_eq_true rfl) (w_set rfl e1) ?_
  rintro _ _ ⟨rfl, rfl⟩
  refine ok_goto (L := [some (.inr (.inr (.inl 32))), some (.inl w1), some (.inl w2), some (.inl v3), some (.inl v4), some (.inl (w32 (v5 + (w32 ((w32 (v6 + v7)) - t0))))), some (.inl v10), some (.inl t0), some (.inl (w32 (v8 + 1))), some (.inl w9), some (.inl v10), some (.inl t0), some (.inl (w32 ((w32 (v6 + v7)) - t0)))]) (S := []) (M := mm q1 h) rfl rfl ?_
  exact K6 q1 v3 v4 (w32 (v5 + (w32 ((w32 (v6 + v7)) - t0)))) v10 t0 (w32 (v8 + 1)) w1 w2 (some (.inl w9)) (some (.inl v10)) (some (.inl t0)) (some (.inl (w32 ((w32 (v6 + v7)) - t0)))) hf
def f_Cooling_cool_6 : Nat → VV → Int → Int → Int → Int → Int → Int → (Option (VV × Int))
  | 0, _, _, _, _, _, _, _ => none
  | n + 1, V, v3, v4, v5, v6, v7, v8 => if v8 < 5 then if (if v8 = 4 then 1 else 0 : Int) = 0 then f_Cooling_cool_17 (f_Cooling_cool_6 n) V v3 v4 v5 v6 v7 v8 (if (if v8 = 4 then 1 else 0 : Int) = 0 then atV V 35 180 (w32 ((w32 (v4 + v8)) + 1)) else 0 : Int) (w32 (Int.tdiv (w32 ((w32 (v6 - (if (if v8 = 4 then 1 else 0 : Int) = 0 then atV V 35 180 (w32 ((w32 (v4 + v8)) + 1)) else 0 : Int))) * v3)) 1000)) else f_Cooling_cool_17 (f_Cooling_cool_6 n) V v3 v4 v5 v6 v7 v8 (if (if v8 = 4 then 1 else 0 : Int) = 0 then atV V 35 180 (w32 ((w32 (v4 + v8)) + 1)) else 0 : Int) (w32 (Int.tdiv (w32 ((w32 (v6 - (V 15 6))) * (V 15 8))) 1000)) else some (V, v5)
set_option maxRecDepth 20000 in
set_option maxHeartbeats 4000000 in
theorem s_Cooling_cool_6_n {X : Xs} {d : Nat} {h : HP} {q : VV × Int} : ∀ (n : Nat) (V : VV) (v3 : Int) (v4 : Int) (v5 : Int) (v6 : Int) (v7 : Int) (v8 : Int) (w1 : Int) (w2 : Int) (z9 : Option AV) (z10 : Option AV) (z11 : Option AV) (z12 : Option AV), f_Cooling_cool_6 n V v3 v4 v5 v6 v7 v8 = some q → Ok X (d + 2) 117 6 ([some (.inr (.inr (.inl 32))), some (.inl w1), some (.inl w2), some (.inl v3), some (.inl v4), some (.inl v5), some (.inl v6), some (.inl v7), some (.inl v8), z9, z10, z11, z12], [], mm V h) (fun M r => M = mm q.1 h ∧ r = some (.inl q.2)) := by
  intro n
  induction n with
  | zero => intro V v3 v4 v5 v6 v7 v8 w1 w2 z9 z10 z11 z12 hf; cases hf
  | succ n ih =>
    intro V v3 v4 v5 v6 v7 v8 w1 w2 z9 z10 z11 z12 hf
    let QQ : Mm → Option AV → Prop := fun M r => M = mm q.1 h ∧ r = some (.inl q.2)
    show Ok X (d + 2) 117 6 ([some (.inr (.inr (.inl 32))), some (.inl w1), some (.inl w2), some (.inl v3), some (.inl v4), some (.inl v5), some (.inl v6), some (.inl v7), some (.inl v8), z9, z10, z11, z12], [], mm V h) QQ
    refine ok_ic_ge (x := v8) (u := 5) (L := [some (.inr (.inr (.inl 32))), some (.inl w1), some (.inl w2), some (.inl v3), some (.inl v4), some (.inl v5), some (.inl v6), some (.inl v7), some (.inl v8), z9, z10, z11, z12]) (S := []) (M := mm V h) rfl rfl (fun c1 => ?_) (fun c1 => ?_)
    ·
      replace hf := (if_neg (Int.not_lt.mpr c1)).symm.trans hf
      obtain rfl := Option.some.inj hf
      refine ok_ireturn (L := [some (.inr (.inr (.inl 32))), some (.inl w1), some (.inl w2), some (.inl v3), some (.inl v4), some (.inl v5), some (.inl v6), some (.inl v7), some (.inl v8), z9, z10, z11, z12]) (M := mm V h) (x := v5) rfl rfl ?_
      exact ⟨rfl, rfl⟩
    ·
      replace hf := (if_pos c1).symm.trans hf
      have JN2 : Ok X (d + 2) 117 10 ([some (.inr (.inr (.inl 32))), some (.inl w1), some (.inl w2), some (.inl v3), some (.inl v4), some (.inl v5), some (.inl v6), some (.inl v7), some (.inl v8), z9, z10, z11, z12], [.inl (if v8 = 4 then 1 else 0 : Int)], mm V h) QQ := by
        have JN3 : Ok X (d + 2) 117 13 ([some (.inr (.inr (.inl 32))), some (.inl w1), some (.inl w2), some (.inl v3), some (.inl v4), some (.inl v5), some (.inl v6), some (.inl v7), some (.inl v8), some (.inl (if v8 = 4 then 1 else 0 : Int)), z10, z11, z12], [.inl (if (if v8 = 4 then 1 else 0 : Int) = 0 then atV V 35 180 (w32 ((w32 (v4 + v8)) + 1)) else 0 : Int)], mm V h) QQ := by
          refine ok_if_eq (x := (if v8 = 4 then 1 else 0 : Int)) (L := [some (.inr (.inr (.inl 32))), some (.inl w1), some (.inl w2), some (.inl v3), some (.inl v4), some (.inl v5), some (.inl v6), some (.inl v7), some (.inl v8), some (.inl (if v8 = 4 then 1 else 0 : Int)), some (.inl (if (if v8 = 4 then 1 else 0 : Int) = 0 then atV V 35 180 (w32 ((w32 (v4 + v8)) + 1)) else 0 : Int)), z11, z12]) (S := []) (M := mm V h) rfl rfl (fun c4 => ?_) (fun c4 => ?_)
          ·
            replace hf := (if_pos c4).symm.trans hf
            refine ok_idiv (u := w32 ((w32 (v6 - (if (if v8 = 4 then 1 else 0 : Int) = 0 then atV V 35 180 (w32 ((w32 (v4 + v8)) + 1)) else 0 : Int))) * v3)) (v := 1000) (L := [some (.inr (.inr (.inl 32))), some (.inl w1), some (.inl w2), some (.inl v3), some (.inl v4), some (.inl v5), some (.inl v6), some (.inl v7), some (.inl v8), some (.inl (if v8 = 4 then 1 else 0 : Int)), some (.inl (if (if v8 = 4 then 1 else 0 : Int) = 0 then atV V 35 180 (w32 ((w32 (v4 + v8)) + 1)) else 0 : Int)), z11, z12]) (S := []) (M := mm V h) rfl rfl (by decide) ?_
            exact s_Cooling_cool_17 hf ih
          ·
            replace hf := (if_neg c4).symm.trans hf
            refine ok_idiv (u := w32 ((w32 (v6 - (V 15 6))) * (V 15 8))) (v := 1000) (L := [some (.inr (.inr (.inl 32))), some (.inl w1), some (.inl w2), some (.inl v3), some (.inl v4), some (.inl v5), some (.inl v6), some (.inl v7), some (.inl v8), some (.inl (if v8 = 4 then 1 else 0 : Int)), some (.inl (if (if v8 = 4 then 1 else 0 : Int) = 0 then atV V 35 180 (w32 ((w32 (v4 + v8)) + 1)) else 0 : Int)), z11, z12]) (S := []) (M := mm V h) rfl rfl (by decide) ?_
            refine ok_goto (L := [some (.inr (.inr (.inl 32))), some (.inl w1), some (.inl w2), some (.inl v3), some (.inl v4), some (.inl v5), some (.inl v6), some (.inl v7), some (.inl v8), some (.inl (if v8 = 4 then 1 else 0 : Int)), some (.inl (if (if v8 = 4 then 1 else 0 : Int) = 0 then atV V 35 180 (w32 ((w32 (v4 + v8)) + 1)) else 0 : Int)), z11, z12]) (S := [.inl (w32 (Int.tdiv (w32 ((w32 (v6 - (V 15 6))) * (V 15 8))) 1000))]) (M := mm V h) rfl rfl ?_
            exact s_Cooling_cool_17 hf ih
        clear hf
        refine ok_if_eq (x := (if v8 = 4 then 1 else 0 : Int)) (L := [some (.inr (.inr (.inl 32))), some (.inl w1), some (.inl w2), some (.inl v3), some (.inl v4), some (.inl v5), some (.inl v6), some (.inl v7), some (.inl v8), some (.inl (if v8 = 4 then 1 else 0 : Int)), z10, z11, z12]) (S := []) (M := mm V h) rfl rfl (fun c7 => ?_) (fun c7 => ?_)
        ·
          simp only [if_pos c7] at JN3
          refine ok_callA (L := [some (.inr (.inr (.inl 32))), some (.inl w1), some (.inl w2), some (.inl v3), some (.inl v4), some (.inl v5), some (.inl v6), some (.inl v7), some (.inl v8), some (.inl (if v8 = 4 then 1 else 0 : Int)), z10, z11, z12]) (M := mm V h) (args := [.inr (.inr (.inl 36)), .inl (w32 ((w32 (v4 + v8)) + 1))]) (rest := []) (y2 := 21) rfl rfl rfl (Or.inr (Or.inl rfl)) rfl rfl (Nat.le_of_ble_eq_true rfl) rfl rfl (Nat.le_of_ble_eq_true rfl) (Nat.le_of_ble_eq_true rfl) (w_at rfl rfl) ?_
          rintro _ _ ⟨rfl, rfl⟩
          first | exact JN3 | (simp only [if_pos c7]; exact JN3)
        ·
          simp only [if_neg c7] at JN3
          refine ok_goto (L := [some (.inr (.inr (.inl 32))), some (.inl w1), some (.inl w2), some (.inl v3), some (.inl v4), some (.inl v5), some (.inl v6), some (.inl v7), some (.inl v8), some (.inl (if v8 = 4 then 1 else 0 : Int)), z10, z11, z12]) (S := [.inl 0]) (M := mm V h) rfl rfl ?_
          first | exact JN3 | (simp only [if_neg c7]; exact JN3)
      clear hf
      refine ok_ic_ne (x := v8) (u := 4) (L := [some (.inr (.inr (.inl 32))), some (.inl w1), some (.inl w2), some (.inl v3), some (.inl v4), some (.inl v5), some (.inl v6), some (.inl v7), some (.inl v8), z9, z10, z11, z12]) (S := []) (M := mm V h) rfl rfl (fun c9 => ?_) (fun c9 => ?_)
      ·
        simp only [if_neg c9] at JN2
        refine ok_thru (L := [some (.inr (.inr (.inl 32))), some (.inl w1), some (.inl w2), some (.inl v3), some (.inl v4), some (.inl v5), some (.inl v6), some (.inl v7), some (.inl v8), z9, z10, z11, z12]) (S := [.inl 0]) (M := mm V h) rfl rfl ?_
        first | exact JN2 | (simp only [if_neg c9]; exact JN2)
      ·
        simp only [if_pos c9] at JN2
        refine ok_goto (L := [some (.inr (.inr (.inl 32))), some (.inl w1), some (.inl w2), some (.inl v3), some (.inl v4), some (.inl v5), some (.inl v6), some (.inl v7), some (.inl v8), z9, z10, z11, z12]) (S := [.inl 1]) (M := mm V h) rfl rfl ?_
        first | exact JN2 | (simp only [if_pos c9]; exact JN2)
theorem s_Cooling_cool_6 {X : Xs} {d : Nat} {h : HP} {V : VV} {v3 : Int} {v4 : Int} {v5 : Int} {v6 : Int} {v7 : Int} {v8 : Int} {w1 : Int} {w2 : Int} {z9 : Option AV} {z10 : Option AV} {z11 : Option AV} {z12 : Option AV} {n : Nat} {q : VV × Int} (hf : f_Cooling_cool_6 n V v3 v4 v5 v6 v7 v8 = some q) : Ok X (d + 2) 117 6 ([some (.inr (.inr (.inl 32))), some (.inl w1), some (.inl w2), some (.inl v3), some (.inl v4), some (.inl v5), some (.inl v6), some (.inl v7), some (.inl v8), z9, z10, z11, z12], [], mm V h) (fun M r => M = mm q.1 h ∧ r = some (.inl q.2)) :=
  s_Cooling_cool_6_n n V v3 v4 v5 v6 v7 v8 w1 w2 z9 z10 z11 z12 hf
def f_Cooling_cool (V : VV) (v1 : Int) : Option (VV × Int) := f_Cooling_cool_6 FU V (min 400 (cutV 400000 (w32 ((atV V 8 36 v1) * (atV V 8 36 v1))))) (w32 (v1 * 5)) 0 (atV V 35 180 (w32 (v1 * 5))) (w32 (-(w32 (Int.tdiv (w32 ((w32 ((atV V 35 180 (w32 (v1 * 5))) - (V 15 5))) * (V 15 7))) 1000)))) 0
set_option maxRecDepth 20000 in
set_option maxHeartbeats 4000000 in
theorem s_Cooling_cool {X : Xs} {d : Nat} {V : VV} {h : HP} {v1 : Int} {q : VV × Int} (hf : f_Cooling_cool V v1 = some q) : Ok X (d + 2) 117 0 ([some (.inr (.inr (.inl 32))), some (.inl v1), none, none, none, none, none, none, none, none, none, none, none], [], mm V h) (fun M r => M = mm q.1 h ∧ r = some (.inl q.2)) := by
  let QQ : Mm → Option AV → Prop := fun M r => M = mm q.1 h ∧ r = some (.inl q.2)
  show Ok X (d + 2) 117 0 ([some (.inr (.inr (.inl 32))), some (.inl v1), none, none, none, none, none, none, none, none, none, none, none], [], mm V h) QQ
  refine ok_callA (L := [some (.inr (.inr (.inl 32))), some (.inl v1), none, none, none, none, none, none, none, none, none, none, none]) (M := mm V h) (args := [.inr (.inr (.inl 9)), .inl v1]) (rest := []) (y2 := 21) rfl rfl rfl (Or.inr (Or.inl rfl)) rfl rfl (Nat.le_of_ble_eq_true rfl) rfl rfl (Nat.le_of_ble_eq_true rfl) (Nat.le_of_ble_eq_true rfl) (w_at rfl rfl) ?_
  rintro _ _ ⟨rfl, rfl⟩
  refine ok_callA (L := [some (.inr (.inr (.inl 32))), some (.inl v1), some (.inl (atV V 8 36 v1)), none, none, none, none, none, none, none, none, none, none]) (M := mm V h) (args := [.inl 400000, .inl (w32 ((atV V 8 36 v1) * (atV V 8 36 v1)))]) (rest := [.inl 400]) (y2 := 28) rfl rfl rfl (Or.inr (Or.inl rfl)) rfl rfl (Nat.le_of_ble_eq_true rfl) rfl rfl (Nat.le_of_ble_eq_true rfl) (Nat.le_of_ble_eq_true rfl) (w_cut rfl) ?_
  rintro _ _ ⟨rfl, rfl⟩
  refine ok_mmin (u := 400) (v := cutV 400000 (w32 ((atV V 8 36 v1) * (atV V 8 36 v1)))) (L := [some (.inr (.inr (.inl 32))), some (.inl v1), some (.inl (atV V 8 36 v1)), none, none, none, none, none, none, none, none, none, none]) (S := []) (M := mm V h) rfl rfl rfl (Nat.le_of_ble_eq_true rfl) ?_
  refine ok_callA (L := [some (.inr (.inr (.inl 32))), some (.inl v1), some (.inl (atV V 8 36 v1)), some (.inl (min 400 (cutV 400000 (w32 ((atV V 8 36 v1) * (atV V 8 36 v1)))))), some (.inl (w32 (v1 * 5))), some (.inl 0), none, none, none, none, none, none, none]) (M := mm V h) (args := [.inr (.inr (.inl 36)), .inl (w32 (v1 * 5))]) (rest := []) (y2 := 21) rfl rfl rfl (Or.inr (Or.inl rfl)) rfl rfl (Nat.le_of_ble_eq_true rfl) rfl rfl (Nat.le_of_ble_eq_true rfl) (Nat.le_of_ble_eq_true rfl) (w_at rfl rfl) ?_
  rintro _ _ ⟨rfl, rfl⟩
  refine ok_idiv (u := w32 ((w32 ((atV V 35 180 (w32 (v1 * 5))) - (V 15 5))) * (V 15 7))) (v := 1000) (L := [some (.inr (.inr (.inl 32))), some (.inl v1), some (.inl (atV V 8 36 v1)), some (.inl (min 400 (cutV 400000 (w32 ((atV V 8 36 v1) * (atV V 8 36 v1)))))), some (.inl (w32 (v1 * 5))), some (.inl 0), some (.inl (atV V 35 180 (w32 (v1 * 5)))), none, none, none, none, none, none]) (S := []) (M := mm V h) rfl rfl (by decide) ?_
  refine ok_thru (L := [some (.inr (.inr (.inl 32))), some (.inl v1), some (.inl (atV V 8 36 v1)), some (.inl (min 400 (cutV 400000 (w32 ((atV V 8 36 v1) * (atV V 8 36 v1)))))), some (.inl (w32 (v1 * 5))), some (.inl 0), some (.inl (atV V 35 180 (w32 (v1 * 5)))), some (.inl (w32 (-(w32 (Int.tdiv (w32 ((w32 ((atV V 35 180 (w32 (v1 * 5))) - (V 15 5))) * (V 15 7))) 1000))))), some (.inl 0), none, none, none, none]) (S := []) (M := mm V h) rfl rfl ?_
  exact s_Cooling_cool_6 hf
