/-! shallow functions of the model (printed by wip/tools/gen40.py) -/
def f_Mo_order_15 (V : VV) (v1 : Int) (v2 : Int) (v3 : Int) (t0 : Int) : Option (VV) := if (V 62 0) = 0 then none else if 0 ≤ (w32 (Int.tdiv v3 (V 62 0))) ∧ (w32 (Int.tdiv v3 (V 62 0))) < (3 : Int) then Option.bind (f_Mo_plantFor V (V 66 ((w32 (Int.tdiv v3 (V 62 0))).toNat))) (fun q3 => if 0 ≤ v3 ∧ v3 < (36 : Int) then if 0 ≤ v3 ∧ v3 < (36 : Int) then if 0 ≤ (V 62 72) ∧ (V 62 72) < (17400 : Int) then if 0 ≤ (V 62 72) ∧ (V 62 72) < (17400 : Int) then if 0 ≤ (V 62 72) ∧ (V 62 72) < (17400 : Int) then if 0 ≤ (V 62 72) ∧ (V 62 72) < (17400 : Int) then if 0 ≤ (V 62 72) ∧ (V 62 72) < (17400 : Int) then if 0 ≤ (V 62 72) ∧ (V 62 72) < (17400 : Int) then if 0 ≤ (V 62 72) ∧ (V 62 72) < (17400 : Int) then if 0 ≤ (V 62 72) ∧ (V 62 72) < (17400 : Int) then if 0 ≤ (V 62 72) ∧ (V 62 72) < (17400 : Int) then if 0 ≤ (V 62 72) ∧ (V 62 72) < (17400 : Int) then if 0 ≤ v1 ∧ v1 < (16 : Int) then if 0 ≤ v1 ∧ v1 < (16 : Int) then if 0 ≤ v1 ∧ v1 < (16 : Int) then Option.bind (f_Mo_haulOf (up (up (up (up (up (up (up (up (up (up (up (up (up (up (up V 94 v3.toNat (w32 ((V 94 v3.toNat) + t0))) 99 ((V 62 72).toNat) v3) 100 ((V 62 72).toNat) t0) 101 ((V 62 72).toNat) v1) 102 ((V 62 72).toNat) q3) 103 ((V 62 72).toNat) v2) 104 ((V 62 72).toNat) (-1)) 105 ((V 62 72).toNat) (-1)) 106 ((V 62 72).toNat) (-1)) 107 ((V 62 72).toNat) 0) 108 ((V 62 72).toNat) (-1)) 90 v1.toNat (V 62 72)) 62 72 (w32 ((V 62 72) + 1))) 89 v1.toNat q3) 86 v1.toNat 1) (V 62 91) q3 v2) (fun q19 => if 0 ≤ v1 ∧ v1 < (16 : Int) then some (up (up (up (up (up (up (up (up (up (up (up (up (up (up (up (up V 94 v3.toNat (w32 ((V 94 v3.toNat) + t0))) 99 ((V 62 72).toNat) v3) 100 ((V 62 72).toNat) t0) 101 ((V 62 72).toNat) v1) 102 ((V 62 72).toNat) q3) 103 ((V 62 72).toNat) v2) 104 ((V 62 72).toNat) (-1)) 105 ((V 62 72).toNat) (-1)) 106 ((V 62 72).toNat) (-1)) 107 ((V 62 72).toNat) 0) 108 ((V 62 72).toNat) (-1)) 90 v1.toNat (V 62 72)) 62 72 (w32 ((V 62 72) + 1))) 89 v1.toNat q3) 86 v1.toNat 1) 87 v1.toNat (w32 (v2 + q19))) else none) else none else none else none else none else none else none else none else none else none else none else none else none else none else none else none) else none
set_option maxRecDepth 20000 in
set_option maxHeartbeats 4000000 in
theorem s_Mo_order_15 {X : Xs} {d : Nat} {V : VV} {h : HP} {v1 : Int} {v2 : Int} {v3 : Int} {t0 : Int} {z4 : Option AV} {z5 : Option AV} {q : VV} (hf : f_Mo_order_15 V v1 v2 v3 t0 = some q) : Ok X (d + 4) 200 15 ([some (.inr (.inr (.inl 63))), some (.inl v1), some (.inl v2), some (.inl v3), z4, z5], [.inl t0], mm V h) (fun M r => M = mm q h ∧ r = none) := by
  let QQ : Mm → Option AV → Prop := fun M r => M = mm q h ∧ r = none
  show Ok X (d + 4) 200 15 ([some (.inr (.inr (.inl 63))), some (.inl v1), some (.inl v2), some (.inl v3), z4, z5], [.inl t0], mm V h) QQ
  by_cases c1 : (V 62 0) = 0
  case pos => replace hf := (if_pos c1).symm.trans hf; cases hf
  replace hf := (if_neg c1).symm.trans hf
  refine ok_idiv (u := v3) (v := V 62 0) (L := [some (.inr (.inr (.inl 63))), some (.inl v1), some (.inl v2), some (.inl v3), some (.inl t0), z5]) (S := [.inr (.inr (.inl 67)), .inr (.inr (.inl 63))]) (M := mm V h) rfl rfl c1 ?_
  by_cases c2 : 0 ≤ (w32 (Int.tdiv v3 (V 62 0))) ∧ (w32 (Int.tdiv v3 (V 62 0))) < (3 : Int)
  case neg => replace hf := (if_neg c2).symm.trans hf; cases hf
  replace hf := (if_pos c2).symm.trans hf
  refine ok_iald (i := w32 (Int.tdiv v3 (V 62 0))) (id := 66) (n := 3) (L := [some (.inr (.inr (.inl 63))), some (.inl v1), some (.inl v2), some (.inl v3), some (.inl t0), z5]) (S := [.inr (.inr (.inl 63))]) (M := mm V h) rfl rfl rfl c2.1 c2.2 ?_
  obtain ⟨q3, e3, hf⟩ := obind hf
  refine ok_callA (L := [some (.inr (.inr (.inl 63))), some (.inl v1), some (.inl v2), some (.inl v3), some (.inl t0), z5]) (M := mm V h) (args := [.inr (.inr (.inl 63)), .inl (V 66 ((w32 (Int.tdiv v3 (V 62 0))).toNat))]) (rest := []) (y2 := 201) rfl rfl rfl (Or.inl rfl) rfl rfl (Nat.le_of_ble_eq_true rfl) rfl rfl (Nat.le_of_ble_eq_true rfl) (Nat.le_of_ble_eq_true rfl) (s_Mo_plantFor e3) ?_
  rintro _ _ ⟨rfl, rfl⟩
  by_cases c4 : 0 ≤ v3 ∧ v3 < (36 : Int)
  case neg => replace hf := (if_neg c4).symm.trans hf; cases hf
  replace hf := (if_pos c4).symm.trans hf
  refine ok_iald (i := v3) (id := 94) (n := 36) (L := [some (.inr (.inr (.inl 63))), some (.inl v1), some (.inl v2), some (.inl v3), some (.inl t0), some (.inl q3)]) (S := [.inl v3, .inr (.inr (.inl 95))]) (M := mm V h) rfl rfl rfl c4.1 c4.2 ?_
  by_cases c5 : 0 ≤ v3 ∧ v3 < (36 : Int)
  case neg => replace hf := (if_neg c5).symm.trans hf; cases hf
  replace hf := (if_pos c5).symm.trans hf
  refine ok_iast (i := v3) (v := w32 ((V 94 v3.toNat) + t0)) (id := 94) (n := 36) (L := [some (.inr (.inr (.inl 63))), some (.inl v1), some (.inl v2), some (.inl v3), some (.inl t0), some (.inl q3)]) (S := []) (M := mm V h) rfl rfl rfl c5.1 c5.2 ?_
  by_cases c6 : 0 ≤ (V 62 72) ∧ (V 62 72) < (17400 : Int)
  case neg => replace hf := (if_neg c6).symm.trans hf; cases hf
  replace hf := (if_pos c6).symm.trans hf
  refine ok_iast (i := V 62 72) (v := v3) (id := 99) (n := 17400) (L := [some (.inr (.inr (.inl 63))), some (.inl v1), some (.inl v2), some (.inl v3), some (.inl t0), some (.inl q3)]) (S := []) (M := mm (up V 94 v3.toNat (w32 ((V 94 v3.toNat) + t0))) h) rfl rfl rfl c6.1 c6.2 ?_
  by_cases c7 : 0 ≤ (V 62 72) ∧ (V 62 72) < (17400 : Int)
  case neg => replace hf := (if_neg c7).symm.trans hf; cases hf
  replace hf := (if_pos c7).symm.trans hf
  refine ok_iast (i := V 62 72) (v := t0) (id := 100) (n := 17400) (L := [some (.inr (.inr (.inl 63))), some (.inl v1), some (.inl v2), some (.inl v3), some (.inl t0), some (.inl q3)]) (S := []) (M := mm (up (up V 94 v3.toNat (w32 ((V 94 v3.toNat) + t0))) 99 ((V 62 72).toNat) v3) h) rfl rfl rfl c7.1 c7.2 ?_
  by_cases c8 : 0 ≤ (V 62 72) ∧ (V 62 72) < (17400 : Int)
  case neg => replace hf := (if_neg c8).symm.trans hf; cases hf
  replace hf := (if_pos c8).symm.trans hf
  refine ok_iast (i := V 62 72) (v := v1) (id := 101) (n := 17400) (L := [some (.inr (.inr (.inl 63))), some (.inl v1), some (.inl v2), some (.inl v3), some (.inl t0), some (.inl q3)]) (S := []) (M := mm (up (up (up V 94 v3.toNat (w32 ((V 94 v3.toNat) + t0))) 99 ((V 62 72).toNat) v3) 100 ((V 62 72).toNat) t0) h) rfl rfl rfl c8.1 c8.2 ?_
  by_cases c9 : 0 ≤ (V 62 72) ∧ (V 62 72) < (17400 : Int)
  case neg => replace hf := (if_neg c9).symm.trans hf; cases hf
  replace hf := (if_pos c9).symm.trans hf
  refine ok_iast (i := V 62 72) (v := q3) (id := 102) (n := 17400) (L := [some (.inr (.inr (.inl 63))), some (.inl v1), some (.inl v2), some (.inl v3), some (.inl t0), some (.inl q3)]) (S := []) (M := mm (up (up (up (up V 94 v3.toNat (w32 ((V 94 v3.toNat) + t0))) 99 ((V 62 72).toNat) v3) 100 ((V 62 72).toNat) t0) 101 ((V 62 72).toNat) v1) h) rfl rfl rfl c9.1 c9.2 ?_
  by_cases c10 : 0 ≤ (V 62 72) ∧ (V 62 72) < (17400 : Int)
  case neg => replace hf := (if_neg c10).symm.trans hf; cases hf
  replace hf := (if_pos c10).symm.trans hf
  refine ok_iast (i := V 62 72) (v := v2) (id := 103) (n := 17400) (L := [some (.inr (.inr (.inl 63))), some (.inl v1), some (.inl v2), some (.inl v3), some (.inl t0), some (.inl q3)]) (S := []) (M := mm (up (up (up (up (up V 94 v3.toNat (w32 ((V 94 v3.toNat) + t0))) 99 ((V 62 72).toNat) v3) 100 ((V 62 72).toNat) t0) 101 ((V 62 72).toNat) v1) 102 ((V 62 72).toNat) q3) h) rfl rfl rfl c10.1 c10.2 ?_
  by_cases c11 : 0 ≤ (V 62 72) ∧ (V 62 72) < (17400 : Int)
  case neg => replace hf := (if_neg c11).symm.trans hf; cases hf
  replace hf := (if_pos c11).symm.trans hf
  refine ok_iast (i := V 62 72) (v := (-1)) (id := 104) (n := 17400) (L := [some (.inr (.inr (.inl 63))), some (.inl v1), some (.inl v2), some (.inl v3), some (.inl t0), some (.inl q3)]) (S := []) (M := mm (up (up (up (up (up (up V 94 v3.toNat (w32 ((V 94 v3.toNat) + t0))) 99 ((V 62 72).toNat) v3) 100 ((V 62 72).toNat) t0) 101 ((V 62 72).toNat) v1) 102 ((V 62 72).toNat) q3) 103 ((V 62 72).toNat) v2) h) rfl rfl rfl c11.1 c11.2 ?_
  by_cases c12 : 0 ≤ (V 62 72) ∧ (V 62 72) < (17400 : Int)
  case neg => replace hf := (if_neg c12).symm.trans hf; cases hf
  replace hf := (if_pos c12).symm.trans hf
  refine ok_iast (i := V 62 72) (v := (-1)) (id := 105) (n := 17400) (L := [some (.inr (.inr (.inl 63))), some (.inl v1), some (.inl v2), some (.inl v3), some (.inl t0), some (.inl q3)]) (S := []) (M := mm (up (up (up (up (up (up (up V 94 v3.toNat (w32 ((V 94 v3.toNat) + t0))) 99 ((V 62 72).toNat) v3) 100 ((V 62 72).toNat) t0) 101 ((V 62 72).toNat) v1) 102 ((V 62 72).toNat) q3) 103 ((V 62 72).toNat) v2) 104 ((V 62 72).toNat) (-1)) h) rfl rfl rfl c12.1 c12.2 ?_
  by_cases c13 : 0 ≤ (V 62 72) ∧ (V 62 72) < (17400 : Int)
  case neg => replace hf := (if_neg c13).symm.trans hf; cases hf
  replace hf := (if_pos c13).symm.trans hf
  refine ok_iast (i := V 62 72) (v := (-1)) (id := 106) (n := 17400) (L := [some (.inr (.inr (.inl 63))), some (.inl v1), some (.inl v2), some (.inl v3), some (.inl t0), some (.inl q3)]) (S := []) (M := mm (up (up (up (up (up (up (up (up V 94 v3.toNat (w32 ((V 94 v3.toNat) + t0))) 99 ((V 62 72).toNat) v3) 100 ((V 62 72).toNat) t0) 101 ((V 62 72).toNat) v1) 102 ((V 62 72).toNat) q3) 103 ((V 62 72).toNat) v2) 104 ((V 62 72).toNat) (-1)) 105 ((V 62 72).toNat) (-1)) h) rfl rfl rfl c13.1 c13.2 ?_
  by_cases c14 : 0 ≤ (V 62 72) ∧ (V 62 72) < (17400 : Int)
  case neg => replace hf := (if_neg c14).symm.trans hf; cases hf
  replace hf := (if_pos c14).symm.trans hf
  refine ok_zast (i := V 62 72) (v := 0) (id := 107) (n := 17400) (L := [some (.inr (.inr (.inl 63))), some (.inl v1), some (.inl v2), some (.inl v3), some (.inl t0), some (.inl q3)]) (S := []) (M := mm (up (up (up (up (up (up (up (up (up V 94 v3.toNat (w32 ((V 94 v3.toNat) + t0))) 99 ((V 62 72).toNat) v3) 100 ((V 62 72).toNat) t0) 101 ((V 62 72).toNat) v1) 102 ((V 62 72).toNat) q3) 103 ((V 62 72).toNat) v2) 104 ((V 62 72).toNat) (-1)) 105 ((V 62 72).toNat) (-1)) 106 ((V 62 72).toNat) (-1)) h) rfl rfl rfl c14.1 c14.2 (by first | exact Or.inl rfl | exact Or.inr rfl) ?_
  by_cases c15 : 0 ≤ (V 62 72) ∧ (V 62 72) < (17400 : Int)
  case neg => replace hf := (if_neg c15).symm.trans hf; cases hf
  replace hf := (if_pos c15).symm.trans hf
  refine ok_iast (i := V 62 72) (v := (-1)) (id := 108) (n := 17400) (L := [some (.inr (.inr (.inl 63))), some (.inl v1), some (.inl v2), some (.inl v3), some (.inl t0), some (.inl q3)]) (S := []) (M := mm (up (up (up (up (up (up (up (up (up (up V 94 v3.toNat (w32 ((V 94 v3.toNat) + t0))) 99 ((V 62 72).toNat) v3) 100 ((V 62 72).toNat) t0) 101 ((V 62 72).toNat) v1) 102 ((V 62 72).toNat) q3) 103 ((V 62 72).toNat) v2) 104 ((V 62 72).toNat) (-1)) 105 ((V 62 72).toNat) (-1)) 106 ((V 62 72).toNat) (-1)) 107 ((V 62 72).toNat) 0) h) rfl rfl rfl c15.1 c15.2 ?_
  by_cases c16 : 0 ≤ v1 ∧ v1 < (16 : Int)
  case neg => replace hf := (if_neg c16).symm.trans hf; cases hf
  replace hf := (if_pos c16).symm.trans hf
  refine ok_iast (i := v1) (v := V 62 72) (id := 90) (n := 16) (L := [some (.inr (.inr (.inl 63))), some (.inl v1), some (.inl v2), some (.inl v3), some (.inl t0), some (.inl q3)]) (S := []) (M := mm (up (up (up (up (up (up (up (up (up (up (up V 94 v3.toNat (w32 ((V 94 v3.toNat) + t0))) 99 ((V 62 72).toNat) v3) 100 ((V 62 72).toNat) t0) 101 ((V 62 72).toNat) v1) 102 ((V 62 72).toNat) q3) 103 ((V 62 72).toNat) v2) 104 ((V 62 72).toNat) (-1)) 105 ((V 62 72).toNat) (-1)) 106 ((V 62 72).toNat) (-1)) 107 ((V 62 72).toNat) 0) 108 ((V 62 72).toNat) (-1)) h) rfl rfl rfl c16.1 c16.2 ?_
  by_cases c17 : 0 ≤ v1 ∧ v1 < (16 : Int)
  case neg => replace hf := (if_neg c17).symm.trans hf; cases hf
  replace hf := (if_pos c17).symm.trans hf
  refine ok_iast (i := v1) (v := q3) (id := 89) (n := 16) (L := [some (.inr (.inr (.inl 63))), some (.inl v1), some (.inl v2), some (.inl v3), some (.inl t0), some (.inl q3)]) (S := []) (M := mm (up (up (up (up (up (up (up (up (up (up (up (up (up V 94 v3.toNat (w32 ((V 94 v3.toNat) + t0))) 99 ((V 62 72).toNat) v3) 100 ((V 62 72).toNat) t0) 101 ((V 62 72).toNat) v1) 102 ((V 62 72).toNat) q3) 103 ((V 62 72).toNat) v2) 104 ((V 62 72).toNat) (-1)) 105 ((V 62 72).toNat) (-1)) 106 ((V 62 72).toNat) (-1)) 107 ((V 62 72).toNat) 0) 108 ((V 62 72).toNat) (-1)) 90 v1.toNat (V 62 72)) 62 72 (w32 ((V 62 72) + 1))) h) rfl rfl rfl c17.1 c17.2 ?_
  by_cases c18 : 0 ≤ v1 ∧ v1 < (16 : Int)
  case neg => replace hf := (if_neg c18).symm.trans hf; cases hf
  replace hf := (if_pos c18).symm.trans hf
  refine ok_iast (i := v1) (v := 1) (id := 86) (n := 16) (L := [some (.inr (.inr (.inl 63))), some (.inl v1), some (.inl v2), some (.inl v3), some (.inl t0), some (.inl q3)]) (S := []) (M := mm (up (up (up (up (up (up (up (up (up (up (up (up (up (up V 94 v3.toNat (w32 ((V 94 v3.toNat) + t0))) 99 ((V 62 72).toNat) v3) 100 ((V 62 72).toNat) t0) 101 ((V 62 72).toNat) v1) 102 ((V 62 72).toNat) q3) 103 ((V 62 72).toNat) v2) 104 ((V 62 72).toNat) (-1)) 105 ((V 62 72).toNat) (-1)) 106 ((V 62 72).toNat) (-1)) 107 ((V 62 72).toNat) 0) 108 ((V 62 72).toNat) (-1)) 90 v1.toNat (V 62 72)) 62 72 (w32 ((V 62 72) + 1))) 89 v1.toNat q3) h) rfl rfl rfl c18.1 c18.2 ?_
  obtain ⟨q19, e19, hf⟩ := obind hf
  refine ok_callA (L := [some (.inr (.inr (.inl 63))), some (.inl v1), some (.inl v2), some (.inl v3), some (.inl t0), some (.inl q3)]) (M := mm (up (up (up (up (up (up (up (up (up (up (up (up (up (up (up V 94 v3.toNat (w32 ((V 94 v3.toNat) + t0))) 99 ((V 62 72).toNat) v3) 100 ((V 62 72).toNat) t0) 101 ((V 62 72).toNat) v1) 102 ((V 62 72).toNat) q3) 103 ((V 62 72).toNat) v2) 104 ((V 62 72).toNat) (-1)) 105 ((V 62 72).toNat) (-1)) 106 ((V 62 72).toNat) (-1)) 107 ((V 62 72).toNat) 0) 108 ((V 62 72).toNat) (-1)) 90 v1.toNat (V 62 72)) 62 72 (w32 ((V 62 72) + 1))) 89 v1.toNat q3) 86 v1.toNat 1) h) (args := [.inr (.inr (.inl 63)), .inl (V 62 91), .inl q3, .inl v2]) (rest := [.inl v2, .inl v1, .inr (.inr (.inl 88))]) (y2 := 190) rfl rfl rfl (Or.inl rfl) rfl rfl (Nat.le_of_ble_eq_true rfl) rfl rfl (Nat.le_of_ble_eq_true rfl) (Nat.le_of_ble_eq_true rfl) (s_Mo_haulOf e19) ?_
  rintro _ _ ⟨rfl, rfl⟩
  by_cases c20 : 0 ≤ v1 ∧ v1 < (16 : Int)
  case neg => replace hf := (if_neg c20).symm.trans hf; cases hf
  replace hf := (if_pos c20).symm.trans hf
  refine ok_iast (i := v1) (v := w32 (v2 + q19)) (id := 87) (n := 16) (L := [some (.inr (.inr (.inl 63))), some (.inl v1), some (.inl v2), some (.inl v3), some (.inl t0), some (.inl q3)]) (S := []) (M := mm (up (up (up (up (up (up (up (up (up (up (up (up (up (up (up V 94 v3.toNat (w32 ((V 94 v3.toNat) + t0))) 99 ((V 62 72).toNat) v3) 100 ((V 62 72).toNat) t0) 101 ((V 62 72).toNat) v1) 102 ((V 62 72).toNat) q3) 103 ((V 62 72).toNat) v2) 104 ((V 62 72).toNat) (-1)) 105 ((V 62 72).toNat) (-1)) 106 ((V 62 72).toNat) (-1)) 107 ((V 62 72).toNat) 0) 108 ((V 62 72).toNat) (-1)) 90 v1.toNat (V 62 72)) 62 72 (w32 ((V 62 72) + 1))) 89 v1.toNat q3) 86 v1.toNat 1) h) rfl rfl rfl c20.1 c20.2 ?_
  obtain rfl := Option.some.inj hf
  refine ok_return (L := [some (.inr (.inr (.inl 63))), some (.inl v1), some (.inl v2), some (.inl v3), some (.inl t0), some (.inl q3)]) (M := mm (up (up (up (up (up (up (up (up (up (up (up (up (up (up (up (up V 94 v3.toNat (w32 ((V 94 v3.toNat) + t0))) 99 ((V 62 72).toNat) v3) 100 ((V 62 72).toNat) t0) 101 ((V 62 72).toNat) v1) 102 ((V 62 72).toNat) q3) 103 ((V 62 72).toNat) v2) 104 ((V 62 72).toNat) (-1)) 105 ((V 62 72).toNat) (-1)) 106 ((V 62 72).toNat) (-1)) 107 ((V 62 72).toNat) 0) 108 ((V 62 72).toNat) (-1)) 90 v1.toNat (V 62 72)) 62 72 (w32 ((V 62 72) + 1))) 89 v1.toNat q3) 86 v1.toNat 1) 87 v1.toNat (w32 (v2 + q19))) h) rfl rfl ?_
  exact ⟨rfl, rfl⟩
def f_Mo_order_6 (V : VV) (v1 : Int) (v2 : Int) (v3 : Int) : Option (VV) := if v3 = (V 62 13) then some V else if 0 ≤ v3 ∧ v3 < (36 : Int) then if 0 ≤ v3 ∧ v3 < (36 : Int) then if (w32 ((V 70 v3.toNat) - (V 94 v3.toNat))) < (V 62 23) then if 0 ≤ v3 ∧ v3 < (36 : Int) then if 0 ≤ v3 ∧ v3 < (36 : Int) then f_Mo_order_15 V v1 v2 v3 (w32 ((V 70 v3.toNat) - (V 94 v3.toNat))) else none else none else f_Mo_order_15 V v1 v2 v3 (V 62 23) else none else none
set_option maxRecDepth 20000 in
set_option maxHeartbeats 4000000 in
theorem s_Mo_order_6 {X : Xs} {d : Nat} {V : VV} {h : HP} {v1 : Int} {v2 : Int} {v3 : Int} {z4 : Option AV} {z5 : Option AV} {q : VV} (hf : f_Mo_order_6 V v1 v2 v3 = some q) : Ok X (d + 4) 200 6 ([some (.inr (.inr (.inl 63))), some (.inl v1), some (.inl v2), some (.inl v3), z4, z5], [], mm V h) (fun M r => M = mm q h ∧ r = none) := by
  let QQ : Mm → Option AV → Prop := fun M r => M = mm q h ∧ r = none
  show Ok X (d + 4) 200 6 ([some (.inr (.inr (.inl 63))), some (.inl v1), some (.inl v2), some (.inl v3), z4, z5], [], mm V h) QQ
  refine ok_ic_ne (x := v3) (u := V 62 13) (L := [some (.inr (.inr (.inl 63))), some (.inl v1), some (.inl v2), some (.inl v3), z4, z5]) (S := []) (M := mm V h) rfl rfl (fun c1 => ?_) (fun c1 => ?_)
  ·
    replace hf := (if_neg c1).symm.trans hf
    by_cases c2 : 0 ≤ v3 ∧ v3 < (36 : Int)
    case neg => replace hf := (if_neg c2).symm.trans hf; cases hf
    replace hf := (if_pos c2).symm.trans hf
    refine ok_iald (i := v3) (id := 70) (n := 36) (L := [some (.inr (.inr (.inl 63))), some (.inl v1), some (.inl v2), some (.inl v3), z4, z5]) (S := []) (M := mm V h) rfl rfl rfl c2.1 c2.2 ?_
    by_cases c3 : 0 ≤ v3 ∧ v3 < (36 : Int)
    case neg => replace hf := (if_neg c3).symm.trans hf; cases hf
    replace hf := (if_pos c3).symm.trans hf
    refine ok_iald (i := v3) (id := 94) (n := 36) (L := [some (.inr (.inr (.inl 63))), some (.inl v1), some (.inl v2), some (.inl v3), z4, z5]) (S := [.inl (V 70 v3.toNat)]) (M := mm V h) rfl rfl rfl c3.1 c3.2 ?_
    refine ok_ic_ge (x := w32 ((V 70 v3.toNat) - (V 94 v3.toNat))) (u := V 62 23) (L := [some (.inr (.inr (.inl 63))), some (.inl v1), some (.inl v2), some (.inl v3), z4, z5]) (S := []) (M := mm V h) rfl rfl (fun c4 => ?_) (fun c4 => ?_)
    ·
      replace hf := (if_neg (Int.not_lt.mpr c4)).symm.trans hf
      refine ok_thru (L := [some (.inr (.inr (.inl 63))), some (.inl v1), some (.inl v2), some (.inl v3), z4, z5]) (S := [.inl (V 62 23)]) (M := mm V h) rfl rfl ?_
      exact s_Mo_order_15 hf
    ·
      replace hf := (if_pos c4).symm.trans hf
      by_cases c5 : 0 ≤ v3 ∧ v3 < (36 : Int)
      case neg => replace hf := (if_neg c5).symm.trans hf; cases hf
      replace hf := (if_pos c5).symm.trans hf
      refine ok_iald (i := v3) (id := 70) (n := 36) (L := [some (.inr (.inr (.inl 63))), some (.inl v1), some (.inl v2), some (.inl v3), z4, z5]) (S := []) (M := mm V h) rfl rfl rfl c5.1 c5.2 ?_
      by_cases c6 : 0 ≤ v3 ∧ v3 < (36 : Int)
      case neg => replace hf := (if_neg c6).symm.trans hf; cases hf
      replace hf := (if_pos c6).symm.trans hf
      refine ok_iald (i := v3) (id := 94) (n := 36) (L := [some (.inr (.inr (.inl 63))), some (.inl v1), some (.inl v2), some (.inl v3), z4, z5]) (S := [.inl (V 70 v3.toNat)]) (M := mm V h) rfl rfl rfl c6.1 c6.2 ?_
      refine ok_goto (L := [some (.inr (.inr (.inl 63))), some (.inl v1), some (.inl v2), some (.inl v3), z4, z5]) (S := [.inl (w32 ((V 70 v3.toNat) - (V 94 v3.toNat)))]) (M := mm V h) rfl rfl ?_
      exact s_Mo_order_15 hf
  ·
    replace hf := (if_pos c1).symm.trans hf
    obtain rfl := Option.some.inj hf
    refine ok_return (L := [some (.inr (.inr (.inl 63))), some (.inl v1), some (.inl v2), some (.inl v3), z4, z5]) (M := mm V h) rfl rfl ?_
    exact ⟨rfl, rfl⟩
def f_Mo_order_1 : Nat → VV → Int → Int → Int → (Option (VV))
  | 0, _, _, _, _ => none
  | n + 1, V, v1, v2, v3 => if v3 < (V 62 13) then if 0 ≤ v3 ∧ v3 < (36 : Int) then if 0 ≤ v3 ∧ v3 < (36 : Int) then if (V 94 v3.toNat) = (V 70 v3.toNat) then f_Mo_order_1 n V v1 v2 (w32 (v3 + 1)) else f_Mo_order_6 V v1 v2 v3 else none else none else f_Mo_order_6 V v1 v2 v3
set_option maxRecDepth 20000 in
set_option maxHeartbeats 4000000 in
theorem s_Mo_order_1_n {X : Xs} {d : Nat} {h : HP} {q : VV} : ∀ (n : Nat) (V : VV) (v1 : Int) (v2 : Int) (v3 : Int) (z4 : Option AV) (z5 : Option AV), f_Mo_order_1 n V v1 v2 v3 = some q → Ok X (d + 4) 200 1 ([some (.inr (.inr (.inl 63))), some (.inl v1), some (.inl v2), some (.inl v3), z4, z5], [], mm V h) (fun M r => M = mm q h ∧ r = none) := by
  intro n
  induction n with
  | zero => intro V v1 v2 v3 z4 z5 hf; cases hf
  | succ n ih =>
    intro V v1 v2 v3 z4 z5 hf
    let QQ : Mm → Option AV → Prop := fun M r => M = mm q h ∧ r = none
    show Ok X (d + 4) 200 1 ([some (.inr (.inr (.inl 63))), some (.inl v1), some (.inl v2), some (.inl v3), z4, z5], [], mm V h) QQ
    refine ok_ic_ge (x := v3) (u := V 62 13) (L := [some (.inr (.inr (.inl 63))), some (.inl v1), some (.inl v2), some (.inl v3), z4, z5]) (S := []) (M := mm V h) rfl rfl (fun c1 => ?_) (fun c1 => ?_)
    ·
      replace hf := (if_neg (Int.not_lt.mpr c1)).symm.trans hf
      exact s_Mo_order_6 hf
    ·
      replace hf := (if_pos c1).symm.trans hf
      by_cases c2 : 0 ≤ v3 ∧ v3 < (36 : Int)
      case neg => replace hf := (if_neg c2).symm.trans hf; cases hf
      replace hf := (if_pos c2).symm.trans hf
      refine ok_iald (i := v3) (id := 94) (n := 36) (L := [some (.inr (.inr (.inl 63))), some (.inl v1), some (.inl v2), some (.inl v3), z4, z5]) (S := []) (M := mm V h) rfl rfl rfl c2.1 c2.2 ?_
      by_cases c3 : 0 ≤ v3 ∧ v3 < (36 : Int)
      case neg => replace hf := (if_neg c3).symm.trans hf; cases hf
      replace hf := (if_pos c3).symm.trans hf
      refine ok_iald (i := v3) (id := 70) (n := 36) (L := [some (.inr (.inr (.inl 63))), some (.inl v1), some (.inl v2), some (.inl v3), z4, z5]) (S := [.inl (V 94 v3.toNat)]) (M := mm V h) rfl rfl rfl c3.1 c3.2 ?_
      refine ok_ic_ne (x := V 94 v3.toNat) (u := V 70 v3.toNat) (L := [some (.inr (.inr (.inl 63))), some (.inl v1), some (.inl v2), some (.inl v3), z4, z5]) (S := []) (M := mm V h) rfl rfl (fun c4 => ?_) (fun c4 => ?_)
      ·
        replace hf := (if_neg c4).symm.trans hf
        exact s_Mo_order_6 hf
      ·
        replace hf := (if_pos c4).symm.trans hf
        refine ok_goto (L := [some (.inr (.inr (.inl 63))), some (.inl v1), some (.inl v2), some (.inl (w32 (v3 + 1))), z4, z5]) (S := []) (M := mm V h) rfl rfl ?_
        exact ih V v1 v2 (w32 (v3 + 1)) z4 z5 hf
theorem s_Mo_order_1 {X : Xs} {d : Nat} {h : HP} {V : VV} {v1 : Int} {v2 : Int} {v3 : Int} {z4 : Option AV} {z5 : Option AV} {n : Nat} {q : VV} (hf : f_Mo_order_1 n V v1 v2 v3 = some q) : Ok X (d + 4) 200 1 ([some (.inr (.inr (.inl 63))), some (.inl v1), some (.inl v2), some (.inl v3), z4, z5], [], mm V h) (fun M r => M = mm q h ∧ r = none) :=
  s_Mo_order_1_n n V v1 v2 v3 z4 z5 hf
def f_Mo_order (V : VV) (v1 : Int) (v2 : Int) : Option (VV) := f_Mo_order_1 FU V v1 v2 0
set_option maxRecDepth 20000 in
set_option maxHeartbeats 4000000 in
theorem s_Mo_order {X : Xs} {d : Nat} {V : VV} {h : HP} {v1 : Int} {v2 : Int} {q : VV} (hf : f_Mo_order V v1 v2 = some q) : Ok X (d + 4) 200 0 ([some (.inr (.inr (.inl 63))), some (.inl v1), some (.inl v2), none, none, none], [], mm V h) (fun M r => M = mm q h ∧ r = none) := by
  let QQ : Mm → Option AV → Prop := fun M r => M = mm q h ∧ r = none
  show Ok X (d + 4) 200 0 ([some (.inr (.inr (.inl 63))), some (.inl v1), some (.inl v2), none, none, none], [], mm V h) QQ
  refine ok_thru (L := [some (.inr (.inr (.inl 63))), some (.inl v1), some (.inl v2), some (.inl 0), none, none]) (S := []) (M := mm V h) rfl rfl ?_
  exact s_Mo_order_1 hf
def f_Mo_meanOf (V : VV) (v1 : Int) (v2 : Int) : Option (Int) := if 0 ≤ (w32 ((w32 (601 * v1)) + (if 600 < v2 then 600 else v2 : Int))) ∧ (w32 ((w32 (601 * v1)) + (if 600 < v2 then 600 else v2 : Int))) < (21636 : Int) then some (V 109 ((w32 ((w32 (601 * v1)) + (if 600 < v2 then 600 else v2 : Int))).toNat)) else none
set_option maxRecDepth 20000 in
set_option maxHeartbeats 4000000 in
theorem s_Mo_meanOf {X : Xs} {d : Nat} {V : VV} {h : HP} {v1 : Int} {v2 : Int} {q : Int} (hf : f_Mo_meanOf V v1 v2 = some q) : Ok X (d + 1) 205 0 ([some (.inr (.inr (.inl 63))), some (.inl v1), some (.inl v2)], [], mm V h) (fun M r => M = mm V h ∧ r = some (.inl q)) := by
  let QQ : Mm → Option AV → Prop := fun M r => M = mm V h ∧ r = some (.inl q)
  show Ok X (d + 1) 205 0 ([some (.inr (.inr (.inl 63))), some (.inl v1), some (.inl v2)], [], mm V h) QQ
  have JN1 : Ok X (d + 1) 205 3 ([some (.inr (.inr (.inl 63))), some (.inl v1), some (.inl v2)], [.inl (if 600 < v2 then 600 else v2 : Int), .inl (w32 (601 * v1)), .inr (.inr (.inl 110))], mm V h) QQ := by
    by_cases c2 : 0 ≤ (w32 ((w32 (601 * v1)) + (if 600 < v2 then 600 else v2 : Int))) ∧ (w32 ((w32 (601 * v1)) + (if 600 < v2 then 600 else v2 : Int))) < (21636 : Int)
    case neg => replace hf := (if_neg c2).symm.trans hf; cases hf
    replace hf := (if_pos c2).symm.trans hf
    refine ok_sald (i := w32 ((w32 (601 * v1)) + (if 600 < v2 then 600 else v2 : Int))) (id := 109) (n := 21636) (L := [some (.inr (.inr (.inl 63))), some (.inl v1), some (.inl v2)]) (S := []) (M := mm V h) rfl rfl rfl c2.1 c2.2 ?_
    obtain rfl := Option.some.inj hf
    refine ok_ireturn (L := [some (.inr (.inr (.inl 63))), some (.inl v1), some (.inl v2)]) (M := mm V h) (x := V 109 ((w32 ((w32 (601 * v1)) + (if 600 < v2 then 600 else v2 : Int))).toNat)) rfl rfl ?_
    exact ⟨rfl, rfl⟩
  clear hf
  refine ok_ic_le (x := v2) (u := 600) (L := [some (.inr (.inr (.inl 63))), some (.inl v1), some (.inl v2)]) (S := [.inl (w32 (601 * v1)), .inr (.inr (.inl 110))]) (M := mm V h) rfl rfl (fun c3 => ?_) (fun c3 => ?_)
  ·
    simp only [if_neg (Int.not_lt.mpr c3)] at JN1
    refine ok_thru (L := [some (.inr (.inr (.inl 63))), some (.inl v1), some (.inl v2)]) (S := [.inl v2, .inl (w32 (601 * v1)), .inr (.inr (.inl 110))]) (M := mm V h) rfl rfl ?_
    first | exact JN1 | (simp only [if_neg (Int.not_lt.mpr c3)]; exact JN1)
  ·
    simp only [if_pos c3] at JN1
    refine ok_goto (L := [some (.inr (.inr (.inl 63))), some (.inl v1), some (.inl v2)]) (S := [.inl 600, .inl (w32 (601 * v1)), .inr (.inr (.inl 110))]) (M := mm V h) rfl rfl ?_
    first | exact JN1 | (simp only [if_pos c3]; exact JN1)
def f_Mo_isFirm_4 (V : VV)  : Option (Int) := some 1
set_option maxRecDepth 20000 in
set_option maxHeartbeats 4000000 in
theorem s_Mo_isFirm_4 {X : Xs} {d : Nat} {V : VV} {h : HP} {w1 : Int} {q : Int} (hf : f_Mo_isFirm_4 V = some q) : Ok X (d + 2) 204 4 ([some (.inr (.inr (.inl 63))), some (.inl w1)], [], mm V h) (fun M r => M = mm V h ∧ r = some (.inl q) ∧ (q = 0 ∨ q = 1)) := by
  let QQ : Mm → Option AV → Prop := fun M r => M = mm V h ∧ r = some (.inl q) ∧ (q = 0 ∨ q = 1)
  show Ok X (d + 2) 204 4 ([some (.inr (.inr (.inl 63))), some (.inl w1)], [], mm V h) QQ
  refine ok_goto (L := [some (.inr (.inr (.inl 63))), some (.inl w1)]) (S := [.inl 1]) (M := mm V h) rfl rfl ?_
  obtain rfl := Option.some.inj hf
  have hz : (1 : Int) = 0 ∨ (1 : Int) = 1 := by
    first | exact Or.inl rfl | exact Or.inr rfl | assumption | (repeat' split) <;> first | exact Or.inl rfl | exact Or.inr rfl | assumption
  refine ok_zreturn (L := [some (.inr (.inr (.inl 63))), some (.inl w1)]) (M := mm V h) (x := 1) rfl rfl hz ?_
  exact ⟨rfl, rfl, hz⟩
def f_Mo_isFirm (V : VV) (v1 : Int) : Option (Int) := if (V 62 74) < (V 62 0) then f_Mo_isFirm_4 V else if 0 ≤ (w32 ((V 62 74) - (V 62 0))) ∧ (w32 ((V 62 74) - (V 62 0))) < (36 : Int) then Option.bind (f_Mo_meanOf V (w32 ((V 62 74) - (V 62 0))) (w32 (v1 - (V 97 ((w32 ((V 62 74) - (V 62 0))).toNat))))) (fun q3 => if (V 62 27) < q3 then some 0 else f_Mo_isFirm_4 V) else none
set_option maxRecDepth 20000 in
set_option maxHeartbeats 4000000 in
theorem s_Mo_isFirm {X : Xs} {d : Nat} {V : VV} {h : HP} {v1 : Int} {q : Int} (hf : f_Mo_isFirm V v1 = some q) : Ok X (d + 2) 204 0 ([some (.inr (.inr (.inl 63))), some (.inl v1)], [], mm V h) (fun M r => M = mm V h ∧ r = some (.inl q) ∧ (q = 0 ∨ q = 1)) := by
  let QQ : Mm → Option AV → Prop := fun M r => M = mm V h ∧ r = some (.inl q) ∧ (q = 0 ∨ q = 1)
  show Ok X (d + 2) 204 0 ([some (.inr (.inr (.inl 63))), some (.inl v1)], [], mm V h) QQ
  refine ok_ic_lt (x := V 62 74) (u := V 62 0) (L := [some (.inr (.inr (.inl 63))), some (.inl v1)]) (S := []) (M := mm V h) rfl rfl (fun c1 => ?_) (fun c1 => ?_)
  ·
    replace hf := (if_pos c1).symm.trans hf
    exact s_Mo_isFirm_4 hf
  ·
    replace hf := (if_neg (Int.not_lt.mpr c1)).symm.trans hf
    by_cases c2 : 0 ≤ (w32 ((V 62 74) - (V 62 0))) ∧ (w32 ((V 62 74) - (V 62 0))) < (36 : Int)
    case neg => replace hf := (if_neg c2).symm.trans hf; cases hf
    replace hf := (if_pos c2).symm.trans hf
    refine ok_iald (i := w32 ((V 62 74) - (V 62 0))) (id := 97) (n := 36) (L := [some (.inr (.inr (.inl 63))), some (.inl v1)]) (S := [.inl v1, .inl (w32 ((V 62 74) - (V 62 0))), .inr (.inr (.inl 63))]) (M := mm V h) rfl rfl rfl c2.1 c2.2 ?_
    obtain ⟨q3, e3, hf⟩ := obind hf
    refine ok_callA (L := [some (.inr (.inr (.inl 63))), some (.inl v1)]) (M := mm V h) (args := [.inr (.inr (.inl 63)), .inl (w32 ((V 62 74) - (V 62 0))), .inl (w32 (v1 - (V 97 ((w32 ((V 62 74) - (V 62 0))).toNat))))]) (rest := []) (y2 := 205) rfl rfl rfl (Or.inl rfl) rfl rfl (Nat.le_of_ble_eq_true rfl) rfl rfl (Nat.le_of_ble_eq_true rfl) (Nat.le_of_ble_eq_true rfl) (s_Mo_meanOf e3) ?_
    rintro _ _ ⟨rfl, rfl⟩
    refine ok_ic_gt (x := q3) (u := V 62 27) (L := [some (.inr (.inr (.inl 63))), some (.inl v1)]) (S := []) (M := mm V h) rfl rfl (fun c4 => ?_) (fun c4 => ?_)
    ·
      replace hf := (if_pos c4).symm.trans hf
      refine ok_thru (L := [some (.inr (.inr (.inl 63))), some (.inl v1)]) (S := [.inl 0]) (M := mm V h) rfl rfl ?_
      obtain rfl := Option.some.inj hf
      have hz : (0 : Int) = 0 ∨ (0 : Int) = 1 := by
        first | exact Or.inl rfl | exact Or.inr rfl | assumption | (repeat' split) <;> first | exact Or.inl rfl | exact Or.inr rfl | assumption
      refine ok_zreturn (L := [some (.inr (.inr (.inl 63))), some (.inl v1)]) (M := mm V h) (x := 0) rfl rfl hz ?_
      exact ⟨rfl, rfl, hz⟩
    ·
      replace hf := (if_neg (Int.not_lt.mpr c4)).symm.trans hf
      exact s_Mo_isFirm_4 hf
def f_Mo_firstWaiting_12 (k1 : VV → Int → Int → Int → (Option (Int))) (V : VV) (v1 : Int) (v2 : Int) (v3 : Int) : Option (Int) := k1 V v1 v2 (w32 (v3 + 1))
set_option maxRecDepth 20000 in
set_option maxHeartbeats 4000000 in
theorem s_Mo_firstWaiting_12 {X : Xs} {d : Nat} {k1 : VV → Int → Int → Int → (Option (Int))} {V : VV} {h : HP} {v1 : Int} {v2 : Int} {v3 : Int} {q : Int} (hf : f_Mo_firstWaiting_12 k1 V v1 v2 v3 = some q) (K1 : ∀ (v1 : Int) (v2 : Int) (v3 : Int), k1 V v1 v2 v3 = some q → Ok X (d + 1) 206 1 ([some (.inr (.inr (.inl 63))), some (.inl v1), some (.inl v2), some (.inl v3)], [], mm V h) (fun M r => M = mm V h ∧ r = some (.inl q))) : Ok X (d + 1) 206 12 ([some (.inr (.inr (.inl 63))), some (.inl v1), some (.inl v2), some (.inl v3)], [], mm V h) (fun M r => M = mm V h ∧ r = some (.inl q)) := by
  let QQ : Mm → Option AV → Prop := fun M r => M = mm V h ∧ r = some (.inl q)
  show Ok X (d + 1) 206 12 ([some (.inr (.inr (.inl 63))), some (.inl v1), some (.inl v2), some (.inl v3)], [], mm V h) QQ
  refine ok_goto (L := [some (.inr (.inr (.inl 63))), some (.inl v1), some (.inl v2), some (.inl (w32 (v3 + 1)))]) (S := []) (M := mm V h) rfl rfl ?_
  exact K1 v1 v2 (w32 (v3 + 1)) hf
def f_Mo_firstWaiting_11 (k1 : VV → Int → Int → Int → (Option (Int))) (V : VV) (v1 : Int) (v3 : Int) : Option (Int) := f_Mo_firstWaiting_12 k1 V v1 v3 v3
set_option maxRecDepth 20000 in
set_option maxHeartbeats 4000000 in
theorem s_Mo_firstWaiting_11 {X : Xs} {d : Nat} {k1 : VV → Int → Int → Int → (Option (Int))} {V : VV} {h : HP} {v1 : Int} {v3 : Int} {w2 : Int} {q : Int} (hf : f_Mo_firstWaiting_11 k1 V v1 v3 = some q) (K1 : ∀ (v1 : Int) (v2 : Int) (v3 : Int), k1 V v1 v2 v3 = some q → Ok X (d + 1) 206 1 ([some (.inr (.inr (.inl 63))), some (.inl v1), some (.inl v2), some (.inl v3)], [], mm V h) (fun M r => M = mm V h ∧ r = some (.inl q))) : Ok X (d + 1) 206 11 ([some (.inr (.inr (.inl 63))), some (.inl v1), some (.inl w2), some (.inl v3)], [], mm V h) (fun M r => M = mm V h ∧ r = some (.inl q)) := by
  let QQ : Mm → Option AV → Prop := fun M r => M = mm V h ∧ r = some (.inl q)
  show Ok X (d + 1) 206 11 ([some (.inr (.inr (.inl 63))), some (.inl v1), some (.inl w2), some (.inl v3)], [], mm V h) QQ
  refine ok_thru (L := [some (.inr (.inr (.inl 63))), some (.inl v1), some (.inl v3), some (.inl v3)]) (S := []) (M := mm V h) rfl rfl ?_
  exact s_Mo_firstWaiting_12 hf K1
def f_Mo_firstWaiting_1 : Nat → VV → Int → Int → Int → (Option (Int))
  | 0, _, _, _, _ => none
  | n + 1, V, v1, v2, v3 => if v3 < (V 62 22) then if 0 ≤ v3 ∧ v3 < (16 : Int) then if (V 86 v3.toNat) = 5 then if 0 ≤ v3 ∧ v3 < (16 : Int) then if 0 ≤ (V 90 v3.toNat) ∧ (V 90 v3.toNat) < (17400 : Int) then if (V 99 ((V 90 v3.toNat).toNat)) = v1 then if v2 < 0 then f_Mo_firstWaiting_11 (f_Mo_firstWaiting_1 n) V v1 v3 else if 0 ≤ v3 ∧ v3 < (16 : Int) then if 0 ≤ v2 ∧ v2 < (16 : Int) then if (V 88 v3.toNat) < (V 88 v2.toNat) then f_Mo_firstWaiting_11 (f_Mo_firstWaiting_1 n) V v1 v3 else f_Mo_firstWaiting_12 (f_Mo_firstWaiting_1 n) V v1 v2 v3 else none else none else f_Mo_firstWaiting_12 (f_Mo_firstWaiting_1 n) V v1 v2 v3 else none else none else f_Mo_firstWaiting_12 (f_Mo_firstWaiting_1 n) V v1 v2 v3 else none else some v2
set_option maxRecDepth 20000 in
set_option maxHeartbeats 4000000 in
theorem s_Mo_firstWaiting_1_n {X : Xs} {d : Nat} {V : VV} {h : HP} {q : Int} : ∀ (n : Nat) (v1 : Int) (v2 : Int) (v3 : Int), f_Mo_firstWaiting_1 n V v1 v2 v3 = some q → Ok X (d + 1) 206 1 ([some (.inr (.inr (.inl 63))), some (.inl v1), some (.inl v2), some (.inl v3)], [], mm V h) (fun M r => M = mm V h ∧ r = some (.inl q)) := by
  intro n
  induction n with
  | zero => intro v1 v2 v3 hf; cases hf
  | succ n ih =>
    intro v1 v2 v3 hf
    let QQ : Mm → Option AV → Prop := fun M r => M = mm V h ∧ r = some (.inl q)
    show Ok X (d + 1) 206 1 ([some (.inr (.inr (.inl 63))), some (.inl v1), some (.inl v2), some (.inl v3)], [], mm V h) QQ
    refine ok_ic_ge (x := v3) (u := V 62 22) (L := [some (.inr (.inr (.inl 63))), some (.inl v1), some (.inl v2), some (.inl v3)]) (S := []) (M := mm V h) rfl rfl (fun c1 => ?_) (fun c1 => ?_)
    ·
      replace hf := (if_neg (Int.not_lt.mpr c1)).symm.trans hf
      obtain rfl := Option.some.inj hf
      refine ok_ireturn (L := [some (.inr (.inr (.inl 63))), some (.inl v1), some (.inl v2), some (.inl v3)]) (M := mm V h) (x := v2) rfl rfl ?_
      exact ⟨rfl, rfl⟩
    ·
      replace hf := (if_pos c1).symm.trans hf
      by_cases c2 : 0 ≤ v3 ∧ v3 < (16 : Int)
      case neg => replace hf := (if_neg c2).symm.trans hf; cases hf
      replace hf := (if_pos c2).symm.trans hf
      refine ok_iald (i := v3) (id := 86) (n := 16) (L := [some (.inr (.inr (.inl 63))), some (.inl v1), some (.inl v2), some (.inl v3)]) (S := []) (M := mm V h) rfl rfl rfl c2.1 c2.2 ?_
      refine ok_ic_ne (x := V 86 v3.toNat) (u := 5) (L := [some (.inr (.inr (.inl 63))), some (.inl v1), some (.inl v2), some (.inl v3)]) (S := []) (M := mm V h) rfl rfl (fun c3 => ?_) (fun c3 => ?_)
      ·
        replace hf := (if_neg c3).symm.trans hf
        exact s_Mo_firstWaiting_12 hf ih
      ·
        replace hf := (if_pos c3).symm.trans hf
        by_cases c4 : 0 ≤ v3 ∧ v3 < (16 : Int)
        case neg => replace hf := (if_neg c4).symm.trans hf; cases hf
        replace hf := (if_pos c4).symm.trans hf
        refine ok_iald (i := v3) (id := 90) (n := 16) (L := [some (.inr (.inr (.inl 63))), some (.inl v1), some (.inl v2), some (.inl v3)]) (S := [.inr (.inr (.inl 100))]) (M := mm V h) rfl rfl rfl c4.1 c4.2 ?_
        by_cases c5 : 0 ≤ (V 90 v3.toNat) ∧ (V 90 v3.toNat) < (17400 : Int)
        case neg => replace hf := (if_neg c5).symm.trans hf; cases hf
        replace hf := (if_pos c5).symm.trans hf
        refine ok_iald (i := V 90 v3.toNat) (id := 99) (n := 17400) (L := [some (.inr (.inr (.inl 63))), some (.inl v1), some (.inl v2), some (.inl v3)]) (S := []) (M := mm V h) rfl rfl rfl c5.1 c5.2 ?_
        refine ok_ic_ne (x := V 99 ((V 90 v3.toNat).toNat)) (u := v1) (L := [some (.inr (.inr (.inl 63))), some (.inl v1), some (.inl v2), some (.inl v3)]) (S := []) (M := mm V h) rfl rfl (fun c6 => ?_) (fun c6 => ?_)
        ·
          replace hf := (if_neg c6).symm.trans hf
          exact s_Mo_firstWaiting_12 hf ih
        ·
          replace hf := (if_pos c6).symm.trans hf
          refine ok_if_lt (x := v2) (L := [some (.inr (.inr (.inl 63))), some (.inl v1), some (.inl v2), some (.inl v3)]) (S := []) (M := mm V h) rfl rfl (fun c7 => ?_) (fun c7 => ?_)
          ·
            replace hf := (if_pos c7).symm.trans hf
            exact s_Mo_firstWaiting_11 hf ih
          ·
            replace hf := (if_neg (Int.not_lt.mpr c7)).symm.trans hf
            by_cases c8 : 0 ≤ v3 ∧ v3 < (16 : Int)
            case neg => replace hf := (if_neg c8).symm.trans hf; cases hf
            replace hf := (if_pos c8).symm.trans hf
            refine ok_iald (i := v3) (id := 88) (n := 16) (L := [some (.inr (.inr (.inl 63))), some (.inl v1), some (.inl v2), some (.inl v3)]) (S := []) (M := mm V h) rfl rfl rfl c8.1 c8.2 ?_
            by_cases c9 : 0 ≤ v2 ∧ v2 < (16 : Int)
            case neg => replace hf := (if_neg c9).symm.trans hf; cases hf
            replace hf := (if_pos c9).symm.trans hf
            refine ok_iald (i := v2) (id := 88) (n := 16) (L := [some (.inr (.inr (.inl 63))), some (.inl v1), some (.inl v2), some (.inl v3)]) (S := [.inl (V 88 v3.toNat)]) (M := mm V h) rfl rfl rfl c9.1 c9.2 ?_
            refine ok_ic_ge (x := V 88 v3.toNat) (u := V 88 v2.toNat) (L := [some (.inr (.inr (.inl 63))), some (.inl v1), some (.inl v2), some (.inl v3)]) (S := []) (M := mm V h) rfl rfl (fun c10 => ?_) (fun c10 => ?_)
            ·
              replace hf := (if_neg (Int.not_lt.mpr c10)).symm.trans hf
              exact s_Mo_firstWaiting_12 hf ih
            ·
              replace hf := (if_pos c10).symm.trans hf
              exact s_Mo_firstWaiting_11 hf ih
theorem s_Mo_firstWaiting_1 {X : Xs} {d : Nat} {V : VV} {h : HP} {v1 : Int} {v2 : Int} {v3 : Int} {n : Nat} {q : Int} (hf : f_Mo_firstWaiting_1 n V v1 v2 v3 = some q) : Ok X (d + 1) 206 1 ([some (.inr (.inr (.inl 63))), some (.inl v1), some (.inl v2), some (.inl v3)], [], mm V h) (fun M r => M = mm V h ∧ r = some (.inl q)) :=
  s_Mo_firstWaiting_1_n n v1 v2 v3 hf
def f_Mo_firstWaiting (V : VV) (v1 : Int) : Option (Int) := f_Mo_firstWaiting_1 FU V v1 (-1) 0
set_option maxRecDepth 20000 in
set_option maxHeartbeats 4000000 in
theorem s_Mo_firstWaiting {X : Xs} {d : Nat} {V : VV} {h : HP} {v1 : Int} {q : Int} (hf : f_Mo_firstWaiting V v1 = some q) : Ok X (d + 1) 206 0 ([some (.inr (.inr (.inl 63))), some (.inl v1), none, none], [], mm V h) (fun M r => M = mm V h ∧ r = some (.inl q)) := by
  let QQ : Mm → Option AV → Prop := fun M r => M = mm V h ∧ r = some (.inl q)
  show Ok X (d + 1) 206 0 ([some (.inr (.inr (.inl 63))), some (.inl v1), none, none], [], mm V h) QQ
  refine ok_thru (L := [some (.inr (.inr (.inl 63))), some (.inl v1), some (.inl (-1)), some (.inl 0)]) (S := []) (M := mm V h) rfl rfl ?_
  exact s_Mo_firstWaiting_1 hf
def f_Mo_takes_21 (V : VV) (v3 : Int) : Option (VV) := if 0 ≤ v3 ∧ v3 < (17400 : Int) then if 0 ≤ (V 62 74) ∧ (V 62 74) < (36 : Int) then some (up V 98 ((V 62 74).toNat) (V 106 v3.toNat)) else none else none
set_option maxRecDepth 20000 in
set_option maxHeartbeats 4000000 in
theorem s_Mo_takes_21 {X : Xs} {d : Nat} {V : VV} {h : HP} {v3 : Int} {w1 : Int} {w2 : Int} {q : VV} (hf : f_Mo_takes_21 V v3 = some q) : Ok X (d + 1) 207 21 ([some (.inr (.inr (.inl 63))), some (.inl w1), some (.inl w2), some (.inl v3)], [], mm V h) (fun M r => M = mm q h ∧ r = none) := by
  let QQ : Mm → Option AV → Prop := fun M r => M = mm q h ∧ r = none
  show Ok X (d + 1) 207 21 ([some (.inr (.inr (.inl 63))), some (.inl w1), some (.inl w2), some (.inl v3)], [], mm V h) QQ
  by_cases c1 : 0 ≤ v3 ∧ v3 < (17400 : Int)
  case neg => replace hf := (if_neg c1).symm.trans hf; cases hf
  replace hf := (if_pos c1).symm.trans hf
  refine ok_iald (i := v3) (id := 106) (n := 17400) (L := [some (.inr (.inr (.inl 63))), some (.inl w1), some (.inl w2), some (.inl v3)]) (S := [.inl (V 62 74), .inr (.inr (.inl 99))]) (M := mm V h) rfl rfl rfl c1.1 c1.2 ?_
  by_cases c2 : 0 ≤ (V 62 74) ∧ (V 62 74) < (36 : Int)
  case neg => replace hf := (if_neg c2).symm.trans hf; cases hf
  replace hf := (if_pos c2).symm.trans hf
  refine ok_iast (i := V 62 74) (v := V 106 v3.toNat) (id := 98) (n := 36) (L := [some (.inr (.inr (.inl 63))), some (.inl w1), some (.inl w2), some (.inl v3)]) (S := []) (M := mm V h) rfl rfl rfl c2.1 c2.2 ?_
  obtain rfl := Option.some.inj hf
  refine ok_return (L := [some (.inr (.inr (.inl 63))), some (.inl w1), some (.inl w2), some (.inl v3)]) (M := mm (up V 98 ((V 62 74).toNat) (V 106 v3.toNat)) h) rfl rfl ?_
  exact ⟨rfl, rfl⟩
def f_Mo_takes (V : VV) (v1 : Int) (v2 : Int) : Option (VV) := if 0 ≤ v1 ∧ v1 < (16 : Int) then if 0 ≤ v1 ∧ v1 < (16 : Int) then if 0 ≤ (V 90 v1.toNat) ∧ (V 90 v1.toNat) < (17400 : Int) then if 0 ≤ (V 90 v1.toNat) ∧ (V 90 v1.toNat) < (17400 : Int) then if (V 62 25) = 0 then none else if 0 ≤ (V 90 v1.toNat) ∧ (V 90 v1.toNat) < (17400 : Int) then if 0 ≤ (V 90 v1.toNat) ∧ (V 90 v1.toNat) < (17400 : Int) then if ((up (up (up V 86 v1.toNat 0) 105 ((V 90 v1.toNat).toNat) v2) 106 ((V 90 v1.toNat).toNat) (w32 ((V 62 24) - (w32 (Int.tdiv (w32 (v2 - (V 104 ((V 90 v1.toNat).toNat)))) (V 62 25)))))) 106 ((V 90 v1.toNat).toNat)) < (V 62 26) then if 0 ≤ (V 90 v1.toNat) ∧ (V 90 v1.toNat) < (17400 : Int) then if 0 ≤ (V 62 74) ∧ (V 62 74) < (36 : Int) then if 0 ≤ (V 90 v1.toNat) ∧ (V 90 v1.toNat) < (17400 : Int) then if 0 ≤ (V 62 74) ∧ (V 62 74) < (36 : Int) then if 0 ≤ (V 90 v1.toNat) ∧ (V 90 v1.toNat) < (17400 : Int) then some (up (up (up (up (up (up (up V 86 v1.toNat 0) 105 ((V 90 v1.toNat).toNat) v2) 106 ((V 90 v1.toNat).toNat) (w32 ((V 62 24) - (w32 (Int.tdiv (w32 (v2 - (V 104 ((V 90 v1.toNat).toNat)))) (V 62 25)))))) 107 ((V 90 v1.toNat).toNat) 1) 94 ((V 62 74).toNat) (w32 ((V 94 ((V 62 74).toNat)) - (V 100 ((V 90 v1.toNat).toNat))))) 62 79 (w32 ((V 62 79) + 1))) 62 80 (w32 ((V 62 80) + (V 100 ((V 90 v1.toNat).toNat))))) else none else none else none else none else none else if 0 ≤ (V 90 v1.toNat) ∧ (V 90 v1.toNat) < (17400 : Int) then if 0 ≤ (V 90 v1.toNat) ∧ (V 90 v1.toNat) < (17400 : Int) then if 0 ≤ (V 62 74) ∧ (V 62 74) < (36 : Int) then if (V 95 ((V 62 74).toNat)) = 0 then f_Mo_takes_21 (up (up (up (up (up V 86 v1.toNat 0) 105 ((V 90 v1.toNat).toNat) v2) 106 ((V 90 v1.toNat).toNat) (w32 ((V 62 24) - (w32 (Int.tdiv (w32 (v2 - (V 104 ((V 90 v1.toNat).toNat)))) (V 62 25)))))) 62 75 (V 100 ((V 90 v1.toNat).toNat))) 108 ((V 90 v1.toNat).toNat) (V 62 73)) (V 90 v1.toNat) else if 0 ≤ (V 90 v1.toNat) ∧ (V 90 v1.toNat) < (17400 : Int) then if 0 ≤ (V 62 74) ∧ (V 62 74) < (36 : Int) then if ((up (up (up V 86 v1.toNat 0) 105 ((V 90 v1.toNat).toNat) v2) 106 ((V 90 v1.toNat).toNat) (w32 ((V 62 24) - (w32 (Int.tdiv (w32 (v2 - (V 104 ((V 90 v1.toNat).toNat)))) (V 62 25)))))) 106 ((V 90 v1.toNat).toNat)) < (V 98 ((V 62 74).toNat)) then f_Mo_takes_21 (up (up (up (up (up V 86 v1.toNat 0) 105 ((V 90 v1.toNat).toNat) v2) 106 ((V 90 v1.toNat).toNat) (w32 ((V 62 24) - (w32 (Int.tdiv (w32 (v2 - (V 104 ((V 90 v1.toNat).toNat)))) (V 62 25)))))) 62 75 (V 100 ((V 90 v1.toNat).toNat))) 108 ((V 90 v1.toNat).toNat) (V 62 73)) (V 90 v1.toNat) else some (up (up (up (up (up V 86 v1.toNat 0) 105 ((V 90 v1.toNat).toNat) v2) 106 ((V 90 v1.toNat).toNat) (w32 ((V 62 24) - (w32 (Int.tdiv (w32 (v2 - (V 104 ((V 90 v1.toNat).toNat)))) (V 62 25)))))) 62 75 (V 100 ((V 90 v1.toNat).toNat))) 108 ((V 90 v1.toNat).toNat) (V 62 73)) else none else none else none else none else none else none else none else none else none else none else none
set_option maxRecDepth 20000 in
set_option maxHeartbeats 4000000 in
theorem s_Mo_takes {X : Xs} {d : Nat} {V : VV} {h : HP} {v1 : Int} {v2 : Int} {q : VV} (hf : f_Mo_takes V v1 v2 = some q) : Ok X (d + 1) 207 0 ([some (.inr (.inr (.inl 63))), some (.inl v1), some (.inl v2), none], [], mm V h) (fun M r => M = mm q h ∧ r = none) := by
  let QQ : Mm → Option AV → Prop := fun M r => M = mm q h ∧ r = none
  show Ok X (d + 1) 207 0 ([some (.inr (.inr (.inl 63))), some (.inl v1), some (.inl v2), none], [], mm V h) QQ
  by_cases c1 : 0 ≤ v1 ∧ v1 < (16 : Int)
  case neg => replace hf := (if_neg c1).symm.trans hf; cases hf
  replace hf := (if_pos c1).symm.trans hf
  refine ok_iald (i := v1) (id := 90) (n := 16) (L := [some (.inr (.inr (.inl 63))), some (.inl v1), some (.inl v2), none]) (S := []) (M := mm V h) rfl rfl rfl c1.1 c1.2 ?_
  by_cases c2 : 0 ≤ v1 ∧ v1 < (16 : Int)
  case neg => replace hf := (if_neg c2).symm.trans hf; cases hf
  replace hf := (if_pos c2).symm.trans hf
  refine ok_iast (i := v1) (v := 0) (id := 86) (n := 16) (L := [some (.inr (.inr (.inl 63))), some (.inl v1), some (.inl v2), some (.inl (V 90 v1.toNat))]) (S := []) (M := mm V h) rfl rfl rfl c2.1 c2.2 ?_
  by_cases c3 : 0 ≤ (V 90 v1.toNat) ∧ (V 90 v1.toNat) < (17400 : Int)
  case neg => replace hf := (if_neg c3).symm.trans hf; cases hf
  replace hf := (if_pos c3).symm.trans hf
  refine ok_iast (i := V 90 v1.toNat) (v := v2) (id := 105) (n := 17400) (L := [some (.inr (.inr (.inl 63))), some (.inl v1), some (.inl v2), some (.inl (V 90 v1.toNat))]) (S := []) (M := mm (up V 86 v1.toNat 0) h) rfl rfl rfl c3.1 c3.2 ?_
  by_cases c4 : 0 ≤ (V 90 v1.toNat) ∧ (V 90 v1.toNat) < (17400 : Int)
  case neg => replace hf := (if_neg c4).symm.trans hf; cases hf
  replace hf := (if_pos c4).symm.trans hf
  refine ok_iald (i := V 90 v1.toNat) (id := 104) (n := 17400) (L := [some (.inr (.inr (.inl 63))), some (.inl v1), some (.inl v2), some (.inl (V 90 v1.toNat))]) (S := [.inl v2, .inl (V 62 24), .inl (V 90 v1.toNat), .inr (.inr (.inl 107))]) (M := mm (up (up V 86 v1.toNat 0) 105 ((V 90 v1.toNat).toNat) v2) h) rfl rfl rfl c4.1 c4.2 ?_
  by_cases c5 : (V 62 25) = 0
  case pos => replace hf := (if_pos c5).symm.trans hf; cases hf
  replace hf := (if_neg c5).symm.trans hf
  refine ok_idiv (u := w32 (v2 - (V 104 ((V 90 v1.toNat).toNat)))) (v := V 62 25) (L := [some (.inr (.inr (.inl 63))), some (.inl v1), some (.inl v2), some (.inl (V 90 v1.toNat))]) (S := [.inl (V 62 24), .inl (V 90 v1.toNat), .inr (.inr (.inl 107))]) (M := mm (up (up V 86 v1.toNat 0) 105 ((V 90 v1.toNat).toNat) v2) h) rfl rfl c5 ?_
  by_cases c6 : 0 ≤ (V 90 v1.toNat) ∧ (V 90 v1.toNat) < (17400 : Int)
  case neg => replace hf := (if_neg c6).symm.trans hf; cases hf
  replace hf := (if_pos c6).symm.trans hf
  refine ok_iast (i := V 90 v1.toNat) (v := w32 ((V 62 24) - (w32 (Int.tdiv (w32 (v2 - (V 104 ((V 90 v1.toNat).toNat)))) (V 62 25))))) (id := 106) (n := 17400) (L := [some (.inr (.inr (.inl 63))), some (.inl v1), some (.inl v2), some (.inl (V 90 v1.toNat))]) (S := []) (M := mm (up (up V 86 v1.toNat 0) 105 ((V 90 v1.toNat).toNat) v2) h) rfl rfl rfl c6.1 c6.2 ?_
  by_cases c7 : 0 ≤ (V 90 v1.toNat) ∧ (V 90 v1.toNat) < (17400 : Int)
  case neg => replace hf := (if_neg c7).symm.trans hf; cases hf
  replace hf := (if_pos c7).symm.trans hf
  refine ok_iald (i := V 90 v1.toNat) (id := 106) (n := 17400) (L := [some (.inr (.inr (.inl 63))), some (.inl v1), some (.inl v2), some (.inl (V 90 v1.toNat))]) (S := []) (M := mm (up (up (up V 86 v1.toNat 0) 105 ((V 90 v1.toNat).toNat) v2) 106 ((V 90 v1.toNat).toNat) (w32 ((V 62 24) - (w32 (Int.tdiv (w32 (v2 - (V 104 ((V 90 v1.toNat).toNat)))) (V 62 25)))))) h) rfl rfl rfl c7.1 c7.2 ?_
  refine ok_ic_ge (x := (up (up (up V 86 v1.toNat 0) 105 ((V 90 v1.toNat).toNat) v2) 106 ((V 90 v1.toNat).toNat) (w32 ((V 62 24) - (w32 (Int.tdiv (w32 (v2 - (V 104 ((V 90 v1.toNat).toNat)))) (V 62 25)))))) 106 ((V 90 v1.toNat).toNat)) (u := V 62 26) (L := [some (.inr (.inr (.inl 63))), some (.inl v1), some (.inl v2), some (.inl (V 90 v1.toNat))]) (S := []) (M := mm (up (up (up V 86 v1.toNat 0) 105 ((V 90 v1.toNat).toNat) v2) 106 ((V 90 v1.toNat).toNat) (w32 ((V 62 24) - (w32 (Int.tdiv (w32 (v2 - (V 104 ((V 90 v1.toNat).toNat)))) (V 62 25)))))) h) rfl rfl (fun c8 => ?_) (fun c8 => ?_)
  ·
    replace hf := (if_neg (Int.not_lt.mpr c8)).symm.trans hf
    by_cases c9 : 0 ≤ (V 90 v1.toNat) ∧ (V 90 v1.toNat) < (17400 : Int)
    case neg => replace hf := (if_neg c9).symm.trans hf; cases hf
    replace hf := (if_pos c9).symm.trans hf
    refine ok_iald (i := V 90 v1.toNat) (id := 100) (n := 17400) (L := [some (.inr (.inr (.inl 63))), some (.inl v1), some (.inl v2), some (.inl (V 90 v1.toNat))]) (S := [.inr (.inr (.inl 63))]) (M := mm (up (up (up V 86 v1.toNat 0) 105 ((V 90 v1.toNat).toNat) v2) 106 ((V 90 v1.toNat).toNat) (w32 ((V 62 24) - (w32 (Int.tdiv (w32 (v2 - (V 104 ((V 90 v1.toNat).toNat)))) (V 62 25)))))) h) rfl rfl rfl c9.1 c9.2 ?_
    by_cases c10 : 0 ≤ (V 90 v1.toNat) ∧ (V 90 v1.toNat) < (17400 : Int)
    case neg => replace hf := (if_neg c10).symm.trans hf; cases hf
    replace hf := (if_pos c10).symm.trans hf
    refine ok_iast (i := V 90 v1.toNat) (v := V 62 73) (id := 108) (n := 17400) (L := [some (.inr (.inr (.inl 63))), some (.inl v1), some (.inl v2), some (.inl (V 90 v1.toNat))]) (S := []) (M := mm (up (up (up (up V 86 v1.toNat 0) 105 ((V 90 v1.toNat).toNat) v2) 106 ((V 90 v1.toNat).toNat) (w32 ((V 62 24) - (w32 (Int.tdiv (w32 (v2 - (V 104 ((V 90 v1.toNat).toNat)))) (V 62 25)))))) 62 75 (V 100 ((V 90 v1.toNat).toNat))) h) rfl rfl rfl c10.1 c10.2 ?_
    by_cases c11 : 0 ≤ (V 62 74) ∧ (V 62 74) < (36 : Int)
    case neg => replace hf := (if_neg c11).symm.trans hf; cases hf
    replace hf := (if_pos c11).symm.trans hf
    refine ok_iald (i := V 62 74) (id := 95) (n := 36) (L := [some (.inr (.inr (.inl 63))), some (.inl v1), some (.inl v2), some (.inl (V 90 v1.toNat))]) (S := []) (M := mm (up (up (up (up (up V 86 v1.toNat 0) 105 ((V 90 v1.toNat).toNat) v2) 106 ((V 90 v1.toNat).toNat) (w32 ((V 62 24) - (w32 (Int.tdiv (w32 (v2 - (V 104 ((V 90 v1.toNat).toNat)))) (V 62 25)))))) 62 75 (V 100 ((V 90 v1.toNat).toNat))) 108 ((V 90 v1.toNat).toNat) (V 62 73)) h) rfl rfl rfl c11.1 c11.2 ?_
    refine ok_if_eq (x := V 95 ((V 62 74).toNat)) (L := [some (.inr (.inr (.inl 63))), some (.inl v1), some (.inl v2), some (.inl (V 90 v1.toNat))]) (S := []) (M := mm (up (up (up (up (up V 86 v1.toNat 0) 105 ((V 90 v1.toNat).toNat) v2) 106 ((V 90 v1.toNat).toNat) (w32 ((V 62 24) - (w32 (Int.tdiv (w32 (v2 - (V 104 ((V 90 v1.toNat).toNat)))) (V 62 25)))))) 62 75 (V 100 ((V 90 v1.toNat).toNat))) 108 ((V 90 v1.toNat).toNat) (V 62 73)) h) rfl rfl (fun c12 => ?_) (fun c12 => ?_)
    ·
      replace hf := (if_pos c12).symm.trans hf
      exact s_Mo_takes_21 hf
    ·
      replace hf := (if_neg c12).symm.trans hf
      by_cases c13 : 0 ≤ (V 90 v1.toNat) ∧ (V 90 v1.toNat) < (17400 : Int)
      case neg => replace hf := (if_neg c13).symm.trans hf; cases hf
      replace hf := (if_pos c13).symm.trans hf
      refine ok_iald (i := V 90 v1.toNat) (id := 106) (n := 17400) (L := [some (.inr (.inr (.inl 63))), some (.inl v1), some (.inl v2), some (.inl (V 90 v1.toNat))]) (S := []) (M := mm (up (up (up (up (up V 86 v1.toNat 0) 105 ((V 90 v1.toNat).toNat) v2) 106 ((V 90 v1.toNat).toNat) (w32 ((V 62 24) - (w32 (Int.tdiv (w32 (v2 - (V 104 ((V 90 v1.toNat).toNat)))) (V 62 25)))))) 62 75 (V 100 ((V 90 v1.toNat).toNat))) 108 ((V 90 v1.toNat).toNat) (V 62 73)) h) rfl rfl rfl c13.1 c13.2 ?_
      by_cases c14 : 0 ≤ (V 62 74) ∧ (V 62 74) < (36 : Int)
      case neg => replace hf := (if_neg c14).symm.trans hf; cases hf
      replace hf := (if_pos c14).symm.trans hf
      refine ok_iald (i := V 62 74) (id := 98) (n := 36) (L := [some (.inr (.inr (.inl 63))), some (.inl v1), some (.inl v2), some (.inl (V 90 v1.toNat))]) (S := [.inl ((up (up (up V 86 v1.toNat 0) 105 ((V 90 v1.toNat).toNat) v2) 106 ((V 90 v1.toNat).toNat) (w32 ((V 62 24) - (w32 (Int.tdiv (w32 (v2 - (V 104 ((V 90 v1.toNat).toNat)))) (V 62 25)))))) 106 ((V 90 v1.toNat).toNat))]) (M := mm (up (up (up (up (up V 86 v1.toNat 0) 105 ((V 90 v1.toNat).toNat) v2) 106 ((V 90 v1.toNat).toNat) (w32 ((V 62 24) - (w32 (Int.tdiv (w32 (v2 - (V 104 ((V 90 v1.toNat).toNat)))) (V 62 25)))))) 62 75 (V 100 ((V 90 v1.toNat).toNat))) 108 ((V 90 v1.toNat).toNat) (V 62 73)) h) rfl rfl rfl c14.1 c14.2 ?_
      refine ok_ic_ge (x := (up (up (up V 86 v1.toNat 0) 105 ((V 90 v1.toNat).toNat) v2) 106 ((V 90 v1.toNat).toNat) (w32 ((V 62 24) - (w32 (Int.tdiv (w32 (v2 - (V 104 ((V 90 v1.toNat).toNat)))) (V 62 25)))))) 106 ((V 90 v1.toNat).toNat)) (u := V 98 ((V 62 74).toNat)) (L := [some (.inr (.inr (.inl 63))), some (.inl v1), some (.inl v2), some (.inl (V 90 v1.toNat))]) (S := []) (M := mm (up (up (up (up (up V 86 v1.toNat 0) 105 ((V 90 v1.toNat).toNat) v2) 106 ((V 90 v1.toNat).toNat) (w32 ((V 62 24) - (w32 (Int.tdiv (w32 (v2 - (V 104 ((V 90 v1.toNat).toNat)))) (V 62 25)))))) 62 75 (V 100 ((V 90 v1.toNat).toNat))) 108 ((V 90 v1.toNat).toNat) (V 62 73)) h) rfl rfl (fun c15 => ?_) (fun c15 => ?_)
      ·
        replace hf := (if_neg (Int.not_lt.mpr c15)).symm.trans hf
        obtain rfl := Option.some.inj hf
        refine ok_return (L := [some (.inr (.inr (.inl 63))), some (.inl v1), some (.inl v2), some (.inl (V 90 v1.toNat))]) (M := mm (up (up (up (up (up V 86 v1.toNat 0) 105 ((V 90 v1.toNat).toNat) v2) 106 ((V 90 v1.toNat).toNat) (w32 ((V 62 24) - (w32 (Int.tdiv (w32 (v2 - (V 104 ((V 90 v1.toNat).toNat)))) (V 62 25)))))) 62 75 (V 100 ((V 90 v1.toNat).toNat))) 108 ((V 90 v1.toNat).toNat) (V 62 73)) h) rfl rfl ?_
        exact ⟨rfl, rfl⟩
      ·
        replace hf := (if_pos c15).symm.trans hf
        exact s_Mo_takes_21 hf
  ·
    replace hf := (if_pos c8).symm.trans hf
    by_cases c16 : 0 ≤ (V 90 v1.toNat) ∧ (V 90 v1.toNat) < (17400 : Int)
    case neg => replace hf := (if_neg c16).symm.trans hf; cases hf
    replace hf := (if_pos c16).symm.trans hf
    refine ok_zast (i := V 90 v1.toNat) (v := 1) (id := 107) (n := 17400) (L := [some (.inr (.inr (.inl 63))), some (.inl v1), some (.inl v2), some (.inl (V 90 v1.toNat))]) (S := []) (M := mm (up (up (up V 86 v1.toNat 0) 105 ((V 90 v1.toNat).toNat) v2) 106 ((V 90 v1.toNat).toNat) (w32 ((V 62 24) - (w32 (Int.tdiv (w32 (v2 - (V 104 ((V 90 v1.toNat).toNat)))) (V 62 25)))))) h) rfl rfl rfl c16.1 c16.2 (by first | exact Or.inl rfl | exact Or.inr rfl) ?_
    by_cases c17 : 0 ≤ (V 62 74) ∧ (V 62 74) < (36 : Int)
    case neg => replace hf := (if_neg c17).symm.trans hf; cases hf
    replace hf := (if_pos c17).symm.trans hf
    refine ok_iald (i := V 62 74) (id := 94) (n := 36) (L := [some (.inr (.inr (.inl 63))), some (.inl v1), some (.inl v2), some (.inl (V 90 v1.toNat))]) (S := [.inl (V 62 74), .inr (.inr (.inl 95))]) (M := mm (up (up (up (up V 86 v1.toNat 0) 105 ((V 90 v1.toNat).toNat) v2) 106 ((V 90 v1.toNat).toNat) (w32 ((V 62 24) - (w32 (Int.tdiv (w32 (v2 - (V 104 ((V 90 v1.toNat).toNat)))) (V 62 25)))))) 107 ((V 90 v1.toNat).toNat) 1) h) rfl rfl rfl c17.1 c17.2 ?_
    by_cases c18 : 0 ≤ (V 90 v1.toNat) ∧ (V 90 v1.toNat) < (17400 : Int)
    case neg => replace hf := (if_neg c18).symm.trans hf; cases hf
    replace hf := (if_pos c18).symm.trans hf
    refine ok_iald (i := V 90 v1.toNat) (id := 100) (n := 17400) (L := [some (.inr (.inr (.inl 63))), some (.inl v1), some (.inl v2), some (.inl (V 90 v1.toNat))]) (S := [.inl (V 94 ((V 62 74).toNat)), .inl (V 62 74), .inr (.inr (.inl 95))]) (M := mm (up (up (up (up V 86 v1.toNat 0) 105 ((V 90 v1.toNat).toNat) v2) 106 ((V 90 v1.toNat).toNat) (w32 ((V 62 24) - (w32 (Int.tdiv (w32 (v2 - (V 104 ((V 90 v1.toNat).toNat)))) (V 62 25)))))) 107 ((V 90 v1.toNat).toNat) 1) h) rfl rfl rfl c18.1 c18.2 ?_
    by_cases c19 : 0 ≤ (V 62 74) ∧ (V 62 74) < (36 : Int)
    case neg => replace hf := (if_neg c19).symm.trans hf; cases hf
    replace hf := (if_pos c19).symm.trans hf
    refine ok_iast (i := V 62 74) (v := w32 ((V 94 ((V 62 74).toNat)) - (V 100 ((V 90 v1.toNat).toNat)))) (id := 94) (n := 36) (L := [some (.inr (.inr (.inl 63))), some (.inl v1), some (.inl v2), some (.inl (V 90 v1.toNat))]) (S := []) (M := mm (up (up (up (up V 86 v1.toNat 0) 105 ((V 90 v1.toNat).toNat) v2) 106 ((V 90 v1.toNat).toNat) (w32 ((V 62 24) - (w32 (Int.tdiv (w32 (v2 - (V 104 ((V 90 v1.toNat).toNat)))) (V 62 25)))))) 107 ((V 90 v1.toNat).toNat) 1) h) rfl rfl rfl c19.1 c19.2 ?_
    by_cases c20 : 0 ≤ (V 90 v1.toNat) ∧ (V 90 v1.toNat) < (17400 : Int)
    case neg => replace hf := (if_neg c20).symm.trans hf; cases hf
    replace hf := (if_pos c20).symm.trans hf
    refine ok_iald (i := V 90 v1.toNat) (id := 100) (n := 17400) (L := [some (.inr (.inr (.inl 63))), some (.inl v1), some (.inl v2), some (.inl (V 90 v1.toNat))]) (S := [.inl (V 62 80), .inr (.inr (.inl 63))]) (M := mm (up (up (up (up (up (up V 86 v1.toNat 0) 105 ((V 90 v1.toNat).toNat) v2) 106 ((V 90 v1.toNat).toNat) (w32 ((V 62 24) - (w32 (Int.tdiv (w32 (v2 - (V 104 ((V 90 v1.toNat).toNat)))) (V 62 25)))))) 107 ((V 90 v1.toNat).toNat) 1) 94 ((V 62 74).toNat) (w32 ((V 94 ((V 62 74).toNat)) - (V 100 ((V 90 v1.toNat).toNat))))) 62 79 (w32 ((V 62 79) + 1))) h) rfl rfl rfl c20.1 c20.2 ?_
    obtain rfl := Option.some.inj hf
    refine ok_return (L := [some (.inr (.inr (.inl 63))), some (.inl v1), some (.inl v2), some (.inl (V 90 v1.toNat))]) (M := mm (up (up (up (up (up (up (up V 86 v1.toNat 0) 105 ((V 90 v1.toNat).toNat) v2) 106 ((V 90 v1.toNat).toNat) (w32 ((V 62 24) - (w32 (Int.tdiv (w32 (v2 - (V 104 ((V 90 v1.toNat).toNat)))) (V 62 25)))))) 107 ((V 90 v1.toNat).toNat) 1) 94 ((V 62 74).toNat) (w32 ((V 94 ((V 62 74).toNat)) - (V 100 ((V 90 v1.toNat).toNat))))) 62 79 (w32 ((V 62 79) + 1))) 62 80 (w32 ((V 62 80) + (V 100 ((V 90 v1.toNat).toNat))))) h) rfl rfl ?_
    exact ⟨rfl, rfl⟩
def f_Mo_cool_21 (k11 : VV → Int → Int → Int → (Option (VV))) : Nat → VV → Int → Int → Int → Int → (Option (VV))
  | 0, _, _, _, _, _ => none
  | n + 1, V, v1, v2, v3, v5 => if v5 < 4 then if 0 ≤ v5 ∧ v5 < (5 : Int) then if 0 ≤ (w32 (v5 + 1)) ∧ (w32 (v5 + 1)) < (5 : Int) then if 0 ≤ v5 ∧ v5 < (5 : Int) then if 0 ≤ v5 ∧ v5 < (5 : Int) then if 0 ≤ (w32 (v5 + 1)) ∧ (w32 (v5 + 1)) < (5 : Int) then if 0 ≤ (w32 (v5 + 1)) ∧ (w32 (v5 + 1)) < (5 : Int) then f_Mo_cool_21 k11 n (up (up V 110 v5.toNat (w32 ((V 110 v5.toNat) - (w32 (Int.tdiv (w32 ((w32 ((V 111 v5.toNat) - (V 111 ((w32 (v5 + 1)).toNat)))) * v2)) 1000))))) 110 ((w32 (v5 + 1)).toNat) (w32 (((up V 110 v5.toNat (w32 ((V 110 v5.toNat) - (w32 (Int.tdiv (w32 ((w32 ((V 111 v5.toNat) - (V 111 ((w32 (v5 + 1)).toNat)))) * v2)) 1000))))) 110 ((w32 (v5 + 1)).toNat)) + (w32 (Int.tdiv (w32 ((w32 ((V 111 v5.toNat) - (V 111 ((w32 (v5 + 1)).toNat)))) * v2)) 1000))))) v1 v2 v3 (w32 (v5 + 1)) else none else none else none else none else none else none else k11 (up (up V 110 0 (w32 ((V 110 0) - (w32 (Int.tdiv (w32 ((w32 ((V 111 0) - (V 62 29))) * (V 62 31))) 1000))))) 110 4 (w32 ((V 110 4) - (w32 (Int.tdiv (w32 ((w32 ((V 111 4) - (V 62 30))) * (V 62 32))) 1000))))) v1 v2 (w32 (v3 + 1))
set_option maxRecDepth 20000 in
set_option maxHeartbeats 4000000 in
theorem s_Mo_cool_21_n {X : Xs} {d : Nat} {k11 : VV → Int → Int → Int → (Option (VV))} {h : HP} {q : VV} (K11 : ∀ (V : VV) (v1 : Int) (v2 : Int) (v3 : Int) (z4 : Option AV) (z5 : Option AV) (z6 : Option AV), k11 V v1 v2 v3 = some q → Ok X (d + 1) 208 11 ([some (.inr (.inr (.inl 63))), some (.inl v1), some (.inl v2), some (.inl v3), z4, z5, z6], [], mm V h) (fun M r => M = mm q h ∧ r = none)) : ∀ (n : Nat) (V : VV) (v1 : Int) (v2 : Int) (v3 : Int) (v5 : Int) (w4 : Int) (z6 : Option AV), f_Mo_cool_21 k11 n V v1 v2 v3 v5 = some q → Ok X (d + 1) 208 21 ([some (.inr (.inr (.inl 63))), some (.inl v1), some (.inl v2), some (.inl v3), some (.inl w4), some (.inl v5), z6], [], mm V h) (fun M r => M = mm q h ∧ r = none) := by
  intro n
  induction n with
  | zero => intro V v1 v2 v3 v5 w4 z6 hf; cases hf
  | succ n ih =>
    intro V v1 v2 v3 v5 w4 z6 hf
    let QQ : Mm → Option AV → Prop := fun M r => M = mm q h ∧ r = none
    show Ok X (d + 1) 208 21 ([some (.inr (.inr (.inl 63))), some (.inl v1), some (.inl v2), some (.inl v3), some (.inl w4), some (.inl v5), z6], [], mm V h) QQ
    refine ok_ic_ge (x := v5) (u := 4) (L := [some (.inr (.inr (.inl 63))), some (.inl v1), some (.inl v2), some (.inl v3), some (.inl w4), some (.inl v5), z6]) (S := []) (M := mm V h) rfl rfl (fun c1 => ?_) (fun c1 => ?_)
    ·
      replace hf := (if_neg (Int.not_lt.mpr c1)).symm.trans hf
      refine ok_iald (i := 0) (id := 110) (n := 5) (L := [some (.inr (.inr (.inl 63))), some (.inl v1), some (.inl v2), some (.inl v3), some (.inl w4), some (.inl v5), z6]) (S := [.inl 0, .inr (.inr (.inl 111))]) (M := mm V h) rfl rfl rfl (by decide) (by decide) ?_
      refine ok_iald (i := 0) (id := 111) (n := 5) (L := [some (.inr (.inr (.inl 63))), some (.inl v1), some (.inl v2), some (.inl v3), some (.inl w4), some (.inl v5), z6]) (S := [.inl (V 110 0), .inl 0, .inr (.inr (.inl 111))]) (M := mm V h) rfl rfl rfl (by decide) (by decide) ?_
      refine ok_idiv (u := w32 ((w32 ((V 111 0) - (V 62 29))) * (V 62 31))) (v := 1000) (L := [some (.inr (.inr (.inl 63))), some (.inl v1), some (.inl v2), some (.inl v3), some (.inl w4), some (.inl v5), z6]) (S := [.inl (V 110 0), .inl 0, .inr (.inr (.inl 111))]) (M := mm V h) rfl rfl (by decide) ?_
      refine ok_iast (i := 0) (v := w32 ((V 110 0) - (w32 (Int.tdiv (w32 ((w32 ((V 111 0) - (V 62 29))) * (V 62 31))) 1000)))) (id := 110) (n := 5) (L := [some (.inr (.inr (.inl 63))), some (.inl v1), some (.inl v2), some (.inl v3), some (.inl w4), some (.inl v5), z6]) (S := []) (M := mm V h) rfl rfl rfl (by decide) (by decide) ?_
      refine ok_iald (i := 4) (id := 110) (n := 5) (L := [some (.inr (.inr (.inl 63))), some (.inl v1), some (.inl v2), some (.inl v3), some (.inl w4), some (.inl v5), z6]) (S := [.inl 4, .inr (.inr (.inl 111))]) (M := mm (up V 110 0 (w32 ((V 110 0) - (w32 (Int.tdiv (w32 ((w32 ((V 111 0) - (V 62 29))) * (V 62 31))) 1000))))) h) rfl rfl rfl (by decide) (by decide) ?_
      refine ok_iald (i := 4) (id := 111) (n := 5) (L := [some (.inr (.inr (.inl 63))), some (.inl v1), some (.inl v2), some (.inl v3), some (.inl w4), some (.inl v5), z6]) (S := [.inl (V 110 4), .inl 4, .inr (.inr (.inl 111))]) (M := mm (up V 110 0 (w32 ((V 110 0) - (w32 (Int.tdiv (w32 ((w32 ((V 111 0) - (V 62 29))) * (V 62 31))) 1000))))) h) rfl rfl rfl (by decide) (by decide) ?_
      refine ok_idiv (u := w32 ((w32 ((V 111 4) - (V 62 30))) * (V 62 32))) (v := 1000) (L := [some (.inr (.inr (.inl 63))), some (.inl v1), some (.inl v2), some (.inl v3), some (.inl w4), some (.inl v5), z6]) (S := [.inl (V 110 4), .inl 4, .inr (.inr (.inl 111))]) (M := mm (up V 110 0 (w32 ((V 110 0) - (w32 (Int.tdiv (w32 ((w32 ((V 111 0) - (V 62 29))) * (V 62 31))) 1000))))) h) rfl rfl (by decide) ?_
      refine ok_iast (i := 4) (v := w32 ((V 110 4) - (w32 (Int.tdiv (w32 ((w32 ((V 111 4) - (V 62 30))) * (V 62 32))) 1000)))) (id := 110) (n := 5) (L := [some (.inr (.inr (.inl 63))), some (.inl v1), some (.inl v2), some (.inl v3), some (.inl w4), some (.inl v5), z6]) (S := []) (M := mm (up V 110 0 (w32 ((V 110 0) - (w32 (Int.tdiv (w32 ((w32 ((V 111 0) - (V 62 29))) * (V 62 31))) 1000))))) h) rfl rfl rfl (by decide) (by decide) ?_
      refine ok_goto (L := [some (.inr (.inr (.inl 63))), some (.inl v1), some (.inl v2), some (.inl (w32 (v3 + 1))), some (.inl w4), some (.inl v5), z6]) (S := []) (M := mm (up (up V 110 0 (w32 ((V 110 0) - (w32 (Int.tdiv (w32 ((w32 ((V 111 0) - (V 62 29))) * (V 62 31))) 1000))))) 110 4 (w32 ((V 110 4) - (w32 (Int.tdiv (w32 ((w32 ((V 111 4) - (V 62 30))) * (V 62 32))) 1000))))) h) rfl rfl ?_
      exact K11 (up (up V 110 0 (w32 ((V 110 0) - (w32 (Int.tdiv (w32 ((w32 ((V 111 0) - (V 62 29))) * (V 62 31))) 1000))))) 110 4 (w32 ((V 110 4) - (w32 (Int.tdiv (w32 ((w32 ((V 111 4) - (V 62 30))) * (V 62 32))) 1000))))) v1 v2 (w32 (v3 + 1)) (some (.inl w4)) (some (.inl v5)) z6 hf
    ·
      replace hf := (if_pos c1).symm.trans hf
      by_cases c10 : 0 ≤ v5 ∧ v5 < (5 : Int)
      case neg => replace hf := (if_neg c10).symm.trans hf; cases hf
      replace hf := (if_pos c10).symm.trans hf
      refine ok_iald (i := v5) (id := 111) (n := 5) (L := [some (.inr (.inr (.inl 63))), some (.inl v1), some (.inl v2), some (.inl v3), some (.inl w4), some (.inl v5), z6]) (S := []) (M := mm V h) rfl rfl rfl c10.1 c10.2 ?_
      by_cases c11 : 0 ≤ (w32 (v5 + 1)) ∧ (w32 (v5 + 1)) < (5 : Int)
      case neg => replace hf := (if_neg c11).symm.trans hf; cases hf
      replace hf := (if_pos c11).symm.trans hf
      refine ok_iald (i := w32 (v5 + 1)) (id := 111) (n := 5) (L := [some (.inr (.inr (.inl 63))), some (.inl v1), some (.inl v2), some (.inl v3), some (.inl w4), some (.inl v5), z6]) (S := [.inl (V 111 v5.toNat)]) (M := mm V h) rfl rfl rfl c11.1 c11.2 ?_
      refine ok_idiv (u := w32 ((w32 ((V 111 v5.toNat) - (V 111 ((w32 (v5 + 1)).toNat)))) * v2)) (v := 1000) (L := [some (.inr (.inr (.inl 63))), some (.inl v1), some (.inl v2), some (.inl v3), some (.inl w4), some (.inl v5), z6]) (S := []) (M := mm V h) rfl rfl (by decide) ?_
      by_cases c13 : 0 ≤ v5 ∧ v5 < (5 : Int)
      case neg => replace hf := (if_neg c13).symm.trans hf; cases hf
      replace hf := (if_pos c13).symm.trans hf
      refine ok_iald (i := v5) (id := 110) (n := 5) (L := [some (.inr (.inr (.inl 63))), some (.inl v1), some (.inl v2), some (.inl v3), some (.inl w4), some (.inl v5), some (.inl (w32 (Int.tdiv (w32 ((w32 ((V 111 v5.toNat) - (V 111 ((w32 (v5 + 1)).toNat)))) * v2)) 1000)))]) (S := [.inl v5, .inr (.inr (.inl 111))]) (M := mm V h) rfl rfl rfl c13.1 c13.2 ?_
      by_cases c14 : 0 ≤ v5 ∧ v5 < (5 : Int)
      case neg => replace hf := (if_neg c14).symm.trans hf; cases hf
      replace hf := (if_pos c14).symm.trans hf
      refine ok_iast (i := v5) (v := w32 ((V 110 v5.toNat) - (w32 (Int.tdiv (w32 ((w32 ((V 111 v5.toNat) - (V 111 ((w32 (v5 + 1)).toNat)))) * v2)) 1000)))) (id := 110) (n := 5) (L := [some (.inr (.inr (.inl 63))), some (.inl v1), some (.inl v2), some (.inl v3), some (.inl w4), some (.inl v5), some (.inl (w32 (Int.tdiv (w32 ((w32 ((V 111 v5.toNat) - (V 111 ((w32 (v5 + 1)).toNat)))) * v2)) 1000)))]) (S := []) (M := mm V h) rfl rfl rfl c14.1 c14.2 ?_
      by_cases c15 : 0 ≤ (w32 (v5 + 1)) ∧ (w32 (v5 + 1)) < (5 : Int)
      case neg => replace hf := (if_neg c15).symm.trans hf; cases hf
      replace hf := (if_pos c15).symm.trans hf
      refine ok_iald (i := w32 (v5 + 1)) (id := 110) (n := 5) (L := [some (.inr (.inr (.inl 63))), some (.inl v1), some (.inl v2), some (.inl v3), some (.inl w4), some (.inl v5), some (.inl (w32 (Int.tdiv (w32 ((w32 ((V 111 v5.toNat) - (V 111 ((w32 (v5 + 1)).toNat)))) * v2)) 1000)))]) (S := [.inl (w32 (v5 + 1)), .inr (.inr (.inl 111))]) (M := mm (up V 110 v5.toNat (w32 ((V 110 v5.toNat) - (w32 (Int.tdiv (w32 ((w32 ((V 111 v5.toNat) - (V 111 ((w32 (v5 + 1)).toNat)))) * v2)) 1000))))) h) rfl rfl rfl c15.1 c15.2 ?_
      by_cases c16 : 0 ≤ (w32 (v5 + 1)) ∧ (w32 (v5 + 1)) < (5 : Int)
      case neg => replace hf := (if_neg c16).symm.trans hf; cases hf
      replace hf := (if_pos c16).symm.trans hf
      refine ok_iast (i := w32 (v5 + 1)) (v := w32 (((up V 110 v5.toNat (w32 ((V 110 v5.toNat) - (w32 (Int.tdiv (w32 ((w32 ((V 111 v5.toNat) - (V 111 ((w32 (v5 + 1)).toNat)))) * v2)) 1000))))) 110 ((w32 (v5 + 1)).toNat)) + (w32 (Int.tdiv (w32 ((w32 ((V 111 v5.toNat) - (V 111 ((w32 (v5 + 1)).toNat)))) * v2)) 1000)))) (id := 110) (n := 5) (L := [some (.inr (.inr (.inl 63))), some (.inl v1), some (.inl v2), some (.inl v3), some (.inl w4), some (.inl v5), some (.inl (w32 (Int.tdiv (w32 ((w32 ((V 111 v5.toNat) - (V 111 ((w32 (v5 + 1)).toNat)))) * v2)) 1000)))]) (S := []) (M := mm (up V 110 v5.toNat (w32 ((V 110 v5.toNat) - (w32 (Int.tdiv (w32 ((w32 ((V 111 v5.toNat) - (V 111 ((w32 (v5 + 1)).toNat)))) * v2)) 1000))))) h) rfl rfl rfl c16.1 c16.2 ?_
      refine ok_goto (L := [some (.inr (.inr (.inl 63))), some (.inl v1), some (.inl v2), some (.inl v3), some (.inl w4), some (.inl (w32 (v5 + 1))), some (.inl (w32 (Int.tdiv (w32 ((w32 ((V 111 v5.toNat) - (V 111 ((w32 (v5 + 1)).toNat)))) * v2)) 1000)))]) (S := []) (M := mm (up (up V 110 v5.toNat (w32 ((V 110 v5.toNat) - (w32 (Int.tdiv (w32 ((w32 ((V 111 v5.toNat) - (V 111 ((w32 (v5 + 1)).toNat)))) * v2)) 1000))))) 110 ((w32 (v5 + 1)).toNat) (w32 (((up V 110 v5.toNat (w32 ((V 110 v5.toNat) - (w32 (Int.tdiv (w32 ((w32 ((V 111 v5.toNat) - (V 111 ((w32 (v5 + 1)).toNat)))) * v2)) 1000))))) 110 ((w32 (v5 + 1)).toNat)) + (w32 (Int.tdiv (w32 ((w32 ((V 111 v5.toNat) - (V 111 ((w32 (v5 + 1)).toNat)))) * v2)) 1000))))) h) rfl rfl ?_
      exact ih (up (up V 110 v5.toNat (w32 ((V 110 v5.toNat) - (w32 (Int.tdiv (w32 ((w32 ((V 111 v5.toNat) - (V 111 ((w32 (v5 + 1)).toNat)))) * v2)) 1000))))) 110 ((w32 (v5 + 1)).toNat) (w32 (((up V 110 v5.toNat (w32 ((V 110 v5.toNat) - (w32 (Int.tdiv (w32 ((w32 ((V 111 v5.toNat) - (V 111 ((w32 (v5 + 1)).toNat)))) * v2)) 1000))))) 110 ((w32 (v5 + 1)).toNat)) + (w32 (Int.tdiv (w32 ((w32 ((V 111 v5.toNat) - (V 111 ((w32 (v5 + 1)).toNat)))) * v2)) 1000))))) v1 v2 v3 (w32 (v5 + 1)) w4 (some (.inl (w32 (Int.tdiv (w32 ((w32 ((V 111 v5.toNat) - (V 111 ((w32 (v5 + 1)).toNat)))) * v2)) 1000)))) hf
theorem s_Mo_cool_21 {X : Xs} {d : Nat} {k11 : VV → Int → Int → Int → (Option (VV))} {h : HP} {V : VV} {v1 : Int} {v2 : Int} {v3 : Int} {v5 : Int} {w4 : Int} {z6 : Option AV} {n : Nat} {q : VV} (hf : f_Mo_cool_21 k11 n V v1 v2 v3 v5 = some q) (K11 : ∀ (V : VV) (v1 : Int) (v2 : Int) (v3 : Int) (z4 : Option AV) (z5 : Option AV) (z6 : Option AV), k11 V v1 v2 v3 = some q → Ok X (d + 1) 208 11 ([some (.inr (.inr (.inl 63))), some (.inl v1), some (.inl v2), some (.inl v3), z4, z5, z6], [], mm V h) (fun M r => M = mm q h ∧ r = none)) : Ok X (d + 1) 208 21 ([some (.inr (.inr (.inl 63))), some (.inl v1), some (.inl v2), some (.inl v3), some (.inl w4), some (.inl v5), z6], [], mm V h) (fun M r => M = mm q h ∧ r = none) :=
  s_Mo_cool_21_n K11 n V v1 v2 v3 v5 w4 z6 hf
def f_Mo_cool_13 (k11 : VV → Int → Int → Int → (Option (VV))) : Nat → VV → Int → Int → Int → Int → Int → (Option (VV))
  | 0, _, _, _, _, _, _ => none
  | n + 1, V, v1, v2, v3, v4, v5 => if v5 < 5 then if 0 ≤ v5 ∧ v5 < (5 : Int) then if 0 ≤ v5 ∧ v5 < (5 : Int) then if 0 ≤ v5 ∧ v5 < (5 : Int) then f_Mo_cool_13 k11 n (up V 111 v5.toNat (V 110 v5.toNat)) v1 v2 v3 (w32 (v4 + (V 110 v5.toNat))) (w32 (v5 + 1)) else none else none else none else if 0 ≤ (w32 ((w32 (601 * v1)) + v3)) ∧ (w32 ((w32 (601 * v1)) + v3)) < (21636 : Int) then f_Mo_cool_21 k11 FU (up V 109 ((w32 ((w32 (601 * v1)) + v3)).toNat) (w16 (w16 (w32 (Int.tdiv v4 5))))) v1 v2 v3 0 else none
set_option maxRecDepth 20000 in
set_option maxHeartbeats 4000000 in
theorem s_Mo_cool_13_n {X : Xs} {d : Nat} {k11 : VV → Int → Int → Int → (Option (VV))} {h : HP} {q : VV} (K11 : ∀ (V : VV) (v1 : Int) (v2 : Int) (v3 : Int) (z4 : Option AV) (z5 : Option AV) (z6 : Option AV), k11 V v1 v2 v3 = some q → Ok X (d + 1) 208 11 ([some (.inr (.inr (.inl 63))), some (.inl v1), some (.inl v2), some (.inl v3), z4, z5, z6], [], mm V h) (fun M r => M = mm q h ∧ r = none)) : ∀ (n : Nat) (V : VV) (v1 : Int) (v2 : Int) (v3 : Int) (v4 : Int) (v5 : Int) (z6 : Option AV), f_Mo_cool_13 k11 n V v1 v2 v3 v4 v5 = some q → Ok X (d + 1) 208 13 ([some (.inr (.inr (.inl 63))), some (.inl v1), some (.inl v2), some (.inl v3), some (.inl v4), some (.inl v5), z6], [], mm V h) (fun M r => M = mm q h ∧ r = none) := by
  intro n
  induction n with
  | zero => intro V v1 v2 v3 v4 v5 z6 hf; cases hf
  | succ n ih =>
    intro V v1 v2 v3 v4 v5 z6 hf
    let QQ : Mm → Option AV → Prop := fun M r => M = mm q h ∧ r = none
    show Ok X (d + 1) 208 13 ([some (.inr (.inr (.inl 63))), some (.inl v1), some (.inl v2), some (.inl v3), some (.inl v4), some (.inl v5), z6], [], mm V h) QQ
    refine ok_ic_ge (x := v5) (u := 5) (L := [some (.inr (.inr (.inl 63))), some (.inl v1), some (.inl v2), some (.inl v3), some (.inl v4), some (.inl v5), z6]) (S := []) (M := mm V h) rfl rfl (fun c1 => ?_) (fun c1 => ?_)
    ·
      replace hf := (if_neg (Int.not_lt.mpr c1)).symm.trans hf
      refine ok_idiv (u := v4) (v := 5) (L := [some (.inr (.inr (.inl 63))), some (.inl v1), some (.inl v2), some (.inl v3), some (.inl v4), some (.inl v5), z6]) (S := [.inl (w32 ((w32 (601 * v1)) + v3)), .inr (.inr (.inl 110))]) (M := mm V h) rfl rfl (by decide) ?_
      by_cases c3 : 0 ≤ (w32 ((w32 (601 * v1)) + v3)) ∧ (w32 ((w32 (601 * v1)) + v3)) < (21636 : Int)
      case neg => replace hf := (if_neg c3).symm.trans hf; cases hf
      replace hf := (if_pos c3).symm.trans hf
      refine ok_sast (i := w32 ((w32 (601 * v1)) + v3)) (v := w16 (w32 (Int.tdiv v4 5))) (id := 109) (n := 21636) (L := [some (.inr (.inr (.inl 63))), some (.inl v1), some (.inl v2), some (.inl v3), some (.inl v4), some (.inl v5), z6]) (S := []) (M := mm V h) rfl rfl rfl c3.1 c3.2 ?_
      refine ok_thru (L := [some (.inr (.inr (.inl 63))), some (.inl v1), some (.inl v2), some (.inl v3), some (.inl v4), some (.inl 0), z6]) (S := []) (M := mm (up V 109 ((w32 ((w32 (601 * v1)) + v3)).toNat) (w16 (w16 (w32 (Int.tdiv v4 5))))) h) rfl rfl ?_
      exact s_Mo_cool_21 hf K11
    ·
      replace hf := (if_pos c1).symm.trans hf
      by_cases c4 : 0 ≤ v5 ∧ v5 < (5 : Int)
      case neg => replace hf := (if_neg c4).symm.trans hf; cases hf
      replace hf := (if_pos c4).symm.trans hf
      refine ok_iald (i := v5) (id := 110) (n := 5) (L := [some (.inr (.inr (.inl 63))), some (.inl v1), some (.inl v2), some (.inl v3), some (.inl v4), some (.inl v5), z6]) (S := [.inl v4]) (M := mm V h) rfl rfl rfl c4.1 c4.2 ?_
      by_cases c5 : 0 ≤ v5 ∧ v5 < (5 : Int)
      case neg => replace hf := (if_neg c5).symm.trans hf; cases hf
      replace hf := (if_pos c5).symm.trans hf
      refine ok_iald (i := v5) (id := 110) (n := 5) (L := [some (.inr (.inr (.inl 63))), some (.inl v1), some (.inl v2), some (.inl v3), some (.inl (w32 (v4 + (V 110 v5.toNat)))), some (.inl v5), z6]) (S := [.inl v5, .inr (.inr (.inl 112))]) (M := mm V h) rfl rfl rfl c5.1 c5.2 ?_
      by_cases c6 : 0 ≤ v5 ∧ v5 < (5 : Int)
      case neg => replace hf := (if_neg c6).symm.trans hf; cases hf
      replace hf := (if_pos c6).symm.trans hf
      refine ok_iast (i := v5) (v := V 110 v5.toNat) (id := 111) (n := 5) (L := [some (.inr (.inr (.inl 63))), some (.inl v1), some (.inl v2), some (.inl v3), some (.inl (w32 (v4 + (V 110 v5.toNat)))), some (.inl v5), z6]) (S := []) (M := mm V h) rfl rfl rfl c6.1 c6.2 ?_
      refine ok_goto (L := [some (.inr (.inr (.inl 63))), some (.inl v1), some (.inl v2), some (.inl v3), some (.inl (w32 (v4 + (V 110 v5.toNat)))), some (.inl (w32 (v5 + 1))), z6]) (S := []) (M := mm (up V 111 v5.toNat (V 110 v5.toNat)) h) rfl rfl ?_
      exact ih (up V 111 v5.toNat (V 110 v5.toNat)) v1 v2 v3 (w32 (v4 + (V 110 v5.toNat))) (w32 (v5 + 1)) z6 hf
theorem s_Mo_cool_13 {X : Xs} {d : Nat} {k11 : VV → Int → Int → Int → (Option (VV))} {h : HP} {V : VV} {v1 : Int} {v2 : Int} {v3 : Int} {v4 : Int} {v5 : Int} {z6 : Option AV} {n : Nat} {q : VV} (hf : f_Mo_cool_13 k11 n V v1 v2 v3 v4 v5 = some q) (K11 : ∀ (V : VV) (v1 : Int) (v2 : Int) (v3 : Int) (z4 : Option AV) (z5 : Option AV) (z6 : Option AV), k11 V v1 v2 v3 = some q → Ok X (d + 1) 208 11 ([some (.inr (.inr (.inl 63))), some (.inl v1), some (.inl v2), some (.inl v3), z4, z5, z6], [], mm V h) (fun M r => M = mm q h ∧ r = none)) : Ok X (d + 1) 208 13 ([some (.inr (.inr (.inl 63))), some (.inl v1), some (.inl v2), some (.inl v3), some (.inl v4), some (.inl v5), z6], [], mm V h) (fun M r => M = mm q h ∧ r = none) :=
  s_Mo_cool_13_n K11 n V v1 v2 v3 v4 v5 z6 hf
def f_Mo_cool_11 : Nat → VV → Int → Int → Int → (Option (VV))
  | 0, _, _, _, _ => none
  | n + 1, V, v1, v2, v3 => if 600 < v3 then some V else f_Mo_cool_13 (f_Mo_cool_11 n) FU V v1 v2 v3 0 0
set_option maxRecDepth 20000 in
set_option maxHeartbeats 4000000 in
theorem s_Mo_cool_11_n {X : Xs} {d : Nat} {h : HP} {q : VV} : ∀ (n : Nat) (V : VV) (v1 : Int) (v2 : Int) (v3 : Int) (z4 : Option AV) (z5 : Option AV) (z6 : Option AV), f_Mo_cool_11 n V v1 v2 v3 = some q → Ok X (d + 1) 208 11 ([some (.inr (.inr (.inl 63))), some (.inl v1), some (.inl v2), some (.inl v3), z4, z5, z6], [], mm V h) (fun M r => M = mm q h ∧ r = none) := by
  intro n
  induction n with
  | zero => intro V v1 v2 v3 z4 z5 z6 hf; cases hf
  | succ n ih =>
    intro V v1 v2 v3 z4 z5 z6 hf
    let QQ : Mm → Option AV → Prop := fun M r => M = mm q h ∧ r = none
    show Ok X (d + 1) 208 11 ([some (.inr (.inr (.inl 63))), some (.inl v1), some (.inl v2), some (.inl v3), z4, z5, z6], [], mm V h) QQ
    refine ok_ic_gt (x := v3) (u := 600) (L := [some (.inr (.inr (.inl 63))), some (.inl v1), some (.inl v2), some (.inl v3), z4, z5, z6]) (S := []) (M := mm V h) rfl rfl (fun c1 => ?_) (fun c1 => ?_)
    ·
      replace hf := (if_pos c1).symm.trans hf
      obtain rfl := Option.some.inj hf
      refine ok_return (L := [some (.inr (.inr (.inl 63))), some (.inl v1), some (.inl v2), some (.inl v3), z4, z5, z6]) (M := mm V h) rfl rfl ?_
      exact ⟨rfl, rfl⟩
    ·
      replace hf := (if_neg (Int.not_lt.mpr c1)).symm.trans hf
      refine ok_thru (L := [some (.inr (.inr (.inl 63))), some (.inl v1), some (.inl v2), some (.inl v3), some (.inl 0), some (.inl 0), z6]) (S := []) (M := mm V h) rfl rfl ?_
      exact s_Mo_cool_13 hf ih
theorem s_Mo_cool_11 {X : Xs} {d : Nat} {h : HP} {V : VV} {v1 : Int} {v2 : Int} {v3 : Int} {z4 : Option AV} {z5 : Option AV} {z6 : Option AV} {n : Nat} {q : VV} (hf : f_Mo_cool_11 n V v1 v2 v3 = some q) : Ok X (d + 1) 208 11 ([some (.inr (.inr (.inl 63))), some (.inl v1), some (.inl v2), some (.inl v3), z4, z5, z6], [], mm V h) (fun M r => M = mm q h ∧ r = none) :=
  s_Mo_cool_11_n n V v1 v2 v3 z4 z5 z6 hf
def f_Mo_cool_6 : Nat → VV → Int → Int → Int → (Option (VV))
  | 0, _, _, _, _ => none
  | n + 1, V, v1, v2, v3 => if v3 < 5 then if 0 ≤ v1 ∧ v1 < (36 : Int) then if 0 ≤ v3 ∧ v3 < (5 : Int) then f_Mo_cool_6 n (up V 110 v3.toNat (V 98 v1.toNat)) v1 v2 (w32 (v3 + 1)) else none else none else f_Mo_cool_11 FU V v1 v2 0
set_option maxRecDepth 20000 in
set_option maxHeartbeats 4000000 in
theorem s_Mo_cool_6_n {X : Xs} {d : Nat} {h : HP} {q : VV} : ∀ (n : Nat) (V : VV) (v1 : Int) (v2 : Int) (v3 : Int) (z4 : Option AV) (z5 : Option AV) (z6 : Option AV), f_Mo_cool_6 n V v1 v2 v3 = some q → Ok X (d + 1) 208 6 ([some (.inr (.inr (.inl 63))), some (.inl v1), some (.inl v2), some (.inl v3), z4, z5, z6], [], mm V h) (fun M r => M = mm q h ∧ r = none) := by
  intro n
  induction n with
  | zero => intro V v1 v2 v3 z4 z5 z6 hf; cases hf
  | succ n ih =>
    intro V v1 v2 v3 z4 z5 z6 hf
    let QQ : Mm → Option AV → Prop := fun M r => M = mm q h ∧ r = none
    show Ok X (d + 1) 208 6 ([some (.inr (.inr (.inl 63))), some (.inl v1), some (.inl v2), some (.inl v3), z4, z5, z6], [], mm V h) QQ
    refine ok_ic_ge (x := v3) (u := 5) (L := [some (.inr (.inr (.inl 63))), some (.inl v1), some (.inl v2), some (.inl v3), z4, z5, z6]) (S := []) (M := mm V h) rfl rfl (fun c1 => ?_) (fun c1 => ?_)
    ·
      replace hf := (if_neg (Int.not_lt.mpr c1)).symm.trans hf
      refine ok_thru (L := [some (.inr (.inr (.inl 63))), some (.inl v1), some (.inl v2), some (.inl 0), z4, z5, z6]) (S := []) (M := mm V h) rfl rfl ?_
      exact s_Mo_cool_11 hf
    ·
      replace hf := (if_pos c1).symm.trans hf
      by_cases c2 : 0 ≤ v1 ∧ v1 < (36 : Int)
      case neg => replace hf := (if_neg c2).symm.trans hf; cases hf
      replace hf := (if_pos c2).symm.trans hf
      refine ok_iald (i := v1) (id := 98) (n := 36) (L := [some (.inr (.inr (.inl 63))), some (.inl v1), some (.inl v2), some (.inl v3), z4, z5, z6]) (S := [.inl v3, .inr (.inr (.inl 111))]) (M := mm V h) rfl rfl rfl c2.1 c2.2 ?_
      by_cases c3 : 0 ≤ v3 ∧ v3 < (5 : Int)
      case neg => replace hf := (if_neg c3).symm.trans hf; cases hf
      replace hf := (if_pos c3).symm.trans hf
      refine ok_iast (i := v3) (v := V 98 v1.toNat) (id := 110) (n := 5) (L := [some (.inr (.inr (.inl 63))), some (.inl v1), some (.inl v2), some (.inl v3), z4, z5, z6]) (S := []) (M := mm V h) rfl rfl rfl c3.1 c3.2 ?_
      refine ok_goto (L := [some (.inr (.inr (.inl 63))), some (.inl v1), some (.inl v2), some (.inl (w32 (v3 + 1))), z4, z5, z6]) (S := []) (M := mm (up V 110 v3.toNat (V 98 v1.toNat)) h) rfl rfl ?_
      exact ih (up V 110 v3.toNat (V 98 v1.toNat)) v1 v2 (w32 (v3 + 1)) z4 z5 z6 hf
theorem s_Mo_cool_6 {X : Xs} {d : Nat} {h : HP} {V : VV} {v1 : Int} {v2 : Int} {v3 : Int} {z4 : Option AV} {z5 : Option AV} {z6 : Option AV} {n : Nat} {q : VV} (hf : f_Mo_cool_6 n V v1 v2 v3 = some q) : Ok X (d + 1) 208 6 ([some (.inr (.inr (.inl 63))), some (.inl v1), some (.inl v2), some (.inl v3), z4, z5, z6], [], mm V h) (fun M r => M = mm q h ∧ r = none) :=
  s_Mo_cool_6_n n V v1 v2 v3 z4 z5 z6 hf
def f_Mo_cool (V : VV) (v1 : Int) : Option (VV) := if 0 ≤ v1 ∧ v1 < (36 : Int) then if 0 ≤ v1 ∧ v1 < (36 : Int) then if (w32 ((V 69 v1.toNat) * (V 69 v1.toNat))) = 0 then none else f_Mo_cool_6 FU V v1 (if 400 < (w32 (Int.tdiv 400000 (w32 ((V 69 v1.toNat) * (V 69 v1.toNat))))) then 400 else w32 (Int.tdiv 400000 (w32 ((V 69 v1.toNat) * (V 69 v1.toNat)))) : Int) 0 else none else none
set_option maxRecDepth 20000 in
set_option maxHeartbeats 4000000 in
theorem s_Mo_cool {X : Xs} {d : Nat} {V : VV} {h : HP} {v1 : Int} {q : VV} (hf : f_Mo_cool V v1 = some q) : Ok X (d + 1) 208 0 ([some (.inr (.inr (.inl 63))), some (.inl v1), none, none, none, none, none], [], mm V h) (fun M r => M = mm q h ∧ r = none) := by
  let QQ : Mm → Option AV → Prop := fun M r => M = mm q h ∧ r = none
  show Ok X (d + 1) 208 0 ([some (.inr (.inr (.inl 63))), some (.inl v1), none, none, none, none, none], [], mm V h) QQ
  by_cases c1 : 0 ≤ v1 ∧ v1 < (36 : Int)
  case neg => replace hf := (if_neg c1).symm.trans hf; cases hf
  replace hf := (if_pos c1).symm.trans hf
  refine ok_iald (i := v1) (id := 69) (n := 36) (L := [some (.inr (.inr (.inl 63))), some (.inl v1), none, none, none, none, none]) (S := [.inl 400000]) (M := mm V h) rfl rfl rfl c1.1 c1.2 ?_
  by_cases c2 : 0 ≤ v1 ∧ v1 < (36 : Int)
  case neg => replace hf := (if_neg c2).symm.trans hf; cases hf
  replace hf := (if_pos c2).symm.trans hf
  refine ok_iald (i := v1) (id := 69) (n := 36) (L := [some (.inr (.inr (.inl 63))), some (.inl v1), none, none, none, none, none]) (S := [.inl (V 69 v1.toNat), .inl 400000]) (M := mm V h) rfl rfl rfl c2.1 c2.2 ?_
  by_cases c3 : (w32 ((V 69 v1.toNat) * (V 69 v1.toNat))) = 0
  case pos => replace hf := (if_pos c3).symm.trans hf; cases hf
  replace hf := (if_neg c3).symm.trans hf
  refine ok_idiv (u := 400000) (v := w32 ((V 69 v1.toNat) * (V 69 v1.toNat))) (L := [some (.inr (.inr (.inl 63))), some (.inl v1), none, none, none, none, none]) (S := []) (M := mm V h) rfl rfl c3 ?_
  have JN4 : Ok X (d + 1) 208 5 ([some (.inr (.inr (.inl 63))), some (.inl v1), some (.inl (if 400 < (w32 (Int.tdiv 400000 (w32 ((V 69 v1.toNat) * (V 69 v1.toNat))))) then 400 else w32 (Int.tdiv 400000 (w32 ((V 69 v1.toNat) * (V 69 v1.toNat)))) : Int)), none, none, none, none], [], mm V h) QQ := by
    refine ok_thru (L := [some (.inr (.inr (.inl 63))), some (.inl v1), some (.inl (if 400 < (w32 (Int.tdiv 400000 (w32 ((V 69 v1.toNat) * (V 69 v1.toNat))))) then 400 else w32 (Int.tdiv 400000 (w32 ((V 69 v1.toNat) * (V 69 v1.toNat)))) : Int)), some (.inl 0), none, none, none]) (S := []) (M := mm V h) rfl rfl ?_
    exact s_Mo_cool_6 hf
  clear hf
  refine ok_ic_le (x := w32 (Int.tdiv 400000 (w32 ((V 69 v1.toNat) * (V 69 v1.toNat))))) (u := 400) (L := [some (.inr (.inr (.inl 63))), some (.inl v1), some (.inl (w32 (Int.tdiv 400000 (w32 ((V 69 v1.toNat) * (V 69 v1.toNat)))))), none, none, none, none]) (S := []) (M := mm V h) rfl rfl (fun c5 => ?_) (fun c5 => ?_)
  ·
    simp only [if_neg (Int.not_lt.mpr c5)] at JN4
    first | exact JN4 | (simp only [if_neg (Int.not_lt.mpr c5)]; exact JN4)
  ·
    simp only [if_pos c5] at JN4
    refine ok_thru (L := [some (.inr (.inr (.inl 63))), some (.inl v1), some (.inl 400), none, none, none, none]) (S := []) (M := mm V h) rfl rfl ?_
    first | exact JN4 | (simp only [if_pos c5]; exact JN4)
