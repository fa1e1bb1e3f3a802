/-! shallow functions of the model (printed by wip/tools/gen40.py) -/
def f_Mo_laid (V : VV) (v1 : Int) (v2 : Int) (v3 : Int) (v4 : Int) : Option (VV × Int) := Option.bind (f_Mo_isRun V v1 v2) (fun q1 => if q1.2 = 0 then some (q1.1, (-1)) else if (f_Mo_isIn q1.1 v3 0 (w32 ((q1.1 62 13) - 1))) = 0 then some (q1.1, (-1)) else Option.bind (f_Mo_roll q1.1) (fun q5 => if v4 = 0 then if 0 ≤ v3 ∧ v3 < (36 : Int) then some (q5, q5 96 v3.toNat) else none else if v4 = 1 then if 0 ≤ v3 ∧ v3 < (36 : Int) then some (q5, q5 97 v3.toNat) else none else if v4 = 2 then if 0 ≤ v3 ∧ v3 < (36 : Int) then some (q5, q5 98 v3.toNat) else none else if v4 = 3 then Option.bind (f_Mo_isCold q5 v3) (fun q13 => some (q5, (if q13 = 0 then 0 else 1 : Int))) else if v4 = 4 then if 0 ≤ (w32 (v4 - 4)) ∧ (w32 (v4 - 4)) < (3 : Int) then if 0 ≤ (w32 ((w32 ((w32 (3 * v3)) + v4)) - 4)) ∧ (w32 ((w32 ((w32 (3 * v3)) + v4)) - 4)) < (108 : Int) then some (q5, w32 ((q5 79 ((w32 (v4 - 4)).toNat)) - (q5 112 ((w32 ((w32 ((w32 (3 * v3)) + v4)) - 4)).toNat)))) else none else none else if v4 = 5 then if 0 ≤ (w32 (v4 - 4)) ∧ (w32 (v4 - 4)) < (3 : Int) then if 0 ≤ (w32 ((w32 ((w32 (3 * v3)) + v4)) - 4)) ∧ (w32 ((w32 ((w32 (3 * v3)) + v4)) - 4)) < (108 : Int) then some (q5, w32 ((q5 79 ((w32 (v4 - 4)).toNat)) - (q5 112 ((w32 ((w32 ((w32 (3 * v3)) + v4)) - 4)).toNat)))) else none else none else if v4 = 6 then if 0 ≤ (w32 (v4 - 4)) ∧ (w32 (v4 - 4)) < (3 : Int) then if 0 ≤ (w32 ((w32 ((w32 (3 * v3)) + v4)) - 4)) ∧ (w32 ((w32 ((w32 (3 * v3)) + v4)) - 4)) < (108 : Int) then some (q5, w32 ((q5 79 ((w32 (v4 - 4)).toNat)) - (q5 112 ((w32 ((w32 ((w32 (3 * v3)) + v4)) - 4)).toNat)))) else none else none else if v4 = 7 then if 0 ≤ v3 ∧ v3 < (36 : Int) then some (q5, q5 116 v3.toNat) else none else if v4 = 8 then Option.bind (f_Mo_denseOf q5 v3) (fun q28 => some (q5, q28)) else some (q5, (-1))))
set_option maxRecDepth 20000 in
set_option maxHeartbeats 4000000 in
theorem s_Mo_laid {X : Xs} {d : Nat} {V : VV} {h : HP} {v1 : Int} {v2 : Int} {v3 : Int} {v4 : Int} {q : VV × Int} (hf : f_Mo_laid V v1 v2 v3 v4 = some q) : Ok X (d + 7) 215 0 ([some (.inr (.inr (.inl 63))), some (.inl v1), some (.inl v2), some (.inl v3), some (.inl v4)], [], mm V h) (fun M r => M = mm q.1 h ∧ r = some (.inl q.2)) := by
  let QQ : Mm → Option AV → Prop := fun M r => M = mm q.1 h ∧ r = some (.inl q.2)
  show Ok X (d + 7) 215 0 ([some (.inr (.inr (.inl 63))), some (.inl v1), some (.inl v2), some (.inl v3), some (.inl v4)], [], mm V h) QQ
  obtain ⟨q1, e1, hf⟩ := obind hf
  refine ok_callA (L := [some (.inr (.inr (.inl 63))), some (.inl v1), some (.inl v2), some (.inl v3), some (.inl v4)]) (M := mm V h) (args := [.inr (.inr (.inl 63)), .inl v1, .inl v2]) (rest := []) (y2 := 193) rfl rfl rfl (Or.inl rfl) rfl rfl (Nat.le_of_ble_eq_true rfl) rfl rfl (Nat.le_of_ble_eq_true rfl) (Nat.le_of_ble_eq_true rfl) (s_Mo_isRun e1) ?_
  rintro _ _ ⟨rfl, rfl, hz1⟩
  refine ok_if_eq (x := q1.2) (L := [some (.inr (.inr (.inl 63))), some (.inl v1), some (.inl v2), some (.inl v3), some (.inl v4)]) (S := []) (M := mm q1.1 h) rfl rfl (fun c2 => ?_) (fun c2 => ?_)
  ·
    replace hf := (if_pos c2).symm.trans hf
    obtain rfl := Option.some.inj hf
    refine ok_ireturn (L := [some (.inr (.inr (.inl 63))), some (.inl v1), some (.inl v2), some (.inl v3), some (.inl v4)]) (M := mm q1.1 h) (x := (-1)) rfl rfl ?_
    exact ⟨rfl, rfl⟩
  ·
    replace hf := (if_neg c2).symm.trans hf
    refine ok_callA (L := [some (.inr (.inr (.inl 63))), some (.inl v1), some (.inl v2), some (.inl v3), some (.inl v4)]) (M := mm q1.1 h) (args := [.inl v3, .inl 0, .inl (w32 ((q1.1 62 13) - 1))]) (rest := []) (y2 := 152) rfl rfl rfl (Or.inr (Or.inl rfl)) rfl rfl (Nat.le_of_ble_eq_true rfl) rfl rfl (Nat.le_of_ble_eq_true rfl) (Nat.le_of_ble_eq_true rfl) (s_Mo_isIn rfl) ?_
    rintro _ _ ⟨rfl, rfl, hz3⟩
    refine ok_if_ne (x := f_Mo_isIn q1.1 v3 0 (w32 ((q1.1 62 13) - 1))) (L := [some (.inr (.inr (.inl 63))), some (.inl v1), some (.inl v2), some (.inl v3), some (.inl v4)]) (S := []) (M := mm q1.1 h) rfl rfl (fun c4 => ?_) (fun c4 => ?_)
    ·
      replace hf := (if_neg c4).symm.trans hf
      obtain ⟨q5, e5, hf⟩ := obind hf
      refine ok_callA (L := [some (.inr (.inr (.inl 63))), some (.inl v1), some (.inl v2), some (.inl v3), some (.inl v4)]) (M := mm q1.1 h) (args := [.inr (.inr (.inl 63))]) (rest := []) (y2 := 216) rfl rfl rfl (Or.inl rfl) rfl rfl (Nat.le_of_ble_eq_true rfl) rfl rfl (Nat.le_of_ble_eq_true rfl) (Nat.le_of_ble_eq_true rfl) (s_Mo_roll e5) ?_
      rintro _ _ ⟨rfl, rfl⟩
      by_cases c6 : v4 = 0
      ·
        replace hf := (if_pos c6).symm.trans hf
        refine ok_sw (x := v4) (b1 := 7) (L := [some (.inr (.inr (.inl 63))), some (.inl v1), some (.inl v2), some (.inl v3), some (.inl v4)]) (S := []) (M := mm q5 h) rfl rfl (by rw [c6]; rfl) ?_
        by_cases c7 : 0 ≤ v3 ∧ v3 < (36 : Int)
        case neg => replace hf := (if_neg c7).symm.trans hf; cases hf
        replace hf := (if_pos c7).symm.trans hf
        refine ok_iald (i := v3) (id := 96) (n := 36) (L := [some (.inr (.inr (.inl 63))), some (.inl v1), some (.inl v2), some (.inl v3), some (.inl v4)]) (S := []) (M := mm q5 h) rfl rfl rfl c7.1 c7.2 ?_
        obtain rfl := Option.some.inj hf
        refine ok_ireturn (L := [some (.inr (.inr (.inl 63))), some (.inl v1), some (.inl v2), some (.inl v3), some (.inl v4)]) (M := mm q5 h) (x := q5 96 v3.toNat) rfl rfl ?_
        exact ⟨rfl, rfl⟩
      replace hf := (if_neg c6).symm.trans hf
      by_cases c8 : v4 = 1
      ·
        replace hf := (if_pos c8).symm.trans hf
        refine ok_sw (x := v4) (b1 := 9) (L := [some (.inr (.inr (.inl 63))), some (.inl v1), some (.inl v2), some (.inl v3), some (.inl v4)]) (S := []) (M := mm q5 h) rfl rfl (by rw [c8]; rfl) ?_
        by_cases c9 : 0 ≤ v3 ∧ v3 < (36 : Int)
        case neg => replace hf := (if_neg c9).symm.trans hf; cases hf
        replace hf := (if_pos c9).symm.trans hf
        refine ok_iald (i := v3) (id := 97) (n := 36) (L := [some (.inr (.inr (.inl 63))), some (.inl v1), some (.inl v2), some (.inl v3), some (.inl v4)]) (S := []) (M := mm q5 h) rfl rfl rfl c9.1 c9.2 ?_
        obtain rfl := Option.some.inj hf
        refine ok_ireturn (L := [some (.inr (.inr (.inl 63))), some (.inl v1), some (.inl v2), some (.inl v3), some (.inl v4)]) (M := mm q5 h) (x := q5 97 v3.toNat) rfl rfl ?_
        exact ⟨rfl, rfl⟩
      replace hf := (if_neg c8).symm.trans hf
      by_cases c10 : v4 = 2
      ·
        replace hf := (if_pos c10).symm.trans hf
        refine ok_sw (x := v4) (b1 := 11) (L := [some (.inr (.inr (.inl 63))), some (.inl v1), some (.inl v2), some (.inl v3), some (.inl v4)]) (S := []) (M := mm q5 h) rfl rfl (by rw [c10]; rfl) ?_
        by_cases c11 : 0 ≤ v3 ∧ v3 < (36 : Int)
        case neg => replace hf := (if_neg c11).symm.trans hf; cases hf
        replace hf := (if_pos c11).symm.trans hf
        refine ok_iald (i := v3) (id := 98) (n := 36) (L := [some (.inr (.inr (.inl 63))), some (.inl v1), some (.inl v2), some (.inl v3), some (.inl v4)]) (S := []) (M := mm q5 h) rfl rfl rfl c11.1 c11.2 ?_
        obtain rfl := Option.some.inj hf
        refine ok_ireturn (L := [some (.inr (.inr (.inl 63))), some (.inl v1), some (.inl v2), some (.inl v3), some (.inl v4)]) (M := mm q5 h) (x := q5 98 v3.toNat) rfl rfl ?_
        exact ⟨rfl, rfl⟩
      replace hf := (if_neg c10).symm.trans hf
      by_cases c12 : v4 = 3
      ·
        replace hf := (if_pos c12).symm.trans hf
        refine ok_sw (x := v4) (b1 := 13) (L := [some (.inr (.inr (.inl 63))), some (.inl v1), some (.inl v2), some (.inl v3), some (.inl v4)]) (S := []) (M := mm q5 h) rfl rfl (by rw [c12]; rfl) ?_
        obtain ⟨q13, e13, hf⟩ := obind hf
        refine ok_callA (L := [some (.inr (.inr (.inl 63))), some (.inl v1), some (.inl v2), some (.inl v3), some (.inl v4)]) (M := mm q5 h) (args := [.inr (.inr (.inl 63)), .inl v3]) (rest := []) (y2 := 220) rfl rfl rfl (Or.inl rfl) rfl rfl (Nat.le_of_ble_eq_true rfl) rfl rfl (Nat.le_of_ble_eq_true rfl) (Nat.le_of_ble_eq_true rfl) (s_Mo_isCold e13) ?_
        rintro _ _ ⟨rfl, rfl, hz13⟩
        have JN14 : Ok X (d + 7) 215 17 ([some (.inr (.inr (.inl 63))), some (.inl v1), some (.inl v2), some (.inl v3), some (.inl v4)], [.inl (if q13 = 0 then 0 else 1 : Int)], mm q5 h) QQ := by
          obtain rfl := Option.some.inj hf
          refine ok_ireturn (L := [some (.inr (.inr (.inl 63))), some (.inl v1), some (.inl v2), some (.inl v3), some (.inl v4)]) (M := mm q5 h) (x := (if q13 = 0 then 0 else 1 : Int)) rfl rfl ?_
          exact ⟨rfl, rfl⟩
        clear hf
        refine ok_if_eq (x := q13) (L := [some (.inr (.inr (.inl 63))), some (.inl v1), some (.inl v2), some (.inl v3), some (.inl v4)]) (S := []) (M := mm q5 h) rfl rfl (fun c15 => ?_) (fun c15 => ?_)
        ·
          simp only [if_pos c15] at JN14
          refine ok_thru (L := [some (.inr (.inr (.inl 63))), some (.inl v1), some (.inl v2), some (.inl v3), some (.inl v4)]) (S := [.inl 0]) (M := mm q5 h) rfl rfl ?_
          first | exact JN14 | (simp only [if_pos c15]; exact JN14)
        ·
          simp only [if_neg c15] at JN14
          refine ok_goto (L := [some (.inr (.inr (.inl 63))), some (.inl v1), some (.inl v2), some (.inl v3), some (.inl v4)]) (S := [.inl 1]) (M := mm q5 h) rfl rfl ?_
          first | exact JN14 | (simp only [if_neg c15]; exact JN14)
      replace hf := (if_neg c12).symm.trans hf
      by_cases c16 : v4 = 4
      ·
        replace hf := (if_pos c16).symm.trans hf
        refine ok_sw (x := v4) (b1 := 18) (L := [some (.inr (.inr (.inl 63))), some (.inl v1), some (.inl v2), some (.inl v3), some (.inl v4)]) (S := []) (M := mm q5 h) rfl rfl (by rw [c16]; rfl) ?_
        by_cases c17 : 0 ≤ (w32 (v4 - 4)) ∧ (w32 (v4 - 4)) < (3 : Int)
        case neg => replace hf := (if_neg c17).symm.trans hf; cases hf
        replace hf := (if_pos c17).symm.trans hf
        refine ok_iald (i := w32 (v4 - 4)) (id := 79) (n := 3) (L := [some (.inr (.inr (.inl 63))), some (.inl v1), some (.inl v2), some (.inl v3), some (.inl v4)]) (S := []) (M := mm q5 h) rfl rfl rfl c17.1 c17.2 ?_
        by_cases c18 : 0 ≤ (w32 ((w32 ((w32 (3 * v3)) + v4)) - 4)) ∧ (w32 ((w32 ((w32 (3 * v3)) + v4)) - 4)) < (108 : Int)
        case neg => replace hf := (if_neg c18).symm.trans hf; cases hf
        replace hf := (if_pos c18).symm.trans hf
        refine ok_iald (i := w32 ((w32 ((w32 (3 * v3)) + v4)) - 4)) (id := 112) (n := 108) (L := [some (.inr (.inr (.inl 63))), some (.inl v1), some (.inl v2), some (.inl v3), some (.inl v4)]) (S := [.inl (q5 79 ((w32 (v4 - 4)).toNat))]) (M := mm q5 h) rfl rfl rfl c18.1 c18.2 ?_
        obtain rfl := Option.some.inj hf
        refine ok_ireturn (L := [some (.inr (.inr (.inl 63))), some (.inl v1), some (.inl v2), some (.inl v3), some (.inl v4)]) (M := mm q5 h) (x := w32 ((q5 79 ((w32 (v4 - 4)).toNat)) - (q5 112 ((w32 ((w32 ((w32 (3 * v3)) + v4)) - 4)).toNat)))) rfl rfl ?_
        exact ⟨rfl, rfl⟩
      replace hf := (if_neg c16).symm.trans hf
      by_cases c19 : v4 = 5
      ·
        replace hf := (if_pos c19).symm.trans hf
        refine ok_sw (x := v4) (b1 := 18) (L := [some (.inr (.inr (.inl 63))), some (.inl v1), some (.inl v2), some (.inl v3), some (.inl v4)]) (S := []) (M := mm q5 h) rfl rfl (by rw [c19]; rfl) ?_
        by_cases c20 : 0 ≤ (w32 (v4 - 4)) ∧ (w32 (v4 - 4)) < (3 : Int)
        case neg => replace hf := (if_neg c20).symm.trans hf; cases hf
        replace hf := (if_pos c20).symm.trans hf
        refine ok_iald (i := w32 (v4 - 4)) (id := 79) (n := 3) (L := [some (.inr (.inr (.inl 63))), some (.inl v1), some (.inl v2), some (.inl v3), some (.inl v4)]) (S := []) (M := mm q5 h) rfl rfl rfl c20.1 c20.2 ?_
        by_cases c21 : 0 ≤ (w32 ((w32 ((w32 (3 * v3)) + v4)) - 4)) ∧ (w32 ((w32 ((w32 (3 * v3)) + v4)) - 4)) < (108 : Int)
        case neg => replace hf := (if_neg c21).symm.trans hf; cases hf
        replace hf := (if_pos c21).symm.trans hf
        refine ok_iald (i := w32 ((w32 ((w32 (3 * v3)) + v4)) - 4)) (id := 112) (n := 108) (L := [some (.inr (.inr (.inl 63))), some (.inl v1), some (.inl v2), some (.inl v3), some (.inl v4)]) (S := [.inl (q5 79 ((w32 (v4 - 4)).toNat))]) (M := mm q5 h) rfl rfl rfl c21.1 c21.2 ?_
        obtain rfl := Option.some.inj hf
        refine ok_ireturn (L := [some (.inr (.inr (.inl 63))), some (.inl v1), some (.inl v2), some (.inl v3), some (.inl v4)]) (M := mm q5 h) (x := w32 ((q5 79 ((w32 (v4 - 4)).toNat)) - (q5 112 ((w32 ((w32 ((w32 (3 * v3)) + v4)) - 4)).toNat)))) rfl rfl ?_
        exact ⟨rfl, rfl⟩
      replace hf := (if_neg c19).symm.trans hf
      by_cases c22 : v4 = 6
      ·
        replace hf := (if_pos c22).symm.trans hf
        refine ok_sw (x := v4) (b1 := 18) (L := [some (.inr (.inr (.inl 63))), some (.inl v1), some (.inl v2), some (.inl v3), some (.inl v4)]) (S := []) (M := mm q5 h) rfl rfl (by rw [c22]; rfl) ?_
        by_cases c23 : 0 ≤ (w32 (v4 - 4)) ∧ (w32 (v4 - 4)) < (3 : Int)
        case neg => replace hf := (if_neg c23).symm.trans hf; cases hf
        replace hf := (if_pos c23).symm.trans hf
        refine ok_iald (i := w32 (v4 - 4)) (id := 79) (n := 3) (L := [some (.inr (.inr (.inl 63))), some (.inl v1), some (.inl v2), some (.inl v3), some (.inl v4)]) (S := []) (M := mm q5 h) rfl rfl rfl c23.1 c23.2 ?_
        by_cases c24 : 0 ≤ (w32 ((w32 ((w32 (3 * v3)) + v4)) - 4)) ∧ (w32 ((w32 ((w32 (3 * v3)) + v4)) - 4)) < (108 : Int)
        case neg => replace hf := (if_neg c24).symm.trans hf; cases hf
        replace hf := (if_pos c24).symm.trans hf
        refine ok_iald (i := w32 ((w32 ((w32 (3 * v3)) + v4)) - 4)) (id := 112) (n := 108) (L := [some (.inr (.inr (.inl 63))), some (.inl v1), some (.inl v2), some (.inl v3), some (.inl v4)]) (S := [.inl (q5 79 ((w32 (v4 - 4)).toNat))]) (M := mm q5 h) rfl rfl rfl c24.1 c24.2 ?_
        obtain rfl := Option.some.inj hf
        refine ok_ireturn (L := [some (.inr (.inr (.inl 63))), some (.inl v1), some (.inl v2), some (.inl v3), some (.inl v4)]) (M := mm q5 h) (x := w32 ((q5 79 ((w32 (v4 - 4)).toNat)) - (q5 112 ((w32 ((w32 ((w32 (3 * v3)) + v4)) - 4)).toNat)))) rfl rfl ?_
        exact ⟨rfl, rfl⟩
      replace hf := (if_neg c22).symm.trans hf
      by_cases c25 : v4 = 7
      ·
        replace hf := (if_pos c25).symm.trans hf
        refine ok_sw (x := v4) (b1 := 21) (L := [some (.inr (.inr (.inl 63))), some (.inl v1), some (.inl v2), some (.inl v3), some (.inl v4)]) (S := []) (M := mm q5 h) rfl rfl (by rw [c25]; rfl) ?_
        by_cases c26 : 0 ≤ v3 ∧ v3 < (36 : Int)
        case neg => replace hf := (if_neg c26).symm.trans hf; cases hf
        replace hf := (if_pos c26).symm.trans hf
        refine ok_iald (i := v3) (id := 116) (n := 36) (L := [some (.inr (.inr (.inl 63))), some (.inl v1), some (.inl v2), some (.inl v3), some (.inl v4)]) (S := []) (M := mm q5 h) rfl rfl rfl c26.1 c26.2 ?_
        obtain rfl := Option.some.inj hf
        refine ok_ireturn (L := [some (.inr (.inr (.inl 63))), some (.inl v1), some (.inl v2), some (.inl v3), some (.inl v4)]) (M := mm q5 h) (x := q5 116 v3.toNat) rfl rfl ?_
        exact ⟨rfl, rfl⟩
      replace hf := (if_neg c25).symm.trans hf
      by_cases c27 : v4 = 8
      ·
        replace hf := (if_pos c27).symm.trans hf
        refine ok_sw (x := v4) (b1 := 23) (L := [some (.inr (.inr (.inl 63))), some (.inl v1), some (.inl v2), some (.inl v3), some (.inl v4)]) (S := []) (M := mm q5 h) rfl rfl (by rw [c27]; rfl) ?_
        obtain ⟨q28, e28, hf⟩ := obind hf
        refine ok_callA (L := [some (.inr (.inr (.inl 63))), some (.inl v1), some (.inl v2), some (.inl v3), some (.inl v4)]) (M := mm q5 h) (args := [.inr (.inr (.inl 63)), .inl v3]) (rest := []) (y2 := 221) rfl rfl rfl (Or.inl rfl) rfl rfl (Nat.le_of_ble_eq_true rfl) rfl rfl (Nat.le_of_ble_eq_true rfl) (Nat.le_of_ble_eq_true rfl) (s_Mo_denseOf e28) ?_
        rintro _ _ ⟨rfl, rfl⟩
        obtain rfl := Option.some.inj hf
        refine ok_ireturn (L := [some (.inr (.inr (.inl 63))), some (.inl v1), some (.inl v2), some (.inl v3), some (.inl v4)]) (M := mm q5 h) (x := q28) rfl rfl ?_
        exact ⟨rfl, rfl⟩
      replace hf := (if_neg c27).symm.trans hf
      refine ok_sw (x := v4) (b1 := 25) (L := [some (.inr (.inr (.inl 63))), some (.inl v1), some (.inl v2), some (.inl v3), some (.inl v4)]) (S := []) (M := mm q5 h) rfl rfl (if_pos (by omega)) ?_
      obtain rfl := Option.some.inj hf
      refine ok_ireturn (L := [some (.inr (.inr (.inl 63))), some (.inl v1), some (.inl v2), some (.inl v3), some (.inl v4)]) (M := mm q5 h) (x := (-1)) rfl rfl ?_
      exact ⟨rfl, rfl⟩
    ·
      replace hf := (if_pos c4).symm.trans hf
      obtain rfl := Option.some.inj hf
      refine ok_ireturn (L := [some (.inr (.inr (.inl 63))), some (.inl v1), some (.inl v2), some (.inl v3), some (.inl v4)]) (M := mm q1.1 h) (x := (-1)) rfl rfl ?_
      exact ⟨rfl, rfl⟩
def f_Mo_emit (V : VV) (v1 : Int) (v2 : Int) : Option (VV) := if 0 ≤ (w32 (128 + (V 62 108))) ∧ (w32 (128 + (V 62 108))) < (256 : Int) then if 0 ≤ (w32 (128 + (V 62 108))) ∧ (w32 (128 + (V 62 108))) < (256 : Int) then some (up (up (up V 118 ((w32 (128 + (V 62 108))).toNat) v1) 119 ((w32 (128 + (V 62 108))).toNat) v2) 62 108 (w32 ((V 62 108) + 1))) else none else none
set_option maxRecDepth 20000 in
set_option maxHeartbeats 4000000 in
theorem s_Mo_emit {X : Xs} {d : Nat} {V : VV} {h : HP} {v1 : Int} {v2 : Int} {q : VV} (hf : f_Mo_emit V v1 v2 = some q) : Ok X (d + 1) 227 0 ([some (.inr (.inr (.inl 63))), some (.inl v1), some (.inl v2)], [], mm V h) (fun M r => M = mm q h ∧ r = none) := by
  let QQ : Mm → Option AV → Prop := fun M r => M = mm q h ∧ r = none
  show Ok X (d + 1) 227 0 ([some (.inr (.inr (.inl 63))), some (.inl v1), some (.inl v2)], [], mm V h) QQ
  by_cases c1 : 0 ≤ (w32 (128 + (V 62 108))) ∧ (w32 (128 + (V 62 108))) < (256 : Int)
  case neg => replace hf := (if_neg c1).symm.trans hf; cases hf
  replace hf := (if_pos c1).symm.trans hf
  refine ok_iast (i := w32 (128 + (V 62 108))) (v := v1) (id := 118) (n := 256) (L := [some (.inr (.inr (.inl 63))), some (.inl v1), some (.inl v2)]) (S := []) (M := mm V h) rfl rfl rfl c1.1 c1.2 ?_
  by_cases c2 : 0 ≤ (w32 (128 + (V 62 108))) ∧ (w32 (128 + (V 62 108))) < (256 : Int)
  case neg => replace hf := (if_neg c2).symm.trans hf; cases hf
  replace hf := (if_pos c2).symm.trans hf
  refine ok_iast (i := w32 (128 + (V 62 108))) (v := v2) (id := 119) (n := 256) (L := [some (.inr (.inr (.inl 63))), some (.inl v1), some (.inl v2)]) (S := []) (M := mm (up V 118 ((w32 (128 + (V 62 108))).toNat) v1) h) rfl rfl rfl c2.1 c2.2 ?_
  obtain rfl := Option.some.inj hf
  refine ok_return (L := [some (.inr (.inr (.inl 63))), some (.inl v1), some (.inl v2)]) (M := mm (up (up (up V 118 ((w32 (128 + (V 62 108))).toNat) v1) 119 ((w32 (128 + (V 62 108))).toNat) v2) 62 108 (w32 ((V 62 108) + 1))) h) rfl rfl ?_
  exact ⟨rfl, rfl⟩
def f_Mo_settleTo_0 : Nat → VV → Int → (Option (VV))
  | 0, _, _ => none
  | n + 1, V, v1 => if 0 < (V 62 110) then if 0 ≤ (w32 ((V 62 110) - 1)) ∧ (w32 ((V 62 110) - 1)) < (128 : Int) then if (V 120 ((w32 ((V 62 110) - 1)).toNat)) < 20 then if 0 ≤ (w32 ((V 62 110) - 1)) ∧ (w32 ((V 62 110) - 1)) < (128 : Int) then if (V 120 ((w32 ((V 62 110) - 1)).toNat)) < v1 then some V else if 0 ≤ (w32 ((V 62 110) - 1)) ∧ (w32 ((V 62 110) - 1)) < (128 : Int) then Option.bind (f_Mo_emit (up V 62 110 (w32 ((V 62 110) - 1))) (V 120 ((w32 ((V 62 110) - 1)).toNat)) 0) (fun q7 => f_Mo_settleTo_0 n q7 v1) else none else none else some V else none else some V
set_option maxRecDepth 20000 in
set_option maxHeartbeats 4000000 in
theorem s_Mo_settleTo_0_n {X : Xs} {d : Nat} {h : HP} {q : VV} : ∀ (n : Nat) (V : VV) (v1 : Int), f_Mo_settleTo_0 n V v1 = some q → Ok X (d + 2) 226 0 ([some (.inr (.inr (.inl 63))), some (.inl v1)], [], mm V h) (fun M r => M = mm q h ∧ r = none) := by
  intro n
  induction n with
  | zero => intro V v1 hf; cases hf
  | succ n ih =>
    intro V v1 hf
    let QQ : Mm → Option AV → Prop := fun M r => M = mm q h ∧ r = none
    show Ok X (d + 2) 226 0 ([some (.inr (.inr (.inl 63))), some (.inl v1)], [], mm V h) QQ
    refine ok_if_le (x := V 62 110) (L := [some (.inr (.inr (.inl 63))), some (.inl v1)]) (S := []) (M := mm V h) rfl rfl (fun c1 => ?_) (fun c1 => ?_)
    ·
      replace hf := (if_neg (Int.not_lt.mpr c1)).symm.trans hf
      obtain rfl := Option.some.inj hf
      refine ok_return (L := [some (.inr (.inr (.inl 63))), some (.inl v1)]) (M := mm V h) rfl rfl ?_
      exact ⟨rfl, rfl⟩
    ·
      replace hf := (if_pos c1).symm.trans hf
      by_cases c2 : 0 ≤ (w32 ((V 62 110) - 1)) ∧ (w32 ((V 62 110) - 1)) < (128 : Int)
      case neg => replace hf := (if_neg c2).symm.trans hf; cases hf
      replace hf := (if_pos c2).symm.trans hf
      refine ok_iald (i := w32 ((V 62 110) - 1)) (id := 120) (n := 128) (L := [some (.inr (.inr (.inl 63))), some (.inl v1)]) (S := []) (M := mm V h) rfl rfl rfl c2.1 c2.2 ?_
      refine ok_ic_ge (x := V 120 ((w32 ((V 62 110) - 1)).toNat)) (u := 20) (L := [some (.inr (.inr (.inl 63))), some (.inl v1)]) (S := []) (M := mm V h) rfl rfl (fun c3 => ?_) (fun c3 => ?_)
      ·
        replace hf := (if_neg (Int.not_lt.mpr c3)).symm.trans hf
        obtain rfl := Option.some.inj hf
        refine ok_return (L := [some (.inr (.inr (.inl 63))), some (.inl v1)]) (M := mm V h) rfl rfl ?_
        exact ⟨rfl, rfl⟩
      ·
        replace hf := (if_pos c3).symm.trans hf
        by_cases c4 : 0 ≤ (w32 ((V 62 110) - 1)) ∧ (w32 ((V 62 110) - 1)) < (128 : Int)
        case neg => replace hf := (if_neg c4).symm.trans hf; cases hf
        replace hf := (if_pos c4).symm.trans hf
        refine ok_iald (i := w32 ((V 62 110) - 1)) (id := 120) (n := 128) (L := [some (.inr (.inr (.inl 63))), some (.inl v1)]) (S := []) (M := mm V h) rfl rfl rfl c4.1 c4.2 ?_
        refine ok_ic_lt (x := V 120 ((w32 ((V 62 110) - 1)).toNat)) (u := v1) (L := [some (.inr (.inr (.inl 63))), some (.inl v1)]) (S := []) (M := mm V h) rfl rfl (fun c5 => ?_) (fun c5 => ?_)
        ·
          replace hf := (if_pos c5).symm.trans hf
          obtain rfl := Option.some.inj hf
          refine ok_return (L := [some (.inr (.inr (.inl 63))), some (.inl v1)]) (M := mm V h) rfl rfl ?_
          exact ⟨rfl, rfl⟩
        ·
          replace hf := (if_neg (Int.not_lt.mpr c5)).symm.trans hf
          by_cases c6 : 0 ≤ (w32 ((V 62 110) - 1)) ∧ (w32 ((V 62 110) - 1)) < (128 : Int)
          case neg => replace hf := (if_neg c6).symm.trans hf; cases hf
          replace hf := (if_pos c6).symm.trans hf
          refine ok_iald (i := w32 ((V 62 110) - 1)) (id := 120) (n := 128) (L := [some (.inr (.inr (.inl 63))), some (.inl v1)]) (S := [.inr (.inr (.inl 63))]) (M := mm (up V 62 110 (w32 ((V 62 110) - 1))) h) rfl rfl rfl c6.1 c6.2 ?_
          obtain ⟨q7, e7, hf⟩ := obind hf
          refine ok_callA (L := [some (.inr (.inr (.inl 63))), some (.inl v1)]) (M := mm (up V 62 110 (w32 ((V 62 110) - 1))) h) (args := [.inr (.inr (.inl 63)), .inl (V 120 ((w32 ((V 62 110) - 1)).toNat)), .inl 0]) (rest := []) (y2 := 227) rfl rfl rfl (Or.inl rfl) rfl rfl (Nat.le_of_ble_eq_true rfl) rfl rfl (Nat.le_of_ble_eq_true rfl) (Nat.le_of_ble_eq_true rfl) (s_Mo_emit e7) ?_
          rintro _ _ ⟨rfl, rfl⟩
          refine ok_goto (L := [some (.inr (.inr (.inl 63))), some (.inl v1)]) (S := []) (M := mm q7 h) rfl rfl ?_
          exact ih q7 v1 hf
theorem s_Mo_settleTo_0 {X : Xs} {d : Nat} {h : HP} {V : VV} {v1 : Int} {n : Nat} {q : VV} (hf : f_Mo_settleTo_0 n V v1 = some q) : Ok X (d + 2) 226 0 ([some (.inr (.inr (.inl 63))), some (.inl v1)], [], mm V h) (fun M r => M = mm q h ∧ r = none) :=
  s_Mo_settleTo_0_n n V v1 hf
def f_Mo_settleTo (V : VV) (v1 : Int) : Option (VV) := f_Mo_settleTo_0 FU V v1
theorem s_Mo_settleTo {X : Xs} {d : Nat} {V : VV} {h : HP} {v1 : Int} {q : VV} (hf : f_Mo_settleTo V v1 = some q) : Ok X (d + 2) 226 0 ([some (.inr (.inr (.inl 63))), some (.inl v1)], [], mm V h) (fun M r => M = mm q h ∧ r = none) :=
  s_Mo_settleTo_0_n FU V v1 hf
def f_Mo_push (V : VV) (v1 : Int) : Option (VV) := if 0 ≤ (V 62 110) ∧ (V 62 110) < (128 : Int) then some (up (up V 120 ((V 62 110).toNat) v1) 62 110 (w32 ((V 62 110) + 1))) else none
set_option maxRecDepth 20000 in
set_option maxHeartbeats 4000000 in
theorem s_Mo_push {X : Xs} {d : Nat} {V : VV} {h : HP} {v1 : Int} {q : VV} (hf : f_Mo_push V v1 = some q) : Ok X (d + 1) 228 0 ([some (.inr (.inr (.inl 63))), some (.inl v1)], [], mm V h) (fun M r => M = mm q h ∧ r = none) := by
  let QQ : Mm → Option AV → Prop := fun M r => M = mm q h ∧ r = none
  show Ok X (d + 1) 228 0 ([some (.inr (.inr (.inl 63))), some (.inl v1)], [], mm V h) QQ
  by_cases c1 : 0 ≤ (V 62 110) ∧ (V 62 110) < (128 : Int)
  case neg => replace hf := (if_neg c1).symm.trans hf; cases hf
  replace hf := (if_pos c1).symm.trans hf
  refine ok_iast (i := V 62 110) (v := v1) (id := 120) (n := 128) (L := [some (.inr (.inr (.inl 63))), some (.inl v1)]) (S := []) (M := mm V h) rfl rfl rfl c1.1 c1.2 ?_
  obtain rfl := Option.some.inj hf
  refine ok_return (L := [some (.inr (.inr (.inl 63))), some (.inl v1)]) (M := mm (up (up V 120 ((V 62 110).toNat) v1) 62 110 (w32 ((V 62 110) + 1))) h) rfl rfl ?_
  exact ⟨rfl, rfl⟩
def f_Mo_whole_0 : Nat → VV → (Option (VV))
  | 0, _ => none
  | n + 1, V => if 0 < (V 62 110) then if 0 ≤ (w32 ((V 62 110) - 1)) ∧ (w32 ((V 62 110) - 1)) < (128 : Int) then if (V 120 ((w32 ((V 62 110) - 1)).toNat)) = 2 then Option.bind (f_Mo_emit (up (up V 62 110 (w32 ((V 62 110) - 1))) 62 109 (w32 ((V 62 109) - 1))) 2 0) (fun q4 => f_Mo_whole_0 n q4) else some V else none else some V
set_option maxRecDepth 20000 in
set_option maxHeartbeats 4000000 in
theorem s_Mo_whole_0_n {X : Xs} {d : Nat} {h : HP} {q : VV} : ∀ (n : Nat) (V : VV), f_Mo_whole_0 n V = some q → Ok X (d + 2) 229 0 ([some (.inr (.inr (.inl 63)))], [], mm V h) (fun M r => M = mm q h ∧ r = none) := by
  intro n
  induction n with
  | zero => intro V hf; cases hf
  | succ n ih =>
    intro V hf
    let QQ : Mm → Option AV → Prop := fun M r => M = mm q h ∧ r = none
    show Ok X (d + 2) 229 0 ([some (.inr (.inr (.inl 63)))], [], mm V h) QQ
    refine ok_if_le (x := V 62 110) (L := [some (.inr (.inr (.inl 63)))]) (S := []) (M := mm V h) rfl rfl (fun c1 => ?_) (fun c1 => ?_)
    ·
      replace hf := (if_neg (Int.not_lt.mpr c1)).symm.trans hf
      obtain rfl := Option.some.inj hf
      refine ok_return (L := [some (.inr (.inr (.inl 63)))]) (M := mm V h) rfl rfl ?_
      exact ⟨rfl, rfl⟩
    ·
      replace hf := (if_pos c1).symm.trans hf
      by_cases c2 : 0 ≤ (w32 ((V 62 110) - 1)) ∧ (w32 ((V 62 110) - 1)) < (128 : Int)
      case neg => replace hf := (if_neg c2).symm.trans hf; cases hf
      replace hf := (if_pos c2).symm.trans hf
      refine ok_iald (i := w32 ((V 62 110) - 1)) (id := 120) (n := 128) (L := [some (.inr (.inr (.inl 63)))]) (S := []) (M := mm V h) rfl rfl rfl c2.1 c2.2 ?_
      refine ok_ic_ne (x := V 120 ((w32 ((V 62 110) - 1)).toNat)) (u := 2) (L := [some (.inr (.inr (.inl 63)))]) (S := []) (M := mm V h) rfl rfl (fun c3 => ?_) (fun c3 => ?_)
      ·
        replace hf := (if_neg c3).symm.trans hf
        obtain rfl := Option.some.inj hf
        refine ok_return (L := [some (.inr (.inr (.inl 63)))]) (M := mm V h) rfl rfl ?_
        exact ⟨rfl, rfl⟩
      ·
        replace hf := (if_pos c3).symm.trans hf
        obtain ⟨q4, e4, hf⟩ := obind hf
        refine ok_callA (L := [some (.inr (.inr (.inl 63)))]) (M := mm (up (up V 62 110 (w32 ((V 62 110) - 1))) 62 109 (w32 ((V 62 109) - 1))) h) (args := [.inr (.inr (.inl 63)), .inl 2, .inl 0]) (rest := []) (y2 := 227) rfl rfl rfl (Or.inl rfl) rfl rfl (Nat.le_of_ble_eq_true rfl) rfl rfl (Nat.le_of_ble_eq_true rfl) (Nat.le_of_ble_eq_true rfl) (s_Mo_emit e4) ?_
        rintro _ _ ⟨rfl, rfl⟩
        refine ok_goto (L := [some (.inr (.inr (.inl 63)))]) (S := []) (M := mm q4 h) rfl rfl ?_
        exact ih q4 hf
theorem s_Mo_whole_0 {X : Xs} {d : Nat} {h : HP} {V : VV} {n : Nat} {q : VV} (hf : f_Mo_whole_0 n V = some q) : Ok X (d + 2) 229 0 ([some (.inr (.inr (.inl 63)))], [], mm V h) (fun M r => M = mm q h ∧ r = none) :=
  s_Mo_whole_0_n n V hf
def f_Mo_whole (V : VV)  : Option (VV) := f_Mo_whole_0 FU V
theorem s_Mo_whole {X : Xs} {d : Nat} {V : VV} {h : HP} {q : VV} (hf : f_Mo_whole V = some q) : Ok X (d + 2) 229 0 ([some (.inr (.inr (.inl 63)))], [], mm V h) (fun M r => M = mm q h ∧ r = none) :=
  s_Mo_whole_0_n FU V hf
def f_Mo_behindOne_45 (V : VV)  : Option (VV × Int) := Option.bind (f_Mo_nextToken V) (fun q1 => some (q1, 0))
set_option maxRecDepth 20000 in
set_option maxHeartbeats 4000000 in
theorem s_Mo_behindOne_45 {X : Xs} {d : Nat} {V : VV} {h : HP} {w1 : Int} {q : VV × Int} (hf : f_Mo_behindOne_45 V = some q) : Ok X (d + 4) 225 45 ([some (.inr (.inr (.inl 63))), some (.inl w1)], [], mm V h) (fun M r => M = mm q.1 h ∧ r = some (.inl q.2)) := by
  let QQ : Mm → Option AV → Prop := fun M r => M = mm q.1 h ∧ r = some (.inl q.2)
  show Ok X (d + 4) 225 45 ([some (.inr (.inr (.inl 63))), some (.inl w1)], [], mm V h) QQ
  obtain ⟨q1, e1, hf⟩ := obind hf
  refine ok_callA (L := [some (.inr (.inr (.inl 63))), some (.inl w1)]) (M := mm V h) (args := [.inr (.inr (.inl 63))]) (rest := []) (y2 := 174) rfl rfl rfl (Or.inl rfl) rfl rfl (Nat.le_of_ble_eq_true rfl) rfl rfl (Nat.le_of_ble_eq_true rfl) (Nat.le_of_ble_eq_true rfl) (s_Mo_nextToken e1) ?_
  rintro _ _ ⟨rfl, rfl⟩
  obtain rfl := Option.some.inj hf
  refine ok_ireturn (L := [some (.inr (.inr (.inl 63))), some (.inl w1)]) (M := mm q1 h) (x := 0) rfl rfl ?_
  exact ⟨rfl, rfl⟩
def f_Mo_behindOne_2 (V : VV) (v1 : Int) : Option (VV × Int) := Option.bind (f_Mo_settleTo V 3) (fun q1 => Option.bind (f_Mo_push q1 (if v1 = 43 then 3 else 4 : Int)) (fun q3 => f_Mo_behindOne_45 (up q3 62 111 0)))
set_option maxRecDepth 20000 in
set_option maxHeartbeats 4000000 in
theorem s_Mo_behindOne_2 {X : Xs} {d : Nat} {V : VV} {h : HP} {v1 : Int} {q : VV × Int} (hf : f_Mo_behindOne_2 V v1 = some q) : Ok X (d + 4) 225 2 ([some (.inr (.inr (.inl 63))), some (.inl v1)], [], mm V h) (fun M r => M = mm q.1 h ∧ r = some (.inl q.2)) := by
  let QQ : Mm → Option AV → Prop := fun M r => M = mm q.1 h ∧ r = some (.inl q.2)
  show Ok X (d + 4) 225 2 ([some (.inr (.inr (.inl 63))), some (.inl v1)], [], mm V h) QQ
  obtain ⟨q1, e1, hf⟩ := obind hf
  refine ok_callA (L := [some (.inr (.inr (.inl 63))), some (.inl v1)]) (M := mm V h) (args := [.inr (.inr (.inl 63)), .inl 3]) (rest := []) (y2 := 226) rfl rfl rfl (Or.inl rfl) rfl rfl (Nat.le_of_ble_eq_true rfl) rfl rfl (Nat.le_of_ble_eq_true rfl) (Nat.le_of_ble_eq_true rfl) (s_Mo_settleTo e1) ?_
  rintro _ _ ⟨rfl, rfl⟩
  have JN2 : Ok X (d + 4) 225 6 ([some (.inr (.inr (.inl 63))), some (.inl v1)], [.inl (if v1 = 43 then 3 else 4 : Int), .inr (.inr (.inl 63))], mm q1 h) QQ := by
    obtain ⟨q3, e3, hf⟩ := obind hf
    refine ok_callA (L := [some (.inr (.inr (.inl 63))), some (.inl v1)]) (M := mm q1 h) (args := [.inr (.inr (.inl 63)), .inl (if v1 = 43 then 3 else 4 : Int)]) (rest := []) (y2 := 228) rfl rfl rfl (Or.inl rfl) rfl rfl (Nat.le_of_ble_eq_true rfl) rfl rfl (Nat.le_of_ble_eq_true rfl) (Nat.le_of_ble_eq_true rfl) (s_Mo_push e3) ?_
    rintro _ _ ⟨rfl, rfl⟩
    refine ok_goto (L := [some (.inr (.inr (.inl 63))), some (.inl v1)]) (S := []) (M := mm (up q3 62 111 0) h) rfl rfl ?_
    exact s_Mo_behindOne_45 hf
  clear hf
  refine ok_ic_ne (x := v1) (u := 43) (L := [some (.inr (.inr (.inl 63))), some (.inl v1)]) (S := [.inr (.inr (.inl 63))]) (M := mm q1 h) rfl rfl (fun c4 => ?_) (fun c4 => ?_)
  ·
    simp only [if_neg c4] at JN2
    refine ok_thru (L := [some (.inr (.inr (.inl 63))), some (.inl v1)]) (S := [.inl 4, .inr (.inr (.inl 63))]) (M := mm q1 h) rfl rfl ?_
    first | exact JN2 | (simp only [if_neg c4]; exact JN2)
  ·
    simp only [if_pos c4] at JN2
    refine ok_goto (L := [some (.inr (.inr (.inl 63))), some (.inl v1)]) (S := [.inl 3, .inr (.inr (.inl 63))]) (M := mm q1 h) rfl rfl ?_
    first | exact JN2 | (simp only [if_pos c4]; exact JN2)
def f_Mo_behindOne_10 (V : VV) (v1 : Int) : Option (VV × Int) := Option.bind (f_Mo_settleTo V 5) (fun q1 => Option.bind (f_Mo_push q1 (if v1 = 42 then 5 else 6 : Int)) (fun q3 => f_Mo_behindOne_45 (up q3 62 111 0)))
set_option maxRecDepth 20000 in
set_option maxHeartbeats 4000000 in
theorem s_Mo_behindOne_10 {X : Xs} {d : Nat} {V : VV} {h : HP} {v1 : Int} {q : VV × Int} (hf : f_Mo_behindOne_10 V v1 = some q) : Ok X (d + 4) 225 10 ([some (.inr (.inr (.inl 63))), some (.inl v1)], [], mm V h) (fun M r => M = mm q.1 h ∧ r = some (.inl q.2)) := by
  let QQ : Mm → Option AV → Prop := fun M r => M = mm q.1 h ∧ r = some (.inl q.2)
  show Ok X (d + 4) 225 10 ([some (.inr (.inr (.inl 63))), some (.inl v1)], [], mm V h) QQ
  obtain ⟨q1, e1, hf⟩ := obind hf
  refine ok_callA (L := [some (.inr (.inr (.inl 63))), some (.inl v1)]) (M := mm V h) (args := [.inr (.inr (.inl 63)), .inl 5]) (rest := []) (y2 := 226) rfl rfl rfl (Or.inl rfl) rfl rfl (Nat.le_of_ble_eq_true rfl) rfl rfl (Nat.le_of_ble_eq_true rfl) (Nat.le_of_ble_eq_true rfl) (s_Mo_settleTo e1) ?_
  rintro _ _ ⟨rfl, rfl⟩
  have JN2 : Ok X (d + 4) 225 14 ([some (.inr (.inr (.inl 63))), some (.inl v1)], [.inl (if v1 = 42 then 5 else 6 : Int), .inr (.inr (.inl 63))], mm q1 h) QQ := by
    obtain ⟨q3, e3, hf⟩ := obind hf
    refine ok_callA (L := [some (.inr (.inr (.inl 63))), some (.inl v1)]) (M := mm q1 h) (args := [.inr (.inr (.inl 63)), .inl (if v1 = 42 then 5 else 6 : Int)]) (rest := []) (y2 := 228) rfl rfl rfl (Or.inl rfl) rfl rfl (Nat.le_of_ble_eq_true rfl) rfl rfl (Nat.le_of_ble_eq_true rfl) (Nat.le_of_ble_eq_true rfl) (s_Mo_push e3) ?_
    rintro _ _ ⟨rfl, rfl⟩
    refine ok_goto (L := [some (.inr (.inr (.inl 63))), some (.inl v1)]) (S := []) (M := mm (up q3 62 111 0) h) rfl rfl ?_
    exact s_Mo_behindOne_45 hf
  clear hf
  refine ok_ic_ne (x := v1) (u := 42) (L := [some (.inr (.inr (.inl 63))), some (.inl v1)]) (S := [.inr (.inr (.inl 63))]) (M := mm q1 h) rfl rfl (fun c4 => ?_) (fun c4 => ?_)
  ·
    simp only [if_neg c4] at JN2
    refine ok_thru (L := [some (.inr (.inr (.inl 63))), some (.inl v1)]) (S := [.inl 6, .inr (.inr (.inl 63))]) (M := mm q1 h) rfl rfl ?_
    first | exact JN2 | (simp only [if_neg c4]; exact JN2)
  ·
    simp only [if_pos c4] at JN2
    refine ok_goto (L := [some (.inr (.inr (.inl 63))), some (.inl v1)]) (S := [.inl 5, .inr (.inr (.inl 63))]) (M := mm q1 h) rfl rfl ?_
    first | exact JN2 | (simp only [if_pos c4]; exact JN2)
def f_Mo_behindOne_24 (V : VV)  : Option (VV × Int) := if 0 ≤ (w32 ((V 62 110) - 1)) ∧ (w32 ((V 62 110) - 1)) < (128 : Int) then if 0 ≤ (w32 ((V 62 110) - 1)) ∧ (w32 ((V 62 110) - 1)) < (128 : Int) then f_Mo_behindOne_45 (up (up V 120 ((w32 ((V 62 110) - 1)).toNat) (w32 ((V 120 ((w32 ((V 62 110) - 1)).toNat)) + 2))) 62 111 0) else none else none
set_option maxRecDepth 20000 in
set_option maxHeartbeats 4000000 in
theorem s_Mo_behindOne_24 {X : Xs} {d : Nat} {V : VV} {h : HP} {w1 : Int} {q : VV × Int} (hf : f_Mo_behindOne_24 V = some q) : Ok X (d + 4) 225 24 ([some (.inr (.inr (.inl 63))), some (.inl w1)], [], mm V h) (fun M r => M = mm q.1 h ∧ r = some (.inl q.2)) := by
  let QQ : Mm → Option AV → Prop := fun M r => M = mm q.1 h ∧ r = some (.inl q.2)
  show Ok X (d + 4) 225 24 ([some (.inr (.inr (.inl 63))), some (.inl w1)], [], mm V h) QQ
  by_cases c1 : 0 ≤ (w32 ((V 62 110) - 1)) ∧ (w32 ((V 62 110) - 1)) < (128 : Int)
  case neg => replace hf := (if_neg c1).symm.trans hf; cases hf
  replace hf := (if_pos c1).symm.trans hf
  refine ok_iald (i := w32 ((V 62 110) - 1)) (id := 120) (n := 128) (L := [some (.inr (.inr (.inl 63))), some (.inl w1)]) (S := [.inl (w32 ((V 62 110) - 1)), .inr (.inr (.inl 121))]) (M := mm V h) rfl rfl rfl c1.1 c1.2 ?_
  by_cases c2 : 0 ≤ (w32 ((V 62 110) - 1)) ∧ (w32 ((V 62 110) - 1)) < (128 : Int)
  case neg => replace hf := (if_neg c2).symm.trans hf; cases hf
  replace hf := (if_pos c2).symm.trans hf
  refine ok_iast (i := w32 ((V 62 110) - 1)) (v := w32 ((V 120 ((w32 ((V 62 110) - 1)).toNat)) + 2)) (id := 120) (n := 128) (L := [some (.inr (.inr (.inl 63))), some (.inl w1)]) (S := []) (M := mm V h) rfl rfl rfl c2.1 c2.2 ?_
  refine ok_goto (L := [some (.inr (.inr (.inl 63))), some (.inl w1)]) (S := []) (M := mm (up (up V 120 ((w32 ((V 62 110) - 1)).toNat) (w32 ((V 120 ((w32 ((V 62 110) - 1)).toNat)) + 2))) 62 111 0) h) rfl rfl ?_
  exact s_Mo_behindOne_45 hf
def f_Mo_behindOne_42 (V : VV)  : Option (VV × Int) := Option.bind (f_Mo_whole V) (fun q1 => f_Mo_behindOne_45 q1)
set_option maxRecDepth 20000 in
set_option maxHeartbeats 4000000 in
theorem s_Mo_behindOne_42 {X : Xs} {d : Nat} {V : VV} {h : HP} {w1 : Int} {q : VV × Int} (hf : f_Mo_behindOne_42 V = some q) : Ok X (d + 4) 225 42 ([some (.inr (.inr (.inl 63))), some (.inl w1)], [], mm V h) (fun M r => M = mm q.1 h ∧ r = some (.inl q.2)) := by
  let QQ : Mm → Option AV → Prop := fun M r => M = mm q.1 h ∧ r = some (.inl q.2)
  show Ok X (d + 4) 225 42 ([some (.inr (.inr (.inl 63))), some (.inl w1)], [], mm V h) QQ
  obtain ⟨q1, e1, hf⟩ := obind hf
  refine ok_callA (L := [some (.inr (.inr (.inl 63))), some (.inl w1)]) (M := mm V h) (args := [.inr (.inr (.inl 63))]) (rest := []) (y2 := 229) rfl rfl rfl (Or.inl rfl) rfl rfl (Nat.le_of_ble_eq_true rfl) rfl rfl (Nat.le_of_ble_eq_true rfl) (Nat.le_of_ble_eq_true rfl) (s_Mo_whole e1) ?_
  rintro _ _ ⟨rfl, rfl⟩
  refine ok_goto (L := [some (.inr (.inr (.inl 63))), some (.inl w1)]) (S := []) (M := mm q1 h) rfl rfl ?_
  exact s_Mo_behindOne_45 hf
def f_Mo_behindOne (V : VV)  : Option (VV × Int) := if (V 62 45) = 43 then f_Mo_behindOne_2 V (V 62 45) else if (V 62 45) = 45 then f_Mo_behindOne_2 V (V 62 45) else if (V 62 45) = 42 then f_Mo_behindOne_10 V (V 62 45) else if (V 62 45) = 47 then f_Mo_behindOne_10 V (V 62 45) else if (V 62 45) = 44 then Option.bind (f_Mo_settleTo V 3) (fun q19 => if (q19 62 110) = 0 then some (q19, 1) else if 0 ≤ (w32 ((q19 62 110) - 1)) ∧ (w32 ((q19 62 110) - 1)) < (128 : Int) then if (q19 120 ((w32 ((q19 62 110) - 1)).toNat)) = 21 then f_Mo_behindOne_24 q19 else if 0 ≤ (w32 ((q19 62 110) - 1)) ∧ (w32 ((q19 62 110) - 1)) < (128 : Int) then if (q19 120 ((w32 ((q19 62 110) - 1)).toNat)) = 22 then f_Mo_behindOne_24 q19 else some (q19, 1) else none else none) else if (V 62 45) = 41 then Option.bind (f_Mo_settleTo V 3) (fun q7 => if (q7 62 110) = 0 then some (q7, 1) else if 0 ≤ (w32 ((q7 62 110) - 1)) ∧ (w32 ((q7 62 110) - 1)) < (128 : Int) then if (q7 120 ((w32 ((q7 62 110) - 1)).toNat)) = 21 then some (q7, 1) else if 0 ≤ (w32 ((q7 62 110) - 1)) ∧ (w32 ((q7 62 110) - 1)) < (128 : Int) then if (q7 120 ((w32 ((q7 62 110) - 1)).toNat)) = 22 then some (q7, 1) else if 0 ≤ (w32 ((q7 62 110) - 1)) ∧ (w32 ((q7 62 110) - 1)) < (128 : Int) then if 20 < (q7 120 ((w32 ((q7 62 110) - 1)).toNat)) then if 0 ≤ (w32 ((q7 62 110) - 1)) ∧ (w32 ((q7 62 110) - 1)) < (128 : Int) then Option.bind (f_Mo_emit (up (up q7 62 110 (w32 ((q7 62 110) - 1))) 62 109 (w32 ((q7 62 109) - 1))) (if (q7 120 ((w32 ((q7 62 110) - 1)).toNat)) = 23 then 7 else 8 : Int) 0) (fun q17 => f_Mo_behindOne_42 q17) else none else f_Mo_behindOne_42 (up (up q7 62 110 (w32 ((q7 62 110) - 1))) 62 109 (w32 ((q7 62 109) - 1))) else none else none else none) else some (V, 1)
set_option maxRecDepth 20000 in
set_option maxHeartbeats 4000000 in
theorem s_Mo_behindOne {X : Xs} {d : Nat} {V : VV} {h : HP} {q : VV × Int} (hf : f_Mo_behindOne V = some q) : Ok X (d + 4) 225 0 ([some (.inr (.inr (.inl 63))), none], [], mm V h) (fun M r => M = mm q.1 h ∧ r = some (.inl q.2)) := by
  let QQ : Mm → Option AV → Prop := fun M r => M = mm q.1 h ∧ r = some (.inl q.2)
  show Ok X (d + 4) 225 0 ([some (.inr (.inr (.inl 63))), none], [], mm V h) QQ
  refine ok_ic_eq (x := V 62 45) (u := 43) (L := [some (.inr (.inr (.inl 63))), some (.inl (V 62 45))]) (S := []) (M := mm V h) rfl rfl (fun c1 => ?_) (fun c1 => ?_)
  ·
    replace hf := (if_pos c1).symm.trans hf
    exact s_Mo_behindOne_2 hf
  ·
    replace hf := (if_neg c1).symm.trans hf
    refine ok_ic_ne (x := V 62 45) (u := 45) (L := [some (.inr (.inr (.inl 63))), some (.inl (V 62 45))]) (S := []) (M := mm V h) rfl rfl (fun c2 => ?_) (fun c2 => ?_)
    ·
      replace hf := (if_neg c2).symm.trans hf
      refine ok_ic_eq (x := V 62 45) (u := 42) (L := [some (.inr (.inr (.inl 63))), some (.inl (V 62 45))]) (S := []) (M := mm V h) rfl rfl (fun c3 => ?_) (fun c3 => ?_)
      ·
        replace hf := (if_pos c3).symm.trans hf
        exact s_Mo_behindOne_10 hf
      ·
        replace hf := (if_neg c3).symm.trans hf
        refine ok_ic_ne (x := V 62 45) (u := 47) (L := [some (.inr (.inr (.inl 63))), some (.inl (V 62 45))]) (S := []) (M := mm V h) rfl rfl (fun c4 => ?_) (fun c4 => ?_)
        ·
          replace hf := (if_neg c4).symm.trans hf
          refine ok_ic_ne (x := V 62 45) (u := 44) (L := [some (.inr (.inr (.inl 63))), some (.inl (V 62 45))]) (S := []) (M := mm V h) rfl rfl (fun c5 => ?_) (fun c5 => ?_)
          ·
            replace hf := (if_neg c5).symm.trans hf
            refine ok_ic_ne (x := V 62 45) (u := 41) (L := [some (.inr (.inr (.inl 63))), some (.inl (V 62 45))]) (S := []) (M := mm V h) rfl rfl (fun c6 => ?_) (fun c6 => ?_)
            ·
              replace hf := (if_neg c6).symm.trans hf
              obtain rfl := Option.some.inj hf
              refine ok_ireturn (L := [some (.inr (.inr (.inl 63))), some (.inl (V 62 45))]) (M := mm V h) (x := 1) rfl rfl ?_
              exact ⟨rfl, rfl⟩
            ·
              replace hf := (if_pos c6).symm.trans hf
              obtain ⟨q7, e7, hf⟩ := obind hf
              refine ok_callA (L := [some (.inr (.inr (.inl 63))), some (.inl (V 62 45))]) (M := mm V h) (args := [.inr (.inr (.inl 63)), .inl 3]) (rest := []) (y2 := 226) rfl rfl rfl (Or.inl rfl) rfl rfl (Nat.le_of_ble_eq_true rfl) rfl rfl (Nat.le_of_ble_eq_true rfl) (Nat.le_of_ble_eq_true rfl) (s_Mo_settleTo e7) ?_
              rintro _ _ ⟨rfl, rfl⟩
              refine ok_if_eq (x := q7 62 110) (L := [some (.inr (.inr (.inl 63))), some (.inl (V 62 45))]) (S := []) (M := mm q7 h) rfl rfl (fun c8 => ?_) (fun c8 => ?_)
              ·
                replace hf := (if_pos c8).symm.trans hf
                obtain rfl := Option.some.inj hf
                refine ok_ireturn (L := [some (.inr (.inr (.inl 63))), some (.inl (V 62 45))]) (M := mm q7 h) (x := 1) rfl rfl ?_
                exact ⟨rfl, rfl⟩
              ·
                replace hf := (if_neg c8).symm.trans hf
                by_cases c9 : 0 ≤ (w32 ((q7 62 110) - 1)) ∧ (w32 ((q7 62 110) - 1)) < (128 : Int)
                case neg => replace hf := (if_neg c9).symm.trans hf; cases hf
                replace hf := (if_pos c9).symm.trans hf
                refine ok_iald (i := w32 ((q7 62 110) - 1)) (id := 120) (n := 128) (L := [some (.inr (.inr (.inl 63))), some (.inl (V 62 45))]) (S := []) (M := mm q7 h) rfl rfl rfl c9.1 c9.2 ?_
                refine ok_ic_eq (x := q7 120 ((w32 ((q7 62 110) - 1)).toNat)) (u := 21) (L := [some (.inr (.inr (.inl 63))), some (.inl (V 62 45))]) (S := []) (M := mm q7 h) rfl rfl (fun c10 => ?_) (fun c10 => ?_)
                ·
                  replace hf := (if_pos c10).symm.trans hf
                  obtain rfl := Option.some.inj hf
                  refine ok_ireturn (L := [some (.inr (.inr (.inl 63))), some (.inl (V 62 45))]) (M := mm q7 h) (x := 1) rfl rfl ?_
                  exact ⟨rfl, rfl⟩
                ·
                  replace hf := (if_neg c10).symm.trans hf
                  by_cases c11 : 0 ≤ (w32 ((q7 62 110) - 1)) ∧ (w32 ((q7 62 110) - 1)) < (128 : Int)
                  case neg => replace hf := (if_neg c11).symm.trans hf; cases hf
                  replace hf := (if_pos c11).symm.trans hf
                  refine ok_iald (i := w32 ((q7 62 110) - 1)) (id := 120) (n := 128) (L := [some (.inr (.inr (.inl 63))), some (.inl (V 62 45))]) (S := []) (M := mm q7 h) rfl rfl rfl c11.1 c11.2 ?_
                  refine ok_ic_ne (x := q7 120 ((w32 ((q7 62 110) - 1)).toNat)) (u := 22) (L := [some (.inr (.inr (.inl 63))), some (.inl (V 62 45))]) (S := []) (M := mm q7 h) rfl rfl (fun c12 => ?_) (fun c12 => ?_)
                  ·
                    replace hf := (if_neg c12).symm.trans hf
                    by_cases c13 : 0 ≤ (w32 ((q7 62 110) - 1)) ∧ (w32 ((q7 62 110) - 1)) < (128 : Int)
                    case neg => replace hf := (if_neg c13).symm.trans hf; cases hf
                    replace hf := (if_pos c13).symm.trans hf
                    refine ok_iald (i := w32 ((q7 62 110) - 1)) (id := 120) (n := 128) (L := [some (.inr (.inr (.inl 63))), some (.inl (V 62 45))]) (S := []) (M := mm (up (up q7 62 110 (w32 ((q7 62 110) - 1))) 62 109 (w32 ((q7 62 109) - 1))) h) rfl rfl rfl c13.1 c13.2 ?_
                    refine ok_ic_le (x := q7 120 ((w32 ((q7 62 110) - 1)).toNat)) (u := 20) (L := [some (.inr (.inr (.inl 63))), some (.inl (V 62 45))]) (S := []) (M := mm (up (up q7 62 110 (w32 ((q7 62 110) - 1))) 62 109 (w32 ((q7 62 109) - 1))) h) rfl rfl (fun c14 => ?_) (fun c14 => ?_)
                    ·
                      replace hf := (if_neg (Int.not_lt.mpr c14)).symm.trans hf
                      exact s_Mo_behindOne_42 hf
                    ·
                      replace hf := (if_pos c14).symm.trans hf
                      by_cases c15 : 0 ≤ (w32 ((q7 62 110) - 1)) ∧ (w32 ((q7 62 110) - 1)) < (128 : Int)
                      case neg => replace hf := (if_neg c15).symm.trans hf; cases hf
                      replace hf := (if_pos c15).symm.trans hf
                      refine ok_iald (i := w32 ((q7 62 110) - 1)) (id := 120) (n := 128) (L := [some (.inr (.inr (.inl 63))), some (.inl (V 62 45))]) (S := [.inr (.inr (.inl 63))]) (M := mm (up (up q7 62 110 (w32 ((q7 62 110) - 1))) 62 109 (w32 ((q7 62 109) - 1))) h) rfl rfl rfl c15.1 c15.2 ?_
                      have JN16 : Ok X (d + 4) 225 41 ([some (.inr (.inr (.inl 63))), some (.inl (V 62 45))], [.inl (if (q7 120 ((w32 ((q7 62 110) - 1)).toNat)) = 23 then 7 else 8 : Int), .inr (.inr (.inl 63))], mm (up (up q7 62 110 (w32 ((q7 62 110) - 1))) 62 109 (w32 ((q7 62 109) - 1))) h) QQ := by
                        obtain ⟨q17, e17, hf⟩ := obind hf
                        refine ok_callA (L := [some (.inr (.inr (.inl 63))), some (.inl (V 62 45))]) (M := mm (up (up q7 62 110 (w32 ((q7 62 110) - 1))) 62 109 (w32 ((q7 62 109) - 1))) h) (args := [.inr (.inr (.inl 63)), .inl (if (q7 120 ((w32 ((q7 62 110) - 1)).toNat)) = 23 then 7 else 8 : Int), .inl 0]) (rest := []) (y2 := 227) rfl rfl rfl (Or.inl rfl) rfl rfl (Nat.le_of_ble_eq_true rfl) rfl rfl (Nat.le_of_ble_eq_true rfl) (Nat.le_of_ble_eq_true rfl) (s_Mo_emit e17) ?_
                        rintro _ _ ⟨rfl, rfl⟩
                        exact s_Mo_behindOne_42 hf
                      clear hf
                      refine ok_ic_ne (x := q7 120 ((w32 ((q7 62 110) - 1)).toNat)) (u := 23) (L := [some (.inr (.inr (.inl 63))), some (.inl (V 62 45))]) (S := [.inr (.inr (.inl 63))]) (M := mm (up (up q7 62 110 (w32 ((q7 62 110) - 1))) 62 109 (w32 ((q7 62 109) - 1))) h) rfl rfl (fun c18 => ?_) (fun c18 => ?_)
                      ·
                        simp only [if_neg c18] at JN16
                        refine ok_thru (L := [some (.inr (.inr (.inl 63))), some (.inl (V 62 45))]) (S := [.inl 8, .inr (.inr (.inl 63))]) (M := mm (up (up q7 62 110 (w32 ((q7 62 110) - 1))) 62 109 (w32 ((q7 62 109) - 1))) h) rfl rfl ?_
                        first | exact JN16 | (simp only [if_neg c18]; exact JN16)
                      ·
                        simp only [if_pos c18] at JN16
                        refine ok_goto (L := [some (.inr (.inr (.inl 63))), some (.inl (V 62 45))]) (S := [.inl 7, .inr (.inr (.inl 63))]) (M := mm (up (up q7 62 110 (w32 ((q7 62 110) - 1))) 62 109 (w32 ((q7 62 109) - 1))) h) rfl rfl ?_
                        first | exact JN16 | (simp only [if_pos c18]; exact JN16)
                  ·
                    replace hf := (if_pos c12).symm.trans hf
                    obtain rfl := Option.some.inj hf
                    refine ok_ireturn (L := [some (.inr (.inr (.inl 63))), some (.inl (V 62 45))]) (M := mm q7 h) (x := 1) rfl rfl ?_
                    exact ⟨rfl, rfl⟩
          ·
            replace hf := (if_pos c5).symm.trans hf
            obtain ⟨q19, e19, hf⟩ := obind hf
            refine ok_callA (L := [some (.inr (.inr (.inl 63))), some (.inl (V 62 45))]) (M := mm V h) (args := [.inr (.inr (.inl 63)), .inl 3]) (rest := []) (y2 := 226) rfl rfl rfl (Or.inl rfl) rfl rfl (Nat.le_of_ble_eq_true rfl) rfl rfl (Nat.le_of_ble_eq_true rfl) (Nat.le_of_ble_eq_true rfl) (s_Mo_settleTo e19) ?_
            rintro _ _ ⟨rfl, rfl⟩
            refine ok_if_eq (x := q19 62 110) (L := [some (.inr (.inr (.inl 63))), some (.inl (V 62 45))]) (S := []) (M := mm q19 h) rfl rfl (fun c20 => ?_) (fun c20 => ?_)
            ·
              replace hf := (if_pos c20).symm.trans hf
              obtain rfl := Option.some.inj hf
              refine ok_ireturn (L := [some (.inr (.inr (.inl 63))), some (.inl (V 62 45))]) (M := mm q19 h) (x := 1) rfl rfl ?_
              exact ⟨rfl, rfl⟩
            ·
              replace hf := (if_neg c20).symm.trans hf
              by_cases c21 : 0 ≤ (w32 ((q19 62 110) - 1)) ∧ (w32 ((q19 62 110) - 1)) < (128 : Int)
              case neg => replace hf := (if_neg c21).symm.trans hf; cases hf
              replace hf := (if_pos c21).symm.trans hf
              refine ok_iald (i := w32 ((q19 62 110) - 1)) (id := 120) (n := 128) (L := [some (.inr (.inr (.inl 63))), some (.inl (V 62 45))]) (S := []) (M := mm q19 h) rfl rfl rfl c21.1 c21.2 ?_
              refine ok_ic_eq (x := q19 120 ((w32 ((q19 62 110) - 1)).toNat)) (u := 21) (L := [some (.inr (.inr (.inl 63))), some (.inl (V 62 45))]) (S := []) (M := mm q19 h) rfl rfl (fun c22 => ?_) (fun c22 => ?_)
              ·
                replace hf := (if_pos c22).symm.trans hf
                exact s_Mo_behindOne_24 hf
              ·
                replace hf := (if_neg c22).symm.trans hf
                by_cases c23 : 0 ≤ (w32 ((q19 62 110) - 1)) ∧ (w32 ((q19 62 110) - 1)) < (128 : Int)
                case neg => replace hf := (if_neg c23).symm.trans hf; cases hf
                replace hf := (if_pos c23).symm.trans hf
                refine ok_iald (i := w32 ((q19 62 110) - 1)) (id := 120) (n := 128) (L := [some (.inr (.inr (.inl 63))), some (.inl (V 62 45))]) (S := []) (M := mm q19 h) rfl rfl rfl c23.1 c23.2 ?_
                refine ok_ic_eq (x := q19 120 ((w32 ((q19 62 110) - 1)).toNat)) (u := 22) (L := [some (.inr (.inr (.inl 63))), some (.inl (V 62 45))]) (S := []) (M := mm q19 h) rfl rfl (fun c24 => ?_) (fun c24 => ?_)
                ·
                  replace hf := (if_pos c24).symm.trans hf
                  exact s_Mo_behindOne_24 hf
                ·
                  replace hf := (if_neg c24).symm.trans hf
                  obtain rfl := Option.some.inj hf
                  refine ok_ireturn (L := [some (.inr (.inr (.inl 63))), some (.inl (V 62 45))]) (M := mm q19 h) (x := 1) rfl rfl ?_
                  exact ⟨rfl, rfl⟩
        ·
          replace hf := (if_pos c4).symm.trans hf
          exact s_Mo_behindOne_10 hf
    ·
      replace hf := (if_pos c2).symm.trans hf
      exact s_Mo_behindOne_2 hf
def f_Mo_letterOf (V : VV)  : Int := (if (lcmpI (V 62 47) 116) = 0 then 0 else (if (lcmpI (V 62 47) 100) = 0 then 1 else (if (lcmpI (V 62 47) 106) = 0 then 2 else (if (lcmpI (V 62 47) 109) = 0 then 3 else (-1) : Int) : Int) : Int) : Int)
set_option maxRecDepth 20000 in
set_option maxHeartbeats 4000000 in
theorem s_Mo_letterOf {X : Xs} {d : Nat} {V : VV} {h : HP} {q : Int} (hf : f_Mo_letterOf V = q) : Ok X (d + 1) 231 0 ([some (.inr (.inr (.inl 63)))], [], mm V h) (fun M r => M = mm V h ∧ r = some (.inl q)) := by
  let QQ : Mm → Option AV → Prop := fun M r => M = mm V h ∧ r = some (.inl q)
  show Ok X (d + 1) 231 0 ([some (.inr (.inr (.inl 63)))], [], mm V h) QQ
  have JN1 : Ok X (d + 1) 231 9 ([some (.inr (.inr (.inl 63)))], [.inl (if (lcmpI (V 62 47) 116) = 0 then 0 else (if (lcmpI (V 62 47) 100) = 0 then 1 else (if (lcmpI (V 62 47) 106) = 0 then 2 else (if (lcmpI (V 62 47) 109) = 0 then 3 else (-1) : Int) : Int) : Int) : Int)], mm V h) QQ := by
    have hq : ((if (lcmpI (V 62 47) 116) = 0 then 0 else (if (lcmpI (V 62 47) 100) = 0 then 1 else (if (lcmpI (V 62 47) 106) = 0 then 2 else (if (lcmpI (V 62 47) 109) = 0 then 3 else (-1) : Int) : Int) : Int) : Int)) = q := hf
    subst hq
    refine ok_ireturn (L := [some (.inr (.inr (.inl 63)))]) (M := mm V h) (x := (if (lcmpI (V 62 47) 116) = 0 then 0 else (if (lcmpI (V 62 47) 100) = 0 then 1 else (if (lcmpI (V 62 47) 106) = 0 then 2 else (if (lcmpI (V 62 47) 109) = 0 then 3 else (-1) : Int) : Int) : Int) : Int)) rfl rfl ?_
    exact ⟨rfl, rfl⟩
  clear hf
  refine ok_if_ne (x := lcmpI (V 62 47) 116) (L := [some (.inr (.inr (.inl 63)))]) (S := []) (M := mm V h) rfl rfl (fun c2 => ?_) (fun c2 => ?_)
  ·
    simp only [if_neg c2] at JN1
    refine ok_if_ne (x := lcmpI (V 62 47) 100) (L := [some (.inr (.inr (.inl 63)))]) (S := []) (M := mm V h) rfl rfl (fun c3 => ?_) (fun c3 => ?_)
    ·
      simp only [if_neg c3] at JN1
      refine ok_if_ne (x := lcmpI (V 62 47) 106) (L := [some (.inr (.inr (.inl 63)))]) (S := []) (M := mm V h) rfl rfl (fun c4 => ?_) (fun c4 => ?_)
      ·
        simp only [if_neg c4] at JN1
        refine ok_if_ne (x := lcmpI (V 62 47) 109) (L := [some (.inr (.inr (.inl 63)))]) (S := []) (M := mm V h) rfl rfl (fun c5 => ?_) (fun c5 => ?_)
        ·
          simp only [if_neg c5] at JN1
          refine ok_thru (L := [some (.inr (.inr (.inl 63)))]) (S := [.inl (-1)]) (M := mm V h) rfl rfl ?_
          first | exact JN1 | (simp only [if_neg c2, if_neg c3, if_neg c4, if_neg c5]; exact JN1)
        ·
          simp only [if_pos c5] at JN1
          refine ok_goto (L := [some (.inr (.inr (.inl 63)))]) (S := [.inl 3]) (M := mm V h) rfl rfl ?_
          first | exact JN1 | (simp only [if_neg c2, if_neg c3, if_neg c4, if_pos c5]; exact JN1)
      ·
        simp only [if_pos c4] at JN1
        refine ok_goto (L := [some (.inr (.inr (.inl 63)))]) (S := [.inl 2]) (M := mm V h) rfl rfl ?_
        first | exact JN1 | (simp only [if_neg c2, if_neg c3, if_pos c4]; exact JN1)
    ·
      simp only [if_pos c3] at JN1
      refine ok_goto (L := [some (.inr (.inr (.inl 63)))]) (S := [.inl 1]) (M := mm V h) rfl rfl ?_
      first | exact JN1 | (simp only [if_neg c2, if_pos c3]; exact JN1)
  ·
    simp only [if_pos c2] at JN1
    refine ok_goto (L := [some (.inr (.inr (.inl 63)))]) (S := [.inl 0]) (M := mm V h) rfl rfl ?_
    first | exact JN1 | (simp only [if_pos c2]; exact JN1)
def f_Mo_beginOne_7 (V : VV)  : Option (VV × Int) := Option.bind (f_Mo_emit V (if (V 62 45) = 1 then 0 else 1 : Int) (if (V 62 45) = 1 then V 62 46 else f_Mo_letterOf V : Int)) (fun q3 => Option.bind (f_Mo_whole q3) (fun q4 => Option.bind (f_Mo_nextToken (up q4 62 111 1)) (fun q5 => some (q5, 0))))
set_option maxRecDepth 20000 in
set_option maxHeartbeats 4000000 in
theorem s_Mo_beginOne_7 {X : Xs} {d : Nat} {V : VV} {h : HP} {z1 : Option AV} {q : VV × Int} (hf : f_Mo_beginOne_7 V = some q) : Ok X (d + 4) 230 7 ([some (.inr (.inr (.inl 63))), z1], [], mm V h) (fun M r => M = mm q.1 h ∧ r = some (.inl q.2)) := by
  let QQ : Mm → Option AV → Prop := fun M r => M = mm q.1 h ∧ r = some (.inl q.2)
  show Ok X (d + 4) 230 7 ([some (.inr (.inr (.inl 63))), z1], [], mm V h) QQ
  have JN1 : Ok X (d + 4) 230 10 ([some (.inr (.inr (.inl 63))), z1], [.inl (if (V 62 45) = 1 then 0 else 1 : Int), .inr (.inr (.inl 63))], mm V h) QQ := by
    have JN2 : Ok X (d + 4) 230 13 ([some (.inr (.inr (.inl 63))), z1], [.inl (if (V 62 45) = 1 then V 62 46 else f_Mo_letterOf V : Int), .inl (if (V 62 45) = 1 then 0 else 1 : Int), .inr (.inr (.inl 63))], mm V h) QQ := by
      obtain ⟨q3, e3, hf⟩ := obind hf
      refine ok_callA (L := [some (.inr (.inr (.inl 63))), z1]) (M := mm V h) (args := [.inr (.inr (.inl 63)), .inl (if (V 62 45) = 1 then 0 else 1 : Int), .inl (if (V 62 45) = 1 then V 62 46 else f_Mo_letterOf V : Int)]) (rest := []) (y2 := 227) rfl rfl rfl (Or.inl rfl) rfl rfl (Nat.le_of_ble_eq_true rfl) rfl rfl (Nat.le_of_ble_eq_true rfl) (Nat.le_of_ble_eq_true rfl) (s_Mo_emit e3) ?_
      rintro _ _ ⟨rfl, rfl⟩
      obtain ⟨q4, e4, hf⟩ := obind hf
      refine ok_callA (L := [some (.inr (.inr (.inl 63))), z1]) (M := mm q3 h) (args := [.inr (.inr (.inl 63))]) (rest := []) (y2 := 229) rfl rfl rfl (Or.inl rfl) rfl rfl (Nat.le_of_ble_eq_true rfl) rfl rfl (Nat.le_of_ble_eq_true rfl) (Nat.le_of_ble_eq_true rfl) (s_Mo_whole e4) ?_
      rintro _ _ ⟨rfl, rfl⟩
      obtain ⟨q5, e5, hf⟩ := obind hf
      refine ok_callA (L := [some (.inr (.inr (.inl 63))), z1]) (M := mm (up q4 62 111 1) h) (args := [.inr (.inr (.inl 63))]) (rest := []) (y2 := 174) rfl rfl rfl (Or.inl rfl) rfl rfl (Nat.le_of_ble_eq_true rfl) rfl rfl (Nat.le_of_ble_eq_true rfl) (Nat.le_of_ble_eq_true rfl) (s_Mo_nextToken e5) ?_
      rintro _ _ ⟨rfl, rfl⟩
      obtain rfl := Option.some.inj hf
      refine ok_ireturn (L := [some (.inr (.inr (.inl 63))), z1]) (M := mm q5 h) (x := 0) rfl rfl ?_
      exact ⟨rfl, rfl⟩
    clear hf
    refine ok_ic_ne (x := V 62 45) (u := 1) (L := [some (.inr (.inr (.inl 63))), z1]) (S := [.inl (if (V 62 45) = 1 then 0 else 1 : Int), .inr (.inr (.inl 63))]) (M := mm V h) rfl rfl (fun c6 => ?_) (fun c6 => ?_)
    ·
      simp only [if_neg c6] at JN2
      refine ok_callA (L := [some (.inr (.inr (.inl 63))), z1]) (M := mm V h) (args := [.inr (.inr (.inl 63))]) (rest := [.inl (if (V 62 45) = 1 then 0 else 1 : Int), .inr (.inr (.inl 63))]) (y2 := 231) rfl rfl rfl (Or.inl rfl) rfl rfl (Nat.le_of_ble_eq_true rfl) rfl rfl (Nat.le_of_ble_eq_true rfl) (Nat.le_of_ble_eq_true rfl) (s_Mo_letterOf rfl) ?_
      rintro _ _ ⟨rfl, rfl⟩
      first | exact JN2 | (simp only [if_neg c6]; exact JN2)
    ·
      simp only [if_pos c6] at JN2
      refine ok_goto (L := [some (.inr (.inr (.inl 63))), z1]) (S := [.inl (V 62 46), .inl (if (V 62 45) = 1 then 0 else 1 : Int), .inr (.inr (.inl 63))]) (M := mm V h) rfl rfl ?_
      first | exact JN2 | (simp only [if_pos c6]; exact JN2)
  clear hf
  refine ok_ic_ne (x := V 62 45) (u := 1) (L := [some (.inr (.inr (.inl 63))), z1]) (S := [.inr (.inr (.inl 63))]) (M := mm V h) rfl rfl (fun c8 => ?_) (fun c8 => ?_)
  ·
    simp only [if_neg c8] at JN1
    refine ok_thru (L := [some (.inr (.inr (.inl 63))), z1]) (S := [.inl 1, .inr (.inr (.inl 63))]) (M := mm V h) rfl rfl ?_
    first | exact JN1 | (simp only [if_neg c8]; exact JN1)
  ·
    simp only [if_pos c8] at JN1
    refine ok_goto (L := [some (.inr (.inr (.inl 63))), z1]) (S := [.inl 0, .inr (.inr (.inl 63))]) (M := mm V h) rfl rfl ?_
    first | exact JN1 | (simp only [if_pos c8]; exact JN1)
def f_Mo_beginOne_37 (V : VV) (v1 : Int) : Option (VV × Int) := if (V 62 109) = 8 then some (V, 3) else Option.bind (f_Mo_push (up V 62 109 (w32 ((V 62 109) + 1))) (if v1 = 7 then 21 else (if v1 = 8 then 22 else v1 : Int) : Int)) (fun q3 => Option.bind (f_Mo_nextToken q3) (fun q4 => some (q4, 0)))
set_option maxRecDepth 20000 in
set_option maxHeartbeats 4000000 in
theorem s_Mo_beginOne_37 {X : Xs} {d : Nat} {V : VV} {h : HP} {v1 : Int} {q : VV × Int} (hf : f_Mo_beginOne_37 V v1 = some q) : Ok X (d + 4) 230 37 ([some (.inr (.inr (.inl 63))), some (.inl v1)], [], mm V h) (fun M r => M = mm q.1 h ∧ r = some (.inl q.2)) := by
  let QQ : Mm → Option AV → Prop := fun M r => M = mm q.1 h ∧ r = some (.inl q.2)
  show Ok X (d + 4) 230 37 ([some (.inr (.inr (.inl 63))), some (.inl v1)], [], mm V h) QQ
  refine ok_ic_ne (x := V 62 109) (u := 8) (L := [some (.inr (.inr (.inl 63))), some (.inl v1)]) (S := []) (M := mm V h) rfl rfl (fun c1 => ?_) (fun c1 => ?_)
  ·
    replace hf := (if_neg c1).symm.trans hf
    have JN2 : Ok X (d + 4) 230 44 ([some (.inr (.inr (.inl 63))), some (.inl v1)], [.inl (if v1 = 7 then 21 else (if v1 = 8 then 22 else v1 : Int) : Int), .inr (.inr (.inl 63))], mm (up V 62 109 (w32 ((V 62 109) + 1))) h) QQ := by
      obtain ⟨q3, e3, hf⟩ := obind hf
      refine ok_callA (L := [some (.inr (.inr (.inl 63))), some (.inl v1)]) (M := mm (up V 62 109 (w32 ((V 62 109) + 1))) h) (args := [.inr (.inr (.inl 63)), .inl (if v1 = 7 then 21 else (if v1 = 8 then 22 else v1 : Int) : Int)]) (rest := []) (y2 := 228) rfl rfl rfl (Or.inl rfl) rfl rfl (Nat.le_of_ble_eq_true rfl) rfl rfl (Nat.le_of_ble_eq_true rfl) (Nat.le_of_ble_eq_true rfl) (s_Mo_push e3) ?_
      rintro _ _ ⟨rfl, rfl⟩
      obtain ⟨q4, e4, hf⟩ := obind hf
      refine ok_callA (L := [some (.inr (.inr (.inl 63))), some (.inl v1)]) (M := mm q3 h) (args := [.inr (.inr (.inl 63))]) (rest := []) (y2 := 174) rfl rfl rfl (Or.inl rfl) rfl rfl (Nat.le_of_ble_eq_true rfl) rfl rfl (Nat.le_of_ble_eq_true rfl) (Nat.le_of_ble_eq_true rfl) (s_Mo_nextToken e4) ?_
      rintro _ _ ⟨rfl, rfl⟩
      obtain rfl := Option.some.inj hf
      refine ok_ireturn (L := [some (.inr (.inr (.inl 63))), some (.inl v1)]) (M := mm q4 h) (x := 0) rfl rfl ?_
      exact ⟨rfl, rfl⟩
    clear hf
    refine ok_ic_ne (x := v1) (u := 7) (L := [some (.inr (.inr (.inl 63))), some (.inl v1)]) (S := [.inr (.inr (.inl 63))]) (M := mm (up V 62 109 (w32 ((V 62 109) + 1))) h) rfl rfl (fun c5 => ?_) (fun c5 => ?_)
    ·
      simp only [if_neg c5] at JN2
      refine ok_ic_ne (x := v1) (u := 8) (L := [some (.inr (.inr (.inl 63))), some (.inl v1)]) (S := [.inr (.inr (.inl 63))]) (M := mm (up V 62 109 (w32 ((V 62 109) + 1))) h) rfl rfl (fun c6 => ?_) (fun c6 => ?_)
      ·
        simp only [if_neg c6] at JN2
        refine ok_thru (L := [some (.inr (.inr (.inl 63))), some (.inl v1)]) (S := [.inl v1, .inr (.inr (.inl 63))]) (M := mm (up V 62 109 (w32 ((V 62 109) + 1))) h) rfl rfl ?_
        first | exact JN2 | (simp only [if_neg c5, if_neg c6]; exact JN2)
      ·
        simp only [if_pos c6] at JN2
        refine ok_goto (L := [some (.inr (.inr (.inl 63))), some (.inl v1)]) (S := [.inl 22, .inr (.inr (.inl 63))]) (M := mm (up V 62 109 (w32 ((V 62 109) + 1))) h) rfl rfl ?_
        first | exact JN2 | (simp only [if_neg c5, if_pos c6]; exact JN2)
    ·
      simp only [if_pos c5] at JN2
      refine ok_goto (L := [some (.inr (.inr (.inl 63))), some (.inl v1)]) (S := [.inl 21, .inr (.inr (.inl 63))]) (M := mm (up V 62 109 (w32 ((V 62 109) + 1))) h) rfl rfl ?_
      first | exact JN2 | (simp only [if_pos c5]; exact JN2)
  ·
    replace hf := (if_pos c1).symm.trans hf
    obtain rfl := Option.some.inj hf
    refine ok_ireturn (L := [some (.inr (.inr (.inl 63))), some (.inl v1)]) (M := mm V h) (x := 3) rfl rfl ?_
    exact ⟨rfl, rfl⟩
def f_Mo_beginOne_34 (V : VV) (v1 : Int) : Option (VV × Int) := Option.bind (f_Mo_nextToken V) (fun q1 => if (q1 62 45) = 40 then f_Mo_beginOne_37 q1 v1 else some (q1, 1))
set_option maxRecDepth 20000 in
set_option maxHeartbeats 4000000 in
theorem s_Mo_beginOne_34 {X : Xs} {d : Nat} {V : VV} {h : HP} {v1 : Int} {q : VV × Int} (hf : f_Mo_beginOne_34 V v1 = some q) : Ok X (d + 4) 230 34 ([some (.inr (.inr (.inl 63))), some (.inl v1)], [], mm V h) (fun M r => M = mm q.1 h ∧ r = some (.inl q.2)) := by
  let QQ : Mm → Option AV → Prop := fun M r => M = mm q.1 h ∧ r = some (.inl q.2)
  show Ok X (d + 4) 230 34 ([some (.inr (.inr (.inl 63))), some (.inl v1)], [], mm V h) QQ
  obtain ⟨q1, e1, hf⟩ := obind hf
  refine ok_callA (L := [some (.inr (.inr (.inl 63))), some (.inl v1)]) (M := mm V h) (args := [.inr (.inr (.inl 63))]) (rest := []) (y2 := 174) rfl rfl rfl (Or.inl rfl) rfl rfl (Nat.le_of_ble_eq_true rfl) rfl rfl (Nat.le_of_ble_eq_true rfl) (Nat.le_of_ble_eq_true rfl) (s_Mo_nextToken e1) ?_
  rintro _ _ ⟨rfl, rfl⟩
  refine ok_ic_eq (x := q1 62 45) (u := 40) (L := [some (.inr (.inr (.inl 63))), some (.inl v1)]) (S := []) (M := mm q1 h) rfl rfl (fun c2 => ?_) (fun c2 => ?_)
  ·
    replace hf := (if_pos c2).symm.trans hf
    exact s_Mo_beginOne_37 hf
  ·
    replace hf := (if_neg c2).symm.trans hf
    obtain rfl := Option.some.inj hf
    refine ok_ireturn (L := [some (.inr (.inr (.inl 63))), some (.inl v1)]) (M := mm q1 h) (x := 1) rfl rfl ?_
    exact ⟨rfl, rfl⟩
def f_Mo_beginOne_17 (V : VV)  : Option (VV × Int) := if (if (V 62 45) = 2 then (if (lcmpI (V 62 47) (f_Mo_add V 109 105 110)) = 0 then 7 else (if (lcmpI (V 62 47) (f_Mo_add V 109 97 120)) = 0 then 8 else 0 : Int) : Int) else (if (V 62 45) = 40 then 20 else (if (V 62 45) = 45 then 2 else 0 : Int) : Int) : Int) = 0 then some (V, 1) else if (if (V 62 45) = 2 then (if (lcmpI (V 62 47) (f_Mo_add V 109 105 110)) = 0 then 7 else (if (lcmpI (V 62 47) (f_Mo_add V 109 97 120)) = 0 then 8 else 0 : Int) : Int) else (if (V 62 45) = 40 then 20 else (if (V 62 45) = 45 then 2 else 0 : Int) : Int) : Int) = 7 then f_Mo_beginOne_34 V (if (V 62 45) = 2 then (if (lcmpI (V 62 47) (f_Mo_add V 109 105 110)) = 0 then 7 else (if (lcmpI (V 62 47) (f_Mo_add V 109 97 120)) = 0 then 8 else 0 : Int) : Int) else (if (V 62 45) = 40 then 20 else (if (V 62 45) = 45 then 2 else 0 : Int) : Int) : Int) else if (if (V 62 45) = 2 then (if (lcmpI (V 62 47) (f_Mo_add V 109 105 110)) = 0 then 7 else (if (lcmpI (V 62 47) (f_Mo_add V 109 97 120)) = 0 then 8 else 0 : Int) : Int) else (if (V 62 45) = 40 then 20 else (if (V 62 45) = 45 then 2 else 0 : Int) : Int) : Int) = 8 then f_Mo_beginOne_34 V (if (V 62 45) = 2 then (if (lcmpI (V 62 47) (f_Mo_add V 109 105 110)) = 0 then 7 else (if (lcmpI (V 62 47) (f_Mo_add V 109 97 120)) = 0 then 8 else 0 : Int) : Int) else (if (V 62 45) = 40 then 20 else (if (V 62 45) = 45 then 2 else 0 : Int) : Int) : Int) else f_Mo_beginOne_37 V (if (V 62 45) = 2 then (if (lcmpI (V 62 47) (f_Mo_add V 109 105 110)) = 0 then 7 else (if (lcmpI (V 62 47) (f_Mo_add V 109 97 120)) = 0 then 8 else 0 : Int) : Int) else (if (V 62 45) = 40 then 20 else (if (V 62 45) = 45 then 2 else 0 : Int) : Int) : Int)
set_option maxRecDepth 20000 in
set_option maxHeartbeats 4000000 in
theorem s_Mo_beginOne_17 {X : Xs} {d : Nat} {V : VV} {h : HP} {z1 : Option AV} {q : VV × Int} (hf : f_Mo_beginOne_17 V = some q) : Ok X (d + 4) 230 17 ([some (.inr (.inr (.inl 63))), z1], [], mm V h) (fun M r => M = mm q.1 h ∧ r = some (.inl q.2)) := by
  let QQ : Mm → Option AV → Prop := fun M r => M = mm q.1 h ∧ r = some (.inl q.2)
  show Ok X (d + 4) 230 17 ([some (.inr (.inr (.inl 63))), z1], [], mm V h) QQ
  have JN1 : Ok X (d + 4) 230 30 ([some (.inr (.inr (.inl 63))), z1], [.inl (if (V 62 45) = 2 then (if (lcmpI (V 62 47) (f_Mo_add V 109 105 110)) = 0 then 7 else (if (lcmpI (V 62 47) (f_Mo_add V 109 97 120)) = 0 then 8 else 0 : Int) : Int) else (if (V 62 45) = 40 then 20 else (if (V 62 45) = 45 then 2 else 0 : Int) : Int) : Int)], mm V h) QQ := by
    refine ok_if_ne (x := (if (V 62 45) = 2 then (if (lcmpI (V 62 47) (f_Mo_add V 109 105 110)) = 0 then 7 else (if (lcmpI (V 62 47) (f_Mo_add V 109 97 120)) = 0 then 8 else 0 : Int) : Int) else (if (V 62 45) = 40 then 20 else (if (V 62 45) = 45 then 2 else 0 : Int) : Int) : Int)) (L := [some (.inr (.inr (.inl 63))), some (.inl (if (V 62 45) = 2 then (if (lcmpI (V 62 47) (f_Mo_add V 109 105 110)) = 0 then 7 else (if (lcmpI (V 62 47) (f_Mo_add V 109 97 120)) = 0 then 8 else 0 : Int) : Int) else (if (V 62 45) = 40 then 20 else (if (V 62 45) = 45 then 2 else 0 : Int) : Int) : Int))]) (S := []) (M := mm V h) rfl rfl (fun c2 => ?_) (fun c2 => ?_)
    ·
      replace hf := (if_neg c2).symm.trans hf
      refine ok_ic_eq (x := (if (V 62 45) = 2 then (if (lcmpI (V 62 47) (f_Mo_add V 109 105 110)) = 0 then 7 else (if (lcmpI (V 62 47) (f_Mo_add V 109 97 120)) = 0 then 8 else 0 : Int) : Int) else (if (V 62 45) = 40 then 20 else (if (V 62 45) = 45 then 2 else 0 : Int) : Int) : Int)) (u := 7) (L := [some (.inr (.inr (.inl 63))), some (.inl (if (V 62 45) = 2 then (if (lcmpI (V 62 47) (f_Mo_add V 109 105 110)) = 0 then 7 else (if (lcmpI (V 62 47) (f_Mo_add V 109 97 120)) = 0 then 8 else 0 : Int) : Int) else (if (V 62 45) = 40 then 20 else (if (V 62 45) = 45 then 2 else 0 : Int) : Int) : Int))]) (S := []) (M := mm V h) rfl rfl (fun c3 => ?_) (fun c3 => ?_)
      ·
        replace hf := (if_pos c3).symm.trans hf
        exact s_Mo_beginOne_34 hf
      ·
        replace hf := (if_neg c3).symm.trans hf
        refine ok_ic_ne (x := (if (V 62 45) = 2 then (if (lcmpI (V 62 47) (f_Mo_add V 109 105 110)) = 0 then 7 else (if (lcmpI (V 62 47) (f_Mo_add V 109 97 120)) = 0 then 8 else 0 : Int) : Int) else (if (V 62 45) = 40 then 20 else (if (V 62 45) = 45 then 2 else 0 : Int) : Int) : Int)) (u := 8) (L := [some (.inr (.inr (.inl 63))), some (.inl (if (V 62 45) = 2 then (if (lcmpI (V 62 47) (f_Mo_add V 109 105 110)) = 0 then 7 else (if (lcmpI (V 62 47) (f_Mo_add V 109 97 120)) = 0 then 8 else 0 : Int) : Int) else (if (V 62 45) = 40 then 20 else (if (V 62 45) = 45 then 2 else 0 : Int) : Int) : Int))]) (S := []) (M := mm V h) rfl rfl (fun c4 => ?_) (fun c4 => ?_)
        ·
          replace hf := (if_neg c4).symm.trans hf
          exact s_Mo_beginOne_37 hf
        ·
          replace hf := (if_pos c4).symm.trans hf
          exact s_Mo_beginOne_34 hf
    ·
      replace hf := (if_pos c2).symm.trans hf
      obtain rfl := Option.some.inj hf
      refine ok_ireturn (L := [some (.inr (.inr (.inl 63))), some (.inl (if (V 62 45) = 2 then (if (lcmpI (V 62 47) (f_Mo_add V 109 105 110)) = 0 then 7 else (if (lcmpI (V 62 47) (f_Mo_add V 109 97 120)) = 0 then 8 else 0 : Int) : Int) else (if (V 62 45) = 40 then 20 else (if (V 62 45) = 45 then 2 else 0 : Int) : Int) : Int))]) (M := mm V h) (x := 1) rfl rfl ?_
      exact ⟨rfl, rfl⟩
  clear hf
  refine ok_ic_ne (x := V 62 45) (u := 2) (L := [some (.inr (.inr (.inl 63))), z1]) (S := []) (M := mm V h) rfl rfl (fun c5 => ?_) (fun c5 => ?_)
  ·
    simp only [if_neg c5] at JN1
    refine ok_ic_ne (x := V 62 45) (u := 40) (L := [some (.inr (.inr (.inl 63))), z1]) (S := []) (M := mm V h) rfl rfl (fun c6 => ?_) (fun c6 => ?_)
    ·
      simp only [if_neg c6] at JN1
      refine ok_ic_ne (x := V 62 45) (u := 45) (L := [some (.inr (.inr (.inl 63))), z1]) (S := []) (M := mm V h) rfl rfl (fun c7 => ?_) (fun c7 => ?_)
      ·
        simp only [if_neg c7] at JN1
        refine ok_thru (L := [some (.inr (.inr (.inl 63))), z1]) (S := [.inl 0]) (M := mm V h) rfl rfl ?_
        first | exact JN1 | (simp only [if_neg c5, if_neg c6, if_neg c7]; exact JN1)
      ·
        simp only [if_pos c7] at JN1
        refine ok_goto (L := [some (.inr (.inr (.inl 63))), z1]) (S := [.inl 2]) (M := mm V h) rfl rfl ?_
        first | exact JN1 | (simp only [if_neg c5, if_neg c6, if_pos c7]; exact JN1)
    ·
      simp only [if_pos c6] at JN1
      refine ok_goto (L := [some (.inr (.inr (.inl 63))), z1]) (S := [.inl 20]) (M := mm V h) rfl rfl ?_
      first | exact JN1 | (simp only [if_neg c5, if_pos c6]; exact JN1)
  ·
    simp only [if_pos c5] at JN1
    refine ok_callA (L := [some (.inr (.inr (.inl 63))), z1]) (M := mm V h) (args := [.inr (.inl 109), .inl 105, .inl 110]) (rest := [.inr (.inl (V 62 47))]) (y2 := 180) rfl rfl rfl (Or.inr (Or.inl rfl)) rfl rfl (Nat.le_of_ble_eq_true rfl) rfl rfl (Nat.le_of_ble_eq_true rfl) (Nat.le_of_ble_eq_true rfl) (s_Mo_add rfl) ?_
    rintro _ _ ⟨rfl, rfl⟩
    refine ok_if_ne (x := lcmpI (V 62 47) (f_Mo_add V 109 105 110)) (L := [some (.inr (.inr (.inl 63))), z1]) (S := []) (M := mm V h) rfl rfl (fun c9 => ?_) (fun c9 => ?_)
    ·
      simp only [if_neg c9] at JN1
      refine ok_callA (L := [some (.inr (.inr (.inl 63))), z1]) (M := mm V h) (args := [.inr (.inl 109), .inl 97, .inl 120]) (rest := [.inr (.inl (V 62 47))]) (y2 := 180) rfl rfl rfl (Or.inr (Or.inl rfl)) rfl rfl (Nat.le_of_ble_eq_true rfl) rfl rfl (Nat.le_of_ble_eq_true rfl) (Nat.le_of_ble_eq_true rfl) (s_Mo_add rfl) ?_
      rintro _ _ ⟨rfl, rfl⟩
      refine ok_if_ne (x := lcmpI (V 62 47) (f_Mo_add V 109 97 120)) (L := [some (.inr (.inr (.inl 63))), z1]) (S := []) (M := mm V h) rfl rfl (fun c11 => ?_) (fun c11 => ?_)
      ·
        simp only [if_neg c11] at JN1
        refine ok_goto (L := [some (.inr (.inr (.inl 63))), z1]) (S := [.inl 0]) (M := mm V h) rfl rfl ?_
        first | exact JN1 | (simp only [if_pos c5, if_neg c9, if_neg c11]; exact JN1)
      ·
        simp only [if_pos c11] at JN1
        refine ok_goto (L := [some (.inr (.inr (.inl 63))), z1]) (S := [.inl 8]) (M := mm V h) rfl rfl ?_
        first | exact JN1 | (simp only [if_pos c5, if_neg c9, if_pos c11]; exact JN1)
    ·
      simp only [if_pos c9] at JN1
      refine ok_goto (L := [some (.inr (.inr (.inl 63))), z1]) (S := [.inl 7]) (M := mm V h) rfl rfl ?_
      first | exact JN1 | (simp only [if_pos c5, if_pos c9]; exact JN1)
def f_Mo_beginOne_3 (V : VV)  : Option (VV × Int) := if (V 62 45) = 1 then f_Mo_beginOne_7 V else if (V 62 45) = 2 then if (f_Mo_letterOf V) < 0 then f_Mo_beginOne_17 V else f_Mo_beginOne_7 V else f_Mo_beginOne_17 V
set_option maxRecDepth 20000 in
set_option maxHeartbeats 4000000 in
theorem s_Mo_beginOne_3 {X : Xs} {d : Nat} {V : VV} {h : HP} {z1 : Option AV} {q : VV × Int} (hf : f_Mo_beginOne_3 V = some q) : Ok X (d + 4) 230 3 ([some (.inr (.inr (.inl 63))), z1], [], mm V h) (fun M r => M = mm q.1 h ∧ r = some (.inl q.2)) := by
  let QQ : Mm → Option AV → Prop := fun M r => M = mm q.1 h ∧ r = some (.inl q.2)
  show Ok X (d + 4) 230 3 ([some (.inr (.inr (.inl 63))), z1], [], mm V h) QQ
  refine ok_ic_eq (x := V 62 45) (u := 1) (L := [some (.inr (.inr (.inl 63))), z1]) (S := []) (M := mm V h) rfl rfl (fun c1 => ?_) (fun c1 => ?_)
  ·
    replace hf := (if_pos c1).symm.trans hf
    exact s_Mo_beginOne_7 hf
  ·
    replace hf := (if_neg c1).symm.trans hf
    refine ok_ic_ne (x := V 62 45) (u := 2) (L := [some (.inr (.inr (.inl 63))), z1]) (S := []) (M := mm V h) rfl rfl (fun c2 => ?_) (fun c2 => ?_)
    ·
      replace hf := (if_neg c2).symm.trans hf
      exact s_Mo_beginOne_17 hf
    ·
      replace hf := (if_pos c2).symm.trans hf
      refine ok_callA (L := [some (.inr (.inr (.inl 63))), z1]) (M := mm V h) (args := [.inr (.inr (.inl 63))]) (rest := []) (y2 := 231) rfl rfl rfl (Or.inl rfl) rfl rfl (Nat.le_of_ble_eq_true rfl) rfl rfl (Nat.le_of_ble_eq_true rfl) (Nat.le_of_ble_eq_true rfl) (s_Mo_letterOf rfl) ?_
      rintro _ _ ⟨rfl, rfl⟩
      refine ok_if_lt (x := f_Mo_letterOf V) (L := [some (.inr (.inr (.inl 63))), z1]) (S := []) (M := mm V h) rfl rfl (fun c4 => ?_) (fun c4 => ?_)
      ·
        replace hf := (if_pos c4).symm.trans hf
        exact s_Mo_beginOne_17 hf
      ·
        replace hf := (if_neg (Int.not_lt.mpr c4)).symm.trans hf
        exact s_Mo_beginOne_7 hf
def f_Mo_beginOne (V : VV)  : Option (VV × Int) := if (V 62 45) = 1 then if 9999 < (V 62 46) then some (V, 2) else f_Mo_beginOne_3 V else f_Mo_beginOne_3 V
set_option maxRecDepth 20000 in
set_option maxHeartbeats 4000000 in
theorem s_Mo_beginOne {X : Xs} {d : Nat} {V : VV} {h : HP} {q : VV × Int} (hf : f_Mo_beginOne V = some q) : Ok X (d + 4) 230 0 ([some (.inr (.inr (.inl 63))), none], [], mm V h) (fun M r => M = mm q.1 h ∧ r = some (.inl q.2)) := by
  let QQ : Mm → Option AV → Prop := fun M r => M = mm q.1 h ∧ r = some (.inl q.2)
  show Ok X (d + 4) 230 0 ([some (.inr (.inr (.inl 63))), none], [], mm V h) QQ
  refine ok_ic_ne (x := V 62 45) (u := 1) (L := [some (.inr (.inr (.inl 63))), none]) (S := []) (M := mm V h) rfl rfl (fun c1 => ?_) (fun c1 => ?_)
  ·
    replace hf := (if_neg c1).symm.trans hf
    exact s_Mo_beginOne_3 hf
  ·
    replace hf := (if_pos c1).symm.trans hf
    refine ok_ic_le (x := V 62 46) (u := 9999) (L := [some (.inr (.inr (.inl 63))), none]) (S := []) (M := mm V h) rfl rfl (fun c2 => ?_) (fun c2 => ?_)
    ·
      replace hf := (if_neg (Int.not_lt.mpr c2)).symm.trans hf
      exact s_Mo_beginOne_3 hf
    ·
      replace hf := (if_pos c2).symm.trans hf
      obtain rfl := Option.some.inj hf
      refine ok_ireturn (L := [some (.inr (.inr (.inl 63))), none]) (M := mm V h) (x := 2) rfl rfl ?_
      exact ⟨rfl, rfl⟩
