/-! shallow functions of the model (printed by wip/tools/gen40.py) -/
def f_Mo_job (V : VV) (v1 : Int) (v2 : Int) : Option (VV × Int) := Option.bind (f_Mo_hasJobs V) (fun q1 => if (f_Mo_isIn q1.1 v1 0 (w32 ((q1.1 62 13) - 1))) = 0 then some (q1.1, (-1)) else if v2 = 0 then if (q1.1 62 0) = 0 then none else some (q1.1, Int.tmod v1 (q1.1 62 0)) else if v2 = 1 then if (q1.1 62 0) = 0 then none else some (q1.1, w32 (Int.tdiv v1 (q1.1 62 0))) else if v2 = 2 then if 0 ≤ v1 ∧ v1 < (36 : Int) then some (q1.1, q1.1 69 v1.toNat) else none else if v2 = 3 then if 0 ≤ v1 ∧ v1 < (36 : Int) then some (q1.1, q1.1 70 v1.toNat) else none else some (q1.1, (-1)))
set_option maxRecDepth 20000 in
set_option maxHeartbeats 4000000 in
theorem s_Mo_job {X : Xs} {d : Nat} {V : VV} {h : HP} {v1 : Int} {v2 : Int} {q : VV × Int} (hf : f_Mo_job V v1 v2 = some q) : Ok X (d + 5) 161 0 ([some (.inr (.inr (.inl 63))), some (.inl v1), some (.inl v2)], [], mm V h) (fun M r => M = mm q.1 h ∧ r = some (.inl q.2)) := by
  let QQ : Mm → Option AV → Prop := fun M r => M = mm q.1 h ∧ r = some (.inl q.2)
  show Ok X (d + 5) 161 0 ([some (.inr (.inr (.inl 63))), some (.inl v1), some (.inl v2)], [], mm V h) QQ
  obtain ⟨q1, e1, hf⟩ := obind hf
  refine ok_callA (L := [some (.inr (.inr (.inl 63))), some (.inl v1), some (.inl v2)]) (M := mm V h) (args := [.inr (.inr (.inl 63))]) (rest := []) (y2 := 162) rfl rfl rfl (Or.inl rfl) rfl rfl (Nat.le_of_ble_eq_true rfl) rfl rfl (Nat.le_of_ble_eq_true rfl) (Nat.le_of_ble_eq_true rfl) (s_Mo_hasJobs e1) ?_
  rintro _ _ ⟨rfl, rfl, hz1⟩
  refine ok_callA (L := [some (.inr (.inr (.inl 63))), some (.inl v1), some (.inl v2)]) (M := mm q1.1 h) (args := [.inl v1, .inl 0, .inl (w32 ((q1.1 62 13) - 1))]) (rest := []) (y2 := 152) rfl rfl rfl (Or.inr (Or.inl rfl)) rfl rfl (Nat.le_of_ble_eq_true rfl) rfl rfl (Nat.le_of_ble_eq_true rfl) (Nat.le_of_ble_eq_true rfl) (s_Mo_isIn rfl) ?_
  rintro _ _ ⟨rfl, rfl, hz2⟩
  refine ok_if_ne (x := f_Mo_isIn q1.1 v1 0 (w32 ((q1.1 62 13) - 1))) (L := [some (.inr (.inr (.inl 63))), some (.inl v1), some (.inl v2)]) (S := []) (M := mm q1.1 h) rfl rfl (fun c3 => ?_) (fun c3 => ?_)
  ·
    replace hf := (if_neg c3).symm.trans hf
    refine ok_if_ne (x := v2) (L := [some (.inr (.inr (.inl 63))), some (.inl v1), some (.inl v2)]) (S := []) (M := mm q1.1 h) rfl rfl (fun c4 => ?_) (fun c4 => ?_)
    ·
      replace hf := (if_neg c4).symm.trans hf
      refine ok_ic_ne (x := v2) (u := 1) (L := [some (.inr (.inr (.inl 63))), some (.inl v1), some (.inl v2)]) (S := []) (M := mm q1.1 h) rfl rfl (fun c5 => ?_) (fun c5 => ?_)
      ·
        replace hf := (if_neg c5).symm.trans hf
        refine ok_ic_ne (x := v2) (u := 2) (L := [some (.inr (.inr (.inl 63))), some (.inl v1), some (.inl v2)]) (S := []) (M := mm q1.1 h) rfl rfl (fun c6 => ?_) (fun c6 => ?_)
        ·
          replace hf := (if_neg c6).symm.trans hf
          refine ok_ic_ne (x := v2) (u := 3) (L := [some (.inr (.inr (.inl 63))), some (.inl v1), some (.inl v2)]) (S := []) (M := mm q1.1 h) rfl rfl (fun c7 => ?_) (fun c7 => ?_)
          ·
            replace hf := (if_neg c7).symm.trans hf
            refine ok_thru (L := [some (.inr (.inr (.inl 63))), some (.inl v1), some (.inl v2)]) (S := [.inl (-1)]) (M := mm q1.1 h) rfl rfl ?_
            obtain rfl := Option.some.inj hf
            refine ok_ireturn (L := [some (.inr (.inr (.inl 63))), some (.inl v1), some (.inl v2)]) (M := mm q1.1 h) (x := (-1)) rfl rfl ?_
            exact ⟨rfl, rfl⟩
          ·
            replace hf := (if_pos c7).symm.trans hf
            by_cases c8 : 0 ≤ v1 ∧ v1 < (36 : Int)
            case neg => replace hf := (if_neg c8).symm.trans hf; cases hf
            replace hf := (if_pos c8).symm.trans hf
            refine ok_iald (i := v1) (id := 70) (n := 36) (L := [some (.inr (.inr (.inl 63))), some (.inl v1), some (.inl v2)]) (S := []) (M := mm q1.1 h) rfl rfl rfl c8.1 c8.2 ?_
            refine ok_goto (L := [some (.inr (.inr (.inl 63))), some (.inl v1), some (.inl v2)]) (S := [.inl (q1.1 70 v1.toNat)]) (M := mm q1.1 h) rfl rfl ?_
            obtain rfl := Option.some.inj hf
            refine ok_ireturn (L := [some (.inr (.inr (.inl 63))), some (.inl v1), some (.inl v2)]) (M := mm q1.1 h) (x := q1.1 70 v1.toNat) rfl rfl ?_
            exact ⟨rfl, rfl⟩
        ·
          replace hf := (if_pos c6).symm.trans hf
          by_cases c9 : 0 ≤ v1 ∧ v1 < (36 : Int)
          case neg => replace hf := (if_neg c9).symm.trans hf; cases hf
          replace hf := (if_pos c9).symm.trans hf
          refine ok_iald (i := v1) (id := 69) (n := 36) (L := [some (.inr (.inr (.inl 63))), some (.inl v1), some (.inl v2)]) (S := []) (M := mm q1.1 h) rfl rfl rfl c9.1 c9.2 ?_
          refine ok_goto (L := [some (.inr (.inr (.inl 63))), some (.inl v1), some (.inl v2)]) (S := [.inl (q1.1 69 v1.toNat)]) (M := mm q1.1 h) rfl rfl ?_
          obtain rfl := Option.some.inj hf
          refine ok_ireturn (L := [some (.inr (.inr (.inl 63))), some (.inl v1), some (.inl v2)]) (M := mm q1.1 h) (x := q1.1 69 v1.toNat) rfl rfl ?_
          exact ⟨rfl, rfl⟩
      ·
        replace hf := (if_pos c5).symm.trans hf
        by_cases c10 : (q1.1 62 0) = 0
        case pos => replace hf := (if_pos c10).symm.trans hf; cases hf
        replace hf := (if_neg c10).symm.trans hf
        refine ok_idiv (u := v1) (v := q1.1 62 0) (L := [some (.inr (.inr (.inl 63))), some (.inl v1), some (.inl v2)]) (S := []) (M := mm q1.1 h) rfl rfl c10 ?_
        refine ok_goto (L := [some (.inr (.inr (.inl 63))), some (.inl v1), some (.inl v2)]) (S := [.inl (w32 (Int.tdiv v1 (q1.1 62 0)))]) (M := mm q1.1 h) rfl rfl ?_
        obtain rfl := Option.some.inj hf
        refine ok_ireturn (L := [some (.inr (.inr (.inl 63))), some (.inl v1), some (.inl v2)]) (M := mm q1.1 h) (x := w32 (Int.tdiv v1 (q1.1 62 0))) rfl rfl ?_
        exact ⟨rfl, rfl⟩
    ·
      replace hf := (if_pos c4).symm.trans hf
      by_cases c11 : (q1.1 62 0) = 0
      case pos => replace hf := (if_pos c11).symm.trans hf; cases hf
      replace hf := (if_neg c11).symm.trans hf
      refine ok_irem (u := v1) (v := q1.1 62 0) (L := [some (.inr (.inr (.inl 63))), some (.inl v1), some (.inl v2)]) (S := []) (M := mm q1.1 h) rfl rfl c11 ?_
      refine ok_goto (L := [some (.inr (.inr (.inl 63))), some (.inl v1), some (.inl v2)]) (S := [.inl (Int.tmod v1 (q1.1 62 0))]) (M := mm q1.1 h) rfl rfl ?_
      obtain rfl := Option.some.inj hf
      refine ok_ireturn (L := [some (.inr (.inr (.inl 63))), some (.inl v1), some (.inl v2)]) (M := mm q1.1 h) (x := Int.tmod v1 (q1.1 62 0)) rfl rfl ?_
      exact ⟨rfl, rfl⟩
  ·
    replace hf := (if_pos c3).symm.trans hf
    obtain rfl := Option.some.inj hf
    refine ok_ireturn (L := [some (.inr (.inr (.inl 63))), some (.inl v1), some (.inl v2)]) (M := mm q1.1 h) (x := (-1)) rfl rfl ?_
    exact ⟨rfl, rfl⟩
def f_Mo_plant (V : VV) (v1 : Int) (v2 : Int) (v3 : Int) (v4 : Int) : Option (VV × Int) := if (f_Mo_isIn V v1 0 2) = 0 then some (V, (-1)) else if (f_Mo_isIn V v2 1 10) = 0 then some (V, (-1)) else if (f_Mo_isIn V v3 10 200) = 0 then some (V, (-1)) else if (f_Mo_isIn V v4 1 20) = 0 then some (V, (-1)) else if (V 62 17) = 3 then some (V, (-1)) else if 0 ≤ (V 62 17) ∧ (V 62 17) < (3 : Int) then if 0 ≤ (V 62 17) ∧ (V 62 17) < (3 : Int) then if 0 ≤ (V 62 17) ∧ (V 62 17) < (3 : Int) then if 0 ≤ (V 62 17) ∧ (V 62 17) < (3 : Int) then some (up (up (up (up (up V 71 ((V 62 17).toNat) v1) 72 ((V 62 17).toNat) v2) 73 ((V 62 17).toNat) v3) 74 ((V 62 17).toNat) v4) 62 17 (w32 ((V 62 17) + 1)), w32 ((w32 ((V 62 17) + 1)) - 1)) else none else none else none else none
set_option maxRecDepth 20000 in
set_option maxHeartbeats 4000000 in
theorem s_Mo_plant {X : Xs} {d : Nat} {V : VV} {h : HP} {v1 : Int} {v2 : Int} {v3 : Int} {v4 : Int} {q : VV × Int} (hf : f_Mo_plant V v1 v2 v3 v4 = some q) : Ok X (d + 2) 163 0 ([some (.inr (.inr (.inl 63))), some (.inl v1), some (.inl v2), some (.inl v3), some (.inl v4)], [], mm V h) (fun M r => M = mm q.1 h ∧ r = some (.inl q.2)) := by
  let QQ : Mm → Option AV → Prop := fun M r => M = mm q.1 h ∧ r = some (.inl q.2)
  show Ok X (d + 2) 163 0 ([some (.inr (.inr (.inl 63))), some (.inl v1), some (.inl v2), some (.inl v3), some (.inl v4)], [], mm V h) QQ
  refine ok_callA (L := [some (.inr (.inr (.inl 63))), some (.inl v1), some (.inl v2), some (.inl v3), some (.inl v4)]) (M := mm V h) (args := [.inl v1, .inl 0, .inl 2]) (rest := []) (y2 := 152) rfl rfl rfl (Or.inr (Or.inl rfl)) rfl rfl (Nat.le_of_ble_eq_true rfl) rfl rfl (Nat.le_of_ble_eq_true rfl) (Nat.le_of_ble_eq_true rfl) (s_Mo_isIn rfl) ?_
  rintro _ _ ⟨rfl, rfl, hz1⟩
  refine ok_if_eq (x := f_Mo_isIn V v1 0 2) (L := [some (.inr (.inr (.inl 63))), some (.inl v1), some (.inl v2), some (.inl v3), some (.inl v4)]) (S := []) (M := mm V h) rfl rfl (fun c2 => ?_) (fun c2 => ?_)
  ·
    replace hf := (if_pos c2).symm.trans hf
    obtain rfl := Option.some.inj hf
    refine ok_ireturn (L := [some (.inr (.inr (.inl 63))), some (.inl v1), some (.inl v2), some (.inl v3), some (.inl v4)]) (M := mm V h) (x := (-1)) rfl rfl ?_
    exact ⟨rfl, rfl⟩
  ·
    replace hf := (if_neg c2).symm.trans hf
    refine ok_callA (L := [some (.inr (.inr (.inl 63))), some (.inl v1), some (.inl v2), some (.inl v3), some (.inl v4)]) (M := mm V h) (args := [.inl v2, .inl 1, .inl 10]) (rest := []) (y2 := 152) rfl rfl rfl (Or.inr (Or.inl rfl)) rfl rfl (Nat.le_of_ble_eq_true rfl) rfl rfl (Nat.le_of_ble_eq_true rfl) (Nat.le_of_ble_eq_true rfl) (s_Mo_isIn rfl) ?_
    rintro _ _ ⟨rfl, rfl, hz3⟩
    refine ok_if_eq (x := f_Mo_isIn V v2 1 10) (L := [some (.inr (.inr (.inl 63))), some (.inl v1), some (.inl v2), some (.inl v3), some (.inl v4)]) (S := []) (M := mm V h) rfl rfl (fun c4 => ?_) (fun c4 => ?_)
    ·
      replace hf := (if_pos c4).symm.trans hf
      obtain rfl := Option.some.inj hf
      refine ok_ireturn (L := [some (.inr (.inr (.inl 63))), some (.inl v1), some (.inl v2), some (.inl v3), some (.inl v4)]) (M := mm V h) (x := (-1)) rfl rfl ?_
      exact ⟨rfl, rfl⟩
    ·
      replace hf := (if_neg c4).symm.trans hf
      refine ok_callA (L := [some (.inr (.inr (.inl 63))), some (.inl v1), some (.inl v2), some (.inl v3), some (.inl v4)]) (M := mm V h) (args := [.inl v3, .inl 10, .inl 200]) (rest := []) (y2 := 152) rfl rfl rfl (Or.inr (Or.inl rfl)) rfl rfl (Nat.le_of_ble_eq_true rfl) rfl rfl (Nat.le_of_ble_eq_true rfl) (Nat.le_of_ble_eq_true rfl) (s_Mo_isIn rfl) ?_
      rintro _ _ ⟨rfl, rfl, hz5⟩
      refine ok_if_eq (x := f_Mo_isIn V v3 10 200) (L := [some (.inr (.inr (.inl 63))), some (.inl v1), some (.inl v2), some (.inl v3), some (.inl v4)]) (S := []) (M := mm V h) rfl rfl (fun c6 => ?_) (fun c6 => ?_)
      ·
        replace hf := (if_pos c6).symm.trans hf
        obtain rfl := Option.some.inj hf
        refine ok_ireturn (L := [some (.inr (.inr (.inl 63))), some (.inl v1), some (.inl v2), some (.inl v3), some (.inl v4)]) (M := mm V h) (x := (-1)) rfl rfl ?_
        exact ⟨rfl, rfl⟩
      ·
        replace hf := (if_neg c6).symm.trans hf
        refine ok_callA (L := [some (.inr (.inr (.inl 63))), some (.inl v1), some (.inl v2), some (.inl v3), some (.inl v4)]) (M := mm V h) (args := [.inl v4, .inl 1, .inl 20]) (rest := []) (y2 := 152) rfl rfl rfl (Or.inr (Or.inl rfl)) rfl rfl (Nat.le_of_ble_eq_true rfl) rfl rfl (Nat.le_of_ble_eq_true rfl) (Nat.le_of_ble_eq_true rfl) (s_Mo_isIn rfl) ?_
        rintro _ _ ⟨rfl, rfl, hz7⟩
        refine ok_if_eq (x := f_Mo_isIn V v4 1 20) (L := [some (.inr (.inr (.inl 63))), some (.inl v1), some (.inl v2), some (.inl v3), some (.inl v4)]) (S := []) (M := mm V h) rfl rfl (fun c8 => ?_) (fun c8 => ?_)
        ·
          replace hf := (if_pos c8).symm.trans hf
          obtain rfl := Option.some.inj hf
          refine ok_ireturn (L := [some (.inr (.inr (.inl 63))), some (.inl v1), some (.inl v2), some (.inl v3), some (.inl v4)]) (M := mm V h) (x := (-1)) rfl rfl ?_
          exact ⟨rfl, rfl⟩
        ·
          replace hf := (if_neg c8).symm.trans hf
          refine ok_ic_ne (x := V 62 17) (u := 3) (L := [some (.inr (.inr (.inl 63))), some (.inl v1), some (.inl v2), some (.inl v3), some (.inl v4)]) (S := []) (M := mm V h) rfl rfl (fun c9 => ?_) (fun c9 => ?_)
          ·
            replace hf := (if_neg c9).symm.trans hf
            by_cases c10 : 0 ≤ (V 62 17) ∧ (V 62 17) < (3 : Int)
            case neg => replace hf := (if_neg c10).symm.trans hf; cases hf
            replace hf := (if_pos c10).symm.trans hf
            refine ok_iast (i := V 62 17) (v := v1) (id := 71) (n := 3) (L := [some (.inr (.inr (.inl 63))), some (.inl v1), some (.inl v2), some (.inl v3), some (.inl v4)]) (S := []) (M := mm V h) rfl rfl rfl c10.1 c10.2 ?_
            by_cases c11 : 0 ≤ (V 62 17) ∧ (V 62 17) < (3 : Int)
            case neg => replace hf := (if_neg c11).symm.trans hf; cases hf
            replace hf := (if_pos c11).symm.trans hf
            refine ok_iast (i := V 62 17) (v := v2) (id := 72) (n := 3) (L := [some (.inr (.inr (.inl 63))), some (.inl v1), some (.inl v2), some (.inl v3), some (.inl v4)]) (S := []) (M := mm (up V 71 ((V 62 17).toNat) v1) h) rfl rfl rfl c11.1 c11.2 ?_
            by_cases c12 : 0 ≤ (V 62 17) ∧ (V 62 17) < (3 : Int)
            case neg => replace hf := (if_neg c12).symm.trans hf; cases hf
            replace hf := (if_pos c12).symm.trans hf
            refine ok_iast (i := V 62 17) (v := v3) (id := 73) (n := 3) (L := [some (.inr (.inr (.inl 63))), some (.inl v1), some (.inl v2), some (.inl v3), some (.inl v4)]) (S := []) (M := mm (up (up V 71 ((V 62 17).toNat) v1) 72 ((V 62 17).toNat) v2) h) rfl rfl rfl c12.1 c12.2 ?_
            by_cases c13 : 0 ≤ (V 62 17) ∧ (V 62 17) < (3 : Int)
            case neg => replace hf := (if_neg c13).symm.trans hf; cases hf
            replace hf := (if_pos c13).symm.trans hf
            refine ok_iast (i := V 62 17) (v := v4) (id := 74) (n := 3) (L := [some (.inr (.inr (.inl 63))), some (.inl v1), some (.inl v2), some (.inl v3), some (.inl v4)]) (S := []) (M := mm (up (up (up V 71 ((V 62 17).toNat) v1) 72 ((V 62 17).toNat) v2) 73 ((V 62 17).toNat) v3) h) rfl rfl rfl c13.1 c13.2 ?_
            obtain rfl := Option.some.inj hf
            refine ok_ireturn (L := [some (.inr (.inr (.inl 63))), some (.inl v1), some (.inl v2), some (.inl v3), some (.inl v4)]) (M := mm (up (up (up (up (up V 71 ((V 62 17).toNat) v1) 72 ((V 62 17).toNat) v2) 73 ((V 62 17).toNat) v3) 74 ((V 62 17).toNat) v4) 62 17 (w32 ((V 62 17) + 1))) h) (x := w32 ((w32 ((V 62 17) + 1)) - 1)) rfl rfl ?_
            exact ⟨rfl, rfl⟩
          ·
            replace hf := (if_pos c9).symm.trans hf
            obtain rfl := Option.some.inj hf
            refine ok_ireturn (L := [some (.inr (.inr (.inl 63))), some (.inl v1), some (.inl v2), some (.inl v3), some (.inl v4)]) (M := mm V h) (x := (-1)) rfl rfl ?_
            exact ⟨rfl, rfl⟩
def f_Mo_trucks (V : VV) (v1 : Int) (v2 : Int) : VV × Int := if (f_Mo_isIn V v1 1 16) = 0 then (V, 0) else if (f_Mo_isIn V v2 5 30) = 0 then (V, 0) else (up (up V 62 22 v1) 62 23 v2, 1)
set_option maxRecDepth 20000 in
set_option maxHeartbeats 4000000 in
theorem s_Mo_trucks {X : Xs} {d : Nat} {V : VV} {h : HP} {v1 : Int} {v2 : Int} {q : VV × Int} (hf : f_Mo_trucks V v1 v2 = q) : Ok X (d + 2) 164 0 ([some (.inr (.inr (.inl 63))), some (.inl v1), some (.inl v2)], [], mm V h) (fun M r => M = mm q.1 h ∧ r = some (.inl q.2) ∧ (q.2 = 0 ∨ q.2 = 1)) := by
  let QQ : Mm → Option AV → Prop := fun M r => M = mm q.1 h ∧ r = some (.inl q.2) ∧ (q.2 = 0 ∨ q.2 = 1)
  show Ok X (d + 2) 164 0 ([some (.inr (.inr (.inl 63))), some (.inl v1), some (.inl v2)], [], mm V h) QQ
  refine ok_callA (L := [some (.inr (.inr (.inl 63))), some (.inl v1), some (.inl v2)]) (M := mm V h) (args := [.inl v1, .inl 1, .inl 16]) (rest := []) (y2 := 152) rfl rfl rfl (Or.inr (Or.inl rfl)) rfl rfl (Nat.le_of_ble_eq_true rfl) rfl rfl (Nat.le_of_ble_eq_true rfl) (Nat.le_of_ble_eq_true rfl) (s_Mo_isIn rfl) ?_
  rintro _ _ ⟨rfl, rfl, hz1⟩
  refine ok_if_eq (x := f_Mo_isIn V v1 1 16) (L := [some (.inr (.inr (.inl 63))), some (.inl v1), some (.inl v2)]) (S := []) (M := mm V h) rfl rfl (fun c2 => ?_) (fun c2 => ?_)
  ·
    replace hf := (if_pos c2).symm.trans hf
    have hq : ((V, 0)) = q := hf
    subst hq
    have hz : (0 : Int) = 0 ∨ (0 : Int) = 1 := by
      first | exact Or.inl rfl | exact Or.inr rfl | assumption | (repeat' split) <;> first | exact Or.inl rfl | exact Or.inr rfl | assumption
    refine ok_zreturn (L := [some (.inr (.inr (.inl 63))), some (.inl v1), some (.inl v2)]) (M := mm V h) (x := 0) rfl rfl hz ?_
    exact ⟨rfl, rfl, hz⟩
  ·
    replace hf := (if_neg c2).symm.trans hf
    refine ok_callA (L := [some (.inr (.inr (.inl 63))), some (.inl v1), some (.inl v2)]) (M := mm V h) (args := [.inl v2, .inl 5, .inl 30]) (rest := []) (y2 := 152) rfl rfl rfl (Or.inr (Or.inl rfl)) rfl rfl (Nat.le_of_ble_eq_true rfl) rfl rfl (Nat.le_of_ble_eq_true rfl) (Nat.le_of_ble_eq_true rfl) (s_Mo_isIn rfl) ?_
    rintro _ _ ⟨rfl, rfl, hz3⟩
    refine ok_if_ne (x := f_Mo_isIn V v2 5 30) (L := [some (.inr (.inr (.inl 63))), some (.inl v1), some (.inl v2)]) (S := []) (M := mm V h) rfl rfl (fun c4 => ?_) (fun c4 => ?_)
    ·
      replace hf := (if_neg c4).symm.trans hf
      have hq : ((up (up V 62 22 v1) 62 23 v2, 1)) = q := hf
      subst hq
      have hz : (1 : Int) = 0 ∨ (1 : Int) = 1 := by
        first | exact Or.inl rfl | exact Or.inr rfl | assumption | (repeat' split) <;> first | exact Or.inl rfl | exact Or.inr rfl | assumption
      refine ok_zreturn (L := [some (.inr (.inr (.inl 63))), some (.inl v1), some (.inl v2)]) (M := mm (up (up V 62 22 v1) 62 23 v2) h) (x := 1) rfl rfl hz ?_
      exact ⟨rfl, rfl, hz⟩
    ·
      replace hf := (if_pos c4).symm.trans hf
      have hq : ((V, 0)) = q := hf
      subst hq
      have hz : (0 : Int) = 0 ∨ (0 : Int) = 1 := by
        first | exact Or.inl rfl | exact Or.inr rfl | assumption | (repeat' split) <;> first | exact Or.inl rfl | exact Or.inr rfl | assumption
      refine ok_zreturn (L := [some (.inr (.inr (.inl 63))), some (.inl v1), some (.inl v2)]) (M := mm V h) (x := 0) rfl rfl hz ?_
      exact ⟨rfl, rfl, hz⟩
def f_Mo_heat (V : VV) (v1 : Int) (v2 : Int) (v3 : Int) (v4 : Int) (v5 : Int) : VV × Int := if (f_Mo_isIn V v1 100 200) = 0 then (V, 0) else if (f_Mo_isIn V v2 1 20) = 0 then (V, 0) else if (f_Mo_isIn V v3 0 200) = 0 then (V, 0) else if (f_Mo_isIn V v4 0 200) = 0 then (V, 0) else if (f_Mo_isIn V v5 0 200) = 0 then (V, 0) else (up (up (up (up (up V 62 24 v1) 62 25 v2) 62 26 v3) 62 27 v4) 62 28 v5, 1)
set_option maxRecDepth 20000 in
set_option maxHeartbeats 4000000 in
theorem s_Mo_heat {X : Xs} {d : Nat} {V : VV} {h : HP} {v1 : Int} {v2 : Int} {v3 : Int} {v4 : Int} {v5 : Int} {q : VV × Int} (hf : f_Mo_heat V v1 v2 v3 v4 v5 = q) : Ok X (d + 2) 165 0 ([some (.inr (.inr (.inl 63))), some (.inl v1), some (.inl v2), some (.inl v3), some (.inl v4), some (.inl v5)], [], mm V h) (fun M r => M = mm q.1 h ∧ r = some (.inl q.2) ∧ (q.2 = 0 ∨ q.2 = 1)) := by
  let QQ : Mm → Option AV → Prop := fun M r => M = mm q.1 h ∧ r = some (.inl q.2) ∧ (q.2 = 0 ∨ q.2 = 1)
  show Ok X (d + 2) 165 0 ([some (.inr (.inr (.inl 63))), some (.inl v1), some (.inl v2), some (.inl v3), some (.inl v4), some (.inl v5)], [], mm V h) QQ
  refine ok_callA (L := [some (.inr (.inr (.inl 63))), some (.inl v1), some (.inl v2), some (.inl v3), some (.inl v4), some (.inl v5)]) (M := mm V h) (args := [.inl v1, .inl 100, .inl 200]) (rest := []) (y2 := 152) rfl rfl rfl (Or.inr (Or.inl rfl)) rfl rfl (Nat.le_of_ble_eq_true rfl) rfl rfl (Nat.le_of_ble_eq_true rfl) (Nat.le_of_ble_eq_true rfl) (s_Mo_isIn rfl) ?_
  rintro _ _ ⟨rfl, rfl, hz1⟩
  refine ok_if_eq (x := f_Mo_isIn V v1 100 200) (L := [some (.inr (.inr (.inl 63))), some (.inl v1), some (.inl v2), some (.inl v3), some (.inl v4), some (.inl v5)]) (S := []) (M := mm V h) rfl rfl (fun c2 => ?_) (fun c2 => ?_)
  ·
    replace hf := (if_pos c2).symm.trans hf
    have hq : ((V, 0)) = q := hf
    subst hq
    have hz : (0 : Int) = 0 ∨ (0 : Int) = 1 := by
      first | exact Or.inl rfl | exact Or.inr rfl | assumption | (repeat' split) <;> first | exact Or.inl rfl | exact Or.inr rfl | assumption
    refine ok_zreturn (L := [some (.inr (.inr (.inl 63))), some (.inl v1), some (.inl v2), some (.inl v3), some (.inl v4), some (.inl v5)]) (M := mm V h) (x := 0) rfl rfl hz ?_
    exact ⟨rfl, rfl, hz⟩
  ·
    replace hf := (if_neg c2).symm.trans hf
    refine ok_callA (L := [some (.inr (.inr (.inl 63))), some (.inl v1), some (.inl v2), some (.inl v3), some (.inl v4), some (.inl v5)]) (M := mm V h) (args := [.inl v2, .inl 1, .inl 20]) (rest := []) (y2 := 152) rfl rfl rfl (Or.inr (Or.inl rfl)) rfl rfl (Nat.le_of_ble_eq_true rfl) rfl rfl (Nat.le_of_ble_eq_true rfl) (Nat.le_of_ble_eq_true rfl) (s_Mo_isIn rfl) ?_
    rintro _ _ ⟨rfl, rfl, hz3⟩
    refine ok_if_eq (x := f_Mo_isIn V v2 1 20) (L := [some (.inr (.inr (.inl 63))), some (.inl v1), some (.inl v2), some (.inl v3), some (.inl v4), some (.inl v5)]) (S := []) (M := mm V h) rfl rfl (fun c4 => ?_) (fun c4 => ?_)
    ·
      replace hf := (if_pos c4).symm.trans hf
      have hq : ((V, 0)) = q := hf
      subst hq
      have hz : (0 : Int) = 0 ∨ (0 : Int) = 1 := by
        first | exact Or.inl rfl | exact Or.inr rfl | assumption | (repeat' split) <;> first | exact Or.inl rfl | exact Or.inr rfl | assumption
      refine ok_zreturn (L := [some (.inr (.inr (.inl 63))), some (.inl v1), some (.inl v2), some (.inl v3), some (.inl v4), some (.inl v5)]) (M := mm V h) (x := 0) rfl rfl hz ?_
      exact ⟨rfl, rfl, hz⟩
    ·
      replace hf := (if_neg c4).symm.trans hf
      refine ok_callA (L := [some (.inr (.inr (.inl 63))), some (.inl v1), some (.inl v2), some (.inl v3), some (.inl v4), some (.inl v5)]) (M := mm V h) (args := [.inl v3, .inl 0, .inl 200]) (rest := []) (y2 := 152) rfl rfl rfl (Or.inr (Or.inl rfl)) rfl rfl (Nat.le_of_ble_eq_true rfl) rfl rfl (Nat.le_of_ble_eq_true rfl) (Nat.le_of_ble_eq_true rfl) (s_Mo_isIn rfl) ?_
      rintro _ _ ⟨rfl, rfl, hz5⟩
      refine ok_if_eq (x := f_Mo_isIn V v3 0 200) (L := [some (.inr (.inr (.inl 63))), some (.inl v1), some (.inl v2), some (.inl v3), some (.inl v4), some (.inl v5)]) (S := []) (M := mm V h) rfl rfl (fun c6 => ?_) (fun c6 => ?_)
      ·
        replace hf := (if_pos c6).symm.trans hf
        have hq : ((V, 0)) = q := hf
        subst hq
        have hz : (0 : Int) = 0 ∨ (0 : Int) = 1 := by
          first | exact Or.inl rfl | exact Or.inr rfl | assumption | (repeat' split) <;> first | exact Or.inl rfl | exact Or.inr rfl | assumption
        refine ok_zreturn (L := [some (.inr (.inr (.inl 63))), some (.inl v1), some (.inl v2), some (.inl v3), some (.inl v4), some (.inl v5)]) (M := mm V h) (x := 0) rfl rfl hz ?_
        exact ⟨rfl, rfl, hz⟩
      ·
        replace hf := (if_neg c6).symm.trans hf
        refine ok_callA (L := [some (.inr (.inr (.inl 63))), some (.inl v1), some (.inl v2), some (.inl v3), some (.inl v4), some (.inl v5)]) (M := mm V h) (args := [.inl v4, .inl 0, .inl 200]) (rest := []) (y2 := 152) rfl rfl rfl (Or.inr (Or.inl rfl)) rfl rfl (Nat.le_of_ble_eq_true rfl) rfl rfl (Nat.le_of_ble_eq_true rfl) (Nat.le_of_ble_eq_true rfl) (s_Mo_isIn rfl) ?_
        rintro _ _ ⟨rfl, rfl, hz7⟩
        refine ok_if_eq (x := f_Mo_isIn V v4 0 200) (L := [some (.inr (.inr (.inl 63))), some (.inl v1), some (.inl v2), some (.inl v3), some (.inl v4), some (.inl v5)]) (S := []) (M := mm V h) rfl rfl (fun c8 => ?_) (fun c8 => ?_)
        ·
          replace hf := (if_pos c8).symm.trans hf
          have hq : ((V, 0)) = q := hf
          subst hq
          have hz : (0 : Int) = 0 ∨ (0 : Int) = 1 := by
            first | exact Or.inl rfl | exact Or.inr rfl | assumption | (repeat' split) <;> first | exact Or.inl rfl | exact Or.inr rfl | assumption
          refine ok_zreturn (L := [some (.inr (.inr (.inl 63))), some (.inl v1), some (.inl v2), some (.inl v3), some (.inl v4), some (.inl v5)]) (M := mm V h) (x := 0) rfl rfl hz ?_
          exact ⟨rfl, rfl, hz⟩
        ·
          replace hf := (if_neg c8).symm.trans hf
          refine ok_callA (L := [some (.inr (.inr (.inl 63))), some (.inl v1), some (.inl v2), some (.inl v3), some (.inl v4), some (.inl v5)]) (M := mm V h) (args := [.inl v5, .inl 0, .inl 200]) (rest := []) (y2 := 152) rfl rfl rfl (Or.inr (Or.inl rfl)) rfl rfl (Nat.le_of_ble_eq_true rfl) rfl rfl (Nat.le_of_ble_eq_true rfl) (Nat.le_of_ble_eq_true rfl) (s_Mo_isIn rfl) ?_
          rintro _ _ ⟨rfl, rfl, hz9⟩
          refine ok_if_ne (x := f_Mo_isIn V v5 0 200) (L := [some (.inr (.inr (.inl 63))), some (.inl v1), some (.inl v2), some (.inl v3), some (.inl v4), some (.inl v5)]) (S := []) (M := mm V h) rfl rfl (fun c10 => ?_) (fun c10 => ?_)
          ·
            replace hf := (if_neg c10).symm.trans hf
            have hq : ((up (up (up (up (up V 62 24 v1) 62 25 v2) 62 26 v3) 62 27 v4) 62 28 v5, 1)) = q := hf
            subst hq
            have hz : (1 : Int) = 0 ∨ (1 : Int) = 1 := by
              first | exact Or.inl rfl | exact Or.inr rfl | assumption | (repeat' split) <;> first | exact Or.inl rfl | exact Or.inr rfl | assumption
            refine ok_zreturn (L := [some (.inr (.inr (.inl 63))), some (.inl v1), some (.inl v2), some (.inl v3), some (.inl v4), some (.inl v5)]) (M := mm (up (up (up (up (up V 62 24 v1) 62 25 v2) 62 26 v3) 62 27 v4) 62 28 v5) h) (x := 1) rfl rfl hz ?_
            exact ⟨rfl, rfl, hz⟩
          ·
            replace hf := (if_pos c10).symm.trans hf
            have hq : ((V, 0)) = q := hf
            subst hq
            have hz : (0 : Int) = 0 ∨ (0 : Int) = 1 := by
              first | exact Or.inl rfl | exact Or.inr rfl | assumption | (repeat' split) <;> first | exact Or.inl rfl | exact Or.inr rfl | assumption
            refine ok_zreturn (L := [some (.inr (.inr (.inl 63))), some (.inl v1), some (.inl v2), some (.inl v3), some (.inl v4), some (.inl v5)]) (M := mm V h) (x := 0) rfl rfl hz ?_
            exact ⟨rfl, rfl, hz⟩
def f_Mo_weather (V : VV) (v1 : Int) (v2 : Int) (v3 : Int) (v4 : Int) : VV × Int := if (f_Mo_isIn V v1 (-20) 50) = 0 then (V, 0) else if (f_Mo_isIn V v2 (-20) 60) = 0 then (V, 0) else if (f_Mo_isIn V v3 1 200) = 0 then (V, 0) else if (f_Mo_isIn V v4 1 200) = 0 then (V, 0) else (up (up (up (up V 62 29 v1) 62 30 v2) 62 31 v3) 62 32 v4, 1)
set_option maxRecDepth 20000 in
set_option maxHeartbeats 4000000 in
theorem s_Mo_weather {X : Xs} {d : Nat} {V : VV} {h : HP} {v1 : Int} {v2 : Int} {v3 : Int} {v4 : Int} {q : VV × Int} (hf : f_Mo_weather V v1 v2 v3 v4 = q) : Ok X (d + 2) 166 0 ([some (.inr (.inr (.inl 63))), some (.inl v1), some (.inl v2), some (.inl v3), some (.inl v4)], [], mm V h) (fun M r => M = mm q.1 h ∧ r = some (.inl q.2) ∧ (q.2 = 0 ∨ q.2 = 1)) := by
  let QQ : Mm → Option AV → Prop := fun M r => M = mm q.1 h ∧ r = some (.inl q.2) ∧ (q.2 = 0 ∨ q.2 = 1)
  show Ok X (d + 2) 166 0 ([some (.inr (.inr (.inl 63))), some (.inl v1), some (.inl v2), some (.inl v3), some (.inl v4)], [], mm V h) QQ
  refine ok_callA (L := [some (.inr (.inr (.inl 63))), some (.inl v1), some (.inl v2), some (.inl v3), some (.inl v4)]) (M := mm V h) (args := [.inl v1, .inl (-20), .inl 50]) (rest := []) (y2 := 152) rfl rfl rfl (Or.inr (Or.inl rfl)) rfl rfl (Nat.le_of_ble_eq_true rfl) rfl rfl (Nat.le_of_ble_eq_true rfl) (Nat.le_of_ble_eq_true rfl) (s_Mo_isIn rfl) ?_
  rintro _ _ ⟨rfl, rfl, hz1⟩
  refine ok_if_eq (x := f_Mo_isIn V v1 (-20) 50) (L := [some (.inr (.inr (.inl 63))), some (.inl v1), some (.inl v2), some (.inl v3), some (.inl v4)]) (S := []) (M := mm V h) rfl rfl (fun c2 => ?_) (fun c2 => ?_)
  ·
    replace hf := (if_pos c2).symm.trans hf
    have hq : ((V, 0)) = q := hf
    subst hq
    have hz : (0 : Int) = 0 ∨ (0 : Int) = 1 := by
      first | exact Or.inl rfl | exact Or.inr rfl | assumption | (repeat' split) <;> first | exact Or.inl rfl | exact Or.inr rfl | assumption
    refine ok_zreturn (L := [some (.inr (.inr (.inl 63))), some (.inl v1), some (.inl v2), some (.inl v3), some (.inl v4)]) (M := mm V h) (x := 0) rfl rfl hz ?_
    exact ⟨rfl, rfl, hz⟩
  ·
    replace hf := (if_neg c2).symm.trans hf
    refine ok_callA (L := [some (.inr (.inr (.inl 63))), some (.inl v1), some (.inl v2), some (.inl v3), some (.inl v4)]) (M := mm V h) (args := [.inl v2, .inl (-20), .inl 60]) (rest := []) (y2 := 152) rfl rfl rfl (Or.inr (Or.inl rfl)) rfl rfl (Nat.le_of_ble_eq_true rfl) rfl rfl (Nat.le_of_ble_eq_true rfl) (Nat.le_of_ble_eq_true rfl) (s_Mo_isIn rfl) ?_
    rintro _ _ ⟨rfl, rfl, hz3⟩
    refine ok_if_eq (x := f_Mo_isIn V v2 (-20) 60) (L := [some (.inr (.inr (.inl 63))), some (.inl v1), some (.inl v2), some (.inl v3), some (.inl v4)]) (S := []) (M := mm V h) rfl rfl (fun c4 => ?_) (fun c4 => ?_)
    ·
      replace hf := (if_pos c4).symm.trans hf
      have hq : ((V, 0)) = q := hf
      subst hq
      have hz : (0 : Int) = 0 ∨ (0 : Int) = 1 := by
        first | exact Or.inl rfl | exact Or.inr rfl | assumption | (repeat' split) <;> first | exact Or.inl rfl | exact Or.inr rfl | assumption
      refine ok_zreturn (L := [some (.inr (.inr (.inl 63))), some (.inl v1), some (.inl v2), some (.inl v3), some (.inl v4)]) (M := mm V h) (x := 0) rfl rfl hz ?_
      exact ⟨rfl, rfl, hz⟩
    ·
      replace hf := (if_neg c4).symm.trans hf
      refine ok_callA (L := [some (.inr (.inr (.inl 63))), some (.inl v1), some (.inl v2), some (.inl v3), some (.inl v4)]) (M := mm V h) (args := [.inl v3, .inl 1, .inl 200]) (rest := []) (y2 := 152) rfl rfl rfl (Or.inr (Or.inl rfl)) rfl rfl (Nat.le_of_ble_eq_true rfl) rfl rfl (Nat.le_of_ble_eq_true rfl) (Nat.le_of_ble_eq_true rfl) (s_Mo_isIn rfl) ?_
      rintro _ _ ⟨rfl, rfl, hz5⟩
      refine ok_if_eq (x := f_Mo_isIn V v3 1 200) (L := [some (.inr (.inr (.inl 63))), some (.inl v1), some (.inl v2), some (.inl v3), some (.inl v4)]) (S := []) (M := mm V h) rfl rfl (fun c6 => ?_) (fun c6 => ?_)
      ·
        replace hf := (if_pos c6).symm.trans hf
        have hq : ((V, 0)) = q := hf
        subst hq
        have hz : (0 : Int) = 0 ∨ (0 : Int) = 1 := by
          first | exact Or.inl rfl | exact Or.inr rfl | assumption | (repeat' split) <;> first | exact Or.inl rfl | exact Or.inr rfl | assumption
        refine ok_zreturn (L := [some (.inr (.inr (.inl 63))), some (.inl v1), some (.inl v2), some (.inl v3), some (.inl v4)]) (M := mm V h) (x := 0) rfl rfl hz ?_
        exact ⟨rfl, rfl, hz⟩
      ·
        replace hf := (if_neg c6).symm.trans hf
        refine ok_callA (L := [some (.inr (.inr (.inl 63))), some (.inl v1), some (.inl v2), some (.inl v3), some (.inl v4)]) (M := mm V h) (args := [.inl v4, .inl 1, .inl 200]) (rest := []) (y2 := 152) rfl rfl rfl (Or.inr (Or.inl rfl)) rfl rfl (Nat.le_of_ble_eq_true rfl) rfl rfl (Nat.le_of_ble_eq_true rfl) (Nat.le_of_ble_eq_true rfl) (s_Mo_isIn rfl) ?_
        rintro _ _ ⟨rfl, rfl, hz7⟩
        refine ok_if_ne (x := f_Mo_isIn V v4 1 200) (L := [some (.inr (.inr (.inl 63))), some (.inl v1), some (.inl v2), some (.inl v3), some (.inl v4)]) (S := []) (M := mm V h) rfl rfl (fun c8 => ?_) (fun c8 => ?_)
        ·
          replace hf := (if_neg c8).symm.trans hf
          have hq : ((up (up (up (up V 62 29 v1) 62 30 v2) 62 31 v3) 62 32 v4, 1)) = q := hf
          subst hq
          have hz : (1 : Int) = 0 ∨ (1 : Int) = 1 := by
            first | exact Or.inl rfl | exact Or.inr rfl | assumption | (repeat' split) <;> first | exact Or.inl rfl | exact Or.inr rfl | assumption
          refine ok_zreturn (L := [some (.inr (.inr (.inl 63))), some (.inl v1), some (.inl v2), some (.inl v3), some (.inl v4)]) (M := mm (up (up (up (up V 62 29 v1) 62 30 v2) 62 31 v3) 62 32 v4) h) (x := 1) rfl rfl hz ?_
          exact ⟨rfl, rfl, hz⟩
        ·
          replace hf := (if_pos c8).symm.trans hf
          have hq : ((V, 0)) = q := hf
          subst hq
          have hz : (0 : Int) = 0 ∨ (0 : Int) = 1 := by
            first | exact Or.inl rfl | exact Or.inr rfl | assumption | (repeat' split) <;> first | exact Or.inl rfl | exact Or.inr rfl | assumption
          refine ok_zreturn (L := [some (.inr (.inr (.inl 63))), some (.inl v1), some (.inl v2), some (.inl v3), some (.inl v4)]) (M := mm V h) (x := 0) rfl rfl hz ?_
          exact ⟨rfl, rfl, hz⟩
def f_Mo_roller (V : VV) (v1 : Int) (v2 : Int) : Option (VV × Int) := if (f_Mo_isIn V v1 0 2) = 0 then some (V, (-1)) else if (f_Mo_isIn V v2 10 100) = 0 then some (V, (-1)) else if (V 62 33) = 6 then some (V, (-1)) else if 0 ≤ (V 62 33) ∧ (V 62 33) < (6 : Int) then if 0 ≤ (V 62 33) ∧ (V 62 33) < (6 : Int) then some (up (up (up V 75 ((V 62 33).toNat) v1) 76 ((V 62 33).toNat) v2) 62 33 (w32 ((V 62 33) + 1)), w32 ((w32 ((V 62 33) + 1)) - 1)) else none else none
set_option maxRecDepth 20000 in
set_option maxHeartbeats 4000000 in
theorem s_Mo_roller {X : Xs} {d : Nat} {V : VV} {h : HP} {v1 : Int} {v2 : Int} {q : VV × Int} (hf : f_Mo_roller V v1 v2 = some q) : Ok X (d + 2) 167 0 ([some (.inr (.inr (.inl 63))), some (.inl v1), some (.inl v2)], [], mm V h) (fun M r => M = mm q.1 h ∧ r = some (.inl q.2)) := by
  let QQ : Mm → Option AV → Prop := fun M r => M = mm q.1 h ∧ r = some (.inl q.2)
  show Ok X (d + 2) 167 0 ([some (.inr (.inr (.inl 63))), some (.inl v1), some (.inl v2)], [], mm V h) QQ
  refine ok_callA (L := [some (.inr (.inr (.inl 63))), some (.inl v1), some (.inl v2)]) (M := mm V h) (args := [.inl v1, .inl 0, .inl 2]) (rest := []) (y2 := 152) rfl rfl rfl (Or.inr (Or.inl rfl)) rfl rfl (Nat.le_of_ble_eq_true rfl) rfl rfl (Nat.le_of_ble_eq_true rfl) (Nat.le_of_ble_eq_true rfl) (s_Mo_isIn rfl) ?_
  rintro _ _ ⟨rfl, rfl, hz1⟩
  refine ok_if_eq (x := f_Mo_isIn V v1 0 2) (L := [some (.inr (.inr (.inl 63))), some (.inl v1), some (.inl v2)]) (S := []) (M := mm V h) rfl rfl (fun c2 => ?_) (fun c2 => ?_)
  ·
    replace hf := (if_pos c2).symm.trans hf
    obtain rfl := Option.some.inj hf
    refine ok_ireturn (L := [some (.inr (.inr (.inl 63))), some (.inl v1), some (.inl v2)]) (M := mm V h) (x := (-1)) rfl rfl ?_
    exact ⟨rfl, rfl⟩
  ·
    replace hf := (if_neg c2).symm.trans hf
    refine ok_callA (L := [some (.inr (.inr (.inl 63))), some (.inl v1), some (.inl v2)]) (M := mm V h) (args := [.inl v2, .inl 10, .inl 100]) (rest := []) (y2 := 152) rfl rfl rfl (Or.inr (Or.inl rfl)) rfl rfl (Nat.le_of_ble_eq_true rfl) rfl rfl (Nat.le_of_ble_eq_true rfl) (Nat.le_of_ble_eq_true rfl) (s_Mo_isIn rfl) ?_
    rintro _ _ ⟨rfl, rfl, hz3⟩
    refine ok_if_eq (x := f_Mo_isIn V v2 10 100) (L := [some (.inr (.inr (.inl 63))), some (.inl v1), some (.inl v2)]) (S := []) (M := mm V h) rfl rfl (fun c4 => ?_) (fun c4 => ?_)
    ·
      replace hf := (if_pos c4).symm.trans hf
      obtain rfl := Option.some.inj hf
      refine ok_ireturn (L := [some (.inr (.inr (.inl 63))), some (.inl v1), some (.inl v2)]) (M := mm V h) (x := (-1)) rfl rfl ?_
      exact ⟨rfl, rfl⟩
    ·
      replace hf := (if_neg c4).symm.trans hf
      refine ok_ic_ne (x := V 62 33) (u := 6) (L := [some (.inr (.inr (.inl 63))), some (.inl v1), some (.inl v2)]) (S := []) (M := mm V h) rfl rfl (fun c5 => ?_) (fun c5 => ?_)
      ·
        replace hf := (if_neg c5).symm.trans hf
        by_cases c6 : 0 ≤ (V 62 33) ∧ (V 62 33) < (6 : Int)
        case neg => replace hf := (if_neg c6).symm.trans hf; cases hf
        replace hf := (if_pos c6).symm.trans hf
        refine ok_iast (i := V 62 33) (v := v1) (id := 75) (n := 6) (L := [some (.inr (.inr (.inl 63))), some (.inl v1), some (.inl v2)]) (S := []) (M := mm V h) rfl rfl rfl c6.1 c6.2 ?_
        by_cases c7 : 0 ≤ (V 62 33) ∧ (V 62 33) < (6 : Int)
        case neg => replace hf := (if_neg c7).symm.trans hf; cases hf
        replace hf := (if_pos c7).symm.trans hf
        refine ok_iast (i := V 62 33) (v := v2) (id := 76) (n := 6) (L := [some (.inr (.inr (.inl 63))), some (.inl v1), some (.inl v2)]) (S := []) (M := mm (up V 75 ((V 62 33).toNat) v1) h) rfl rfl rfl c7.1 c7.2 ?_
        obtain rfl := Option.some.inj hf
        refine ok_ireturn (L := [some (.inr (.inr (.inl 63))), some (.inl v1), some (.inl v2)]) (M := mm (up (up (up V 75 ((V 62 33).toNat) v1) 76 ((V 62 33).toNat) v2) 62 33 (w32 ((V 62 33) + 1))) h) (x := w32 ((w32 ((V 62 33) + 1)) - 1)) rfl rfl ?_
        exact ⟨rfl, rfl⟩
      ·
        replace hf := (if_pos c5).symm.trans hf
        obtain rfl := Option.some.inj hf
        refine ok_ireturn (L := [some (.inr (.inr (.inl 63))), some (.inl v1), some (.inl v2)]) (M := mm V h) (x := (-1)) rfl rfl ?_
        exact ⟨rfl, rfl⟩
def f_Mo_sort (V : VV) (v1 : Int) (v2 : Int) (v3 : Int) (v4 : Int) : Option (VV × Int) := if (f_Mo_isIn V v1 0 2) = 0 then some (V, 0) else if (f_Mo_isIn V v2 0 200) = 0 then some (V, 0) else if (f_Mo_isIn V v3 0 v2) = 0 then some (V, 0) else if (f_Mo_isIn V v4 0 9) = 0 then some (V, 0) else if 0 ≤ v1 ∧ v1 < (3 : Int) then if 0 ≤ v1 ∧ v1 < (3 : Int) then if 0 ≤ v1 ∧ v1 < (3 : Int) then some (up (up (up V 77 v1.toNat v2) 78 v1.toNat v3) 79 v1.toNat v4, 1) else none else none else none
set_option maxRecDepth 20000 in
set_option maxHeartbeats 4000000 in
theorem s_Mo_sort {X : Xs} {d : Nat} {V : VV} {h : HP} {v1 : Int} {v2 : Int} {v3 : Int} {v4 : Int} {q : VV × Int} (hf : f_Mo_sort V v1 v2 v3 v4 = some q) : Ok X (d + 2) 168 0 ([some (.inr (.inr (.inl 63))), some (.inl v1), some (.inl v2), some (.inl v3), some (.inl v4)], [], mm V h) (fun M r => M = mm q.1 h ∧ r = some (.inl q.2) ∧ (q.2 = 0 ∨ q.2 = 1)) := by
  let QQ : Mm → Option AV → Prop := fun M r => M = mm q.1 h ∧ r = some (.inl q.2) ∧ (q.2 = 0 ∨ q.2 = 1)
  show Ok X (d + 2) 168 0 ([some (.inr (.inr (.inl 63))), some (.inl v1), some (.inl v2), some (.inl v3), some (.inl v4)], [], mm V h) QQ
  refine ok_callA (L := [some (.inr (.inr (.inl 63))), some (.inl v1), some (.inl v2), some (.inl v3), some (.inl v4)]) (M := mm V h) (args := [.inl v1, .inl 0, .inl 2]) (rest := []) (y2 := 152) rfl rfl rfl (Or.inr (Or.inl rfl)) rfl rfl (Nat.le_of_ble_eq_true rfl) rfl rfl (Nat.le_of_ble_eq_true rfl) (Nat.le_of_ble_eq_true rfl) (s_Mo_isIn rfl) ?_
  rintro _ _ ⟨rfl, rfl, hz1⟩
  refine ok_if_eq (x := f_Mo_isIn V v1 0 2) (L := [some (.inr (.inr (.inl 63))), some (.inl v1), some (.inl v2), some (.inl v3), some (.inl v4)]) (S := []) (M := mm V h) rfl rfl (fun c2 => ?_) (fun c2 => ?_)
  ·
    replace hf := (if_pos c2).symm.trans hf
    obtain rfl := Option.some.inj hf
    have hz : (0 : Int) = 0 ∨ (0 : Int) = 1 := by
      first | exact Or.inl rfl | exact Or.inr rfl | assumption | (repeat' split) <;> first | exact Or.inl rfl | exact Or.inr rfl | assumption
    refine ok_zreturn (L := [some (.inr (.inr (.inl 63))), some (.inl v1), some (.inl v2), some (.inl v3), some (.inl v4)]) (M := mm V h) (x := 0) rfl rfl hz ?_
    exact ⟨rfl, rfl, hz⟩
  ·
    replace hf := (if_neg c2).symm.trans hf
    refine ok_callA (L := [some (.inr (.inr (.inl 63))), some (.inl v1), some (.inl v2), some (.inl v3), some (.inl v4)]) (M := mm V h) (args := [.inl v2, .inl 0, .inl 200]) (rest := []) (y2 := 152) rfl rfl rfl (Or.inr (Or.inl rfl)) rfl rfl (Nat.le_of_ble_eq_true rfl) rfl rfl (Nat.le_of_ble_eq_true rfl) (Nat.le_of_ble_eq_true rfl) (s_Mo_isIn rfl) ?_
    rintro _ _ ⟨rfl, rfl, hz3⟩
    refine ok_if_eq (x := f_Mo_isIn V v2 0 200) (L := [some (.inr (.inr (.inl 63))), some (.inl v1), some (.inl v2), some (.inl v3), some (.inl v4)]) (S := []) (M := mm V h) rfl rfl (fun c4 => ?_) (fun c4 => ?_)
    ·
      replace hf := (if_pos c4).symm.trans hf
      obtain rfl := Option.some.inj hf
      have hz : (0 : Int) = 0 ∨ (0 : Int) = 1 := by
        first | exact Or.inl rfl | exact Or.inr rfl | assumption | (repeat' split) <;> first | exact Or.inl rfl | exact Or.inr rfl | assumption
      refine ok_zreturn (L := [some (.inr (.inr (.inl 63))), some (.inl v1), some (.inl v2), some (.inl v3), some (.inl v4)]) (M := mm V h) (x := 0) rfl rfl hz ?_
      exact ⟨rfl, rfl, hz⟩
    ·
      replace hf := (if_neg c4).symm.trans hf
      refine ok_callA (L := [some (.inr (.inr (.inl 63))), some (.inl v1), some (.inl v2), some (.inl v3), some (.inl v4)]) (M := mm V h) (args := [.inl v3, .inl 0, .inl v2]) (rest := []) (y2 := 152) rfl rfl rfl (Or.inr (Or.inl rfl)) rfl rfl (Nat.le_of_ble_eq_true rfl) rfl rfl (Nat.le_of_ble_eq_true rfl) (Nat.le_of_ble_eq_true rfl) (s_Mo_isIn rfl) ?_
      rintro _ _ ⟨rfl, rfl, hz5⟩
      refine ok_if_eq (x := f_Mo_isIn V v3 0 v2) (L := [some (.inr (.inr (.inl 63))), some (.inl v1), some (.inl v2), some (.inl v3), some (.inl v4)]) (S := []) (M := mm V h) rfl rfl (fun c6 => ?_) (fun c6 => ?_)
      ·
        replace hf := (if_pos c6).symm.trans hf
        obtain rfl := Option.some.inj hf
        have hz : (0 : Int) = 0 ∨ (0 : Int) = 1 := by
          first | exact Or.inl rfl | exact Or.inr rfl | assumption | (repeat' split) <;> first | exact Or.inl rfl | exact Or.inr rfl | assumption
        refine ok_zreturn (L := [some (.inr (.inr (.inl 63))), some (.inl v1), some (.inl v2), some (.inl v3), some (.inl v4)]) (M := mm V h) (x := 0) rfl rfl hz ?_
        exact ⟨rfl, rfl, hz⟩
      ·
        replace hf := (if_neg c6).symm.trans hf
        refine ok_callA (L := [some (.inr (.inr (.inl 63))), some (.inl v1), some (.inl v2), some (.inl v3), some (.inl v4)]) (M := mm V h) (args := [.inl v4, .inl 0, .inl 9]) (rest := []) (y2 := 152) rfl rfl rfl (Or.inr (Or.inl rfl)) rfl rfl (Nat.le_of_ble_eq_true rfl) rfl rfl (Nat.le_of_ble_eq_true rfl) (Nat.le_of_ble_eq_true rfl) (s_Mo_isIn rfl) ?_
        rintro _ _ ⟨rfl, rfl, hz7⟩
        refine ok_if_ne (x := f_Mo_isIn V v4 0 9) (L := [some (.inr (.inr (.inl 63))), some (.inl v1), some (.inl v2), some (.inl v3), some (.inl v4)]) (S := []) (M := mm V h) rfl rfl (fun c8 => ?_) (fun c8 => ?_)
        ·
          replace hf := (if_neg c8).symm.trans hf
          by_cases c9 : 0 ≤ v1 ∧ v1 < (3 : Int)
          case neg => replace hf := (if_neg c9).symm.trans hf; cases hf
          replace hf := (if_pos c9).symm.trans hf
          refine ok_iast (i := v1) (v := v2) (id := 77) (n := 3) (L := [some (.inr (.inr (.inl 63))), some (.inl v1), some (.inl v2), some (.inl v3), some (.inl v4)]) (S := []) (M := mm V h) rfl rfl rfl c9.1 c9.2 ?_
          by_cases c10 : 0 ≤ v1 ∧ v1 < (3 : Int)
          case neg => replace hf := (if_neg c10).symm.trans hf; cases hf
          replace hf := (if_pos c10).symm.trans hf
          refine ok_iast (i := v1) (v := v3) (id := 78) (n := 3) (L := [some (.inr (.inr (.inl 63))), some (.inl v1), some (.inl v2), some (.inl v3), some (.inl v4)]) (S := []) (M := mm (up V 77 v1.toNat v2) h) rfl rfl rfl c10.1 c10.2 ?_
          by_cases c11 : 0 ≤ v1 ∧ v1 < (3 : Int)
          case neg => replace hf := (if_neg c11).symm.trans hf; cases hf
          replace hf := (if_pos c11).symm.trans hf
          refine ok_iast (i := v1) (v := v4) (id := 79) (n := 3) (L := [some (.inr (.inr (.inl 63))), some (.inl v1), some (.inl v2), some (.inl v3), some (.inl v4)]) (S := []) (M := mm (up (up V 77 v1.toNat v2) 78 v1.toNat v3) h) rfl rfl rfl c11.1 c11.2 ?_
          obtain rfl := Option.some.inj hf
          have hz : (1 : Int) = 0 ∨ (1 : Int) = 1 := by
            first | exact Or.inl rfl | exact Or.inr rfl | assumption | (repeat' split) <;> first | exact Or.inl rfl | exact Or.inr rfl | assumption
          refine ok_zreturn (L := [some (.inr (.inr (.inl 63))), some (.inl v1), some (.inl v2), some (.inl v3), some (.inl v4)]) (M := mm (up (up (up V 77 v1.toNat v2) 78 v1.toNat v3) 79 v1.toNat v4) h) (x := 1) rfl rfl hz ?_
          exact ⟨rfl, rfl, hz⟩
        ·
          replace hf := (if_pos c8).symm.trans hf
          obtain rfl := Option.some.inj hf
          have hz : (0 : Int) = 0 ∨ (0 : Int) = 1 := by
            first | exact Or.inl rfl | exact Or.inr rfl | assumption | (repeat' split) <;> first | exact Or.inl rfl | exact Or.inr rfl | assumption
          refine ok_zreturn (L := [some (.inr (.inr (.inl 63))), some (.inl v1), some (.inl v2), some (.inl v3), some (.inl v4)]) (M := mm V h) (x := 0) rfl rfl hz ?_
          exact ⟨rfl, rfl, hz⟩
def f_Mo_four_1 : Nat → VV → Int → Int → (Option (VV))
  | 0, _, _, _ => none
  | n + 1, V, v1, v2 => if v2 < 0 then some V else if 0 ≤ (V 62 40) ∧ (V 62 40) < (400 : Int) then f_Mo_four_1 n (up (up V 80 ((V 62 40).toNat) (iandI (ishrI v1 v2) 255)) 62 40 (w32 ((V 62 40) + 1))) v1 (w32 (v2 + (-8))) else none
set_option maxRecDepth 20000 in
set_option maxHeartbeats 4000000 in
theorem s_Mo_four_1_n {X : Xs} {d : Nat} {h : HP} {q : VV} : ∀ (n : Nat) (V : VV) (v1 : Int) (v2 : Int), f_Mo_four_1 n V v1 v2 = some q → Ok X (d + 1) 170 1 ([some (.inr (.inr (.inl 63))), some (.inl v1), some (.inl v2)], [], mm V h) (fun M r => M = mm q h ∧ r = none) := by
  intro n
  induction n with
  | zero => intro V v1 v2 hf; cases hf
  | succ n ih =>
    intro V v1 v2 hf
    let QQ : Mm → Option AV → Prop := fun M r => M = mm q h ∧ r = none
    show Ok X (d + 1) 170 1 ([some (.inr (.inr (.inl 63))), some (.inl v1), some (.inl v2)], [], mm V h) QQ
    refine ok_if_lt (x := v2) (L := [some (.inr (.inr (.inl 63))), some (.inl v1), some (.inl v2)]) (S := []) (M := mm V h) rfl rfl (fun c1 => ?_) (fun c1 => ?_)
    ·
      replace hf := (if_pos c1).symm.trans hf
      obtain rfl := Option.some.inj hf
      refine ok_return (L := [some (.inr (.inr (.inl 63))), some (.inl v1), some (.inl v2)]) (M := mm V h) rfl rfl ?_
      exact ⟨rfl, rfl⟩
    ·
      replace hf := (if_neg (Int.not_lt.mpr c1)).symm.trans hf
      by_cases c2 : 0 ≤ (V 62 40) ∧ (V 62 40) < (400 : Int)
      case neg => replace hf := (if_neg c2).symm.trans hf; cases hf
      replace hf := (if_pos c2).symm.trans hf
      refine ok_iast (i := V 62 40) (v := iandI (ishrI v1 v2) 255) (id := 80) (n := 400) (L := [some (.inr (.inr (.inl 63))), some (.inl v1), some (.inl v2)]) (S := []) (M := mm V h) rfl rfl rfl c2.1 c2.2 ?_
      refine ok_goto (L := [some (.inr (.inr (.inl 63))), some (.inl v1), some (.inl (w32 (v2 + (-8))))]) (S := []) (M := mm (up (up V 80 ((V 62 40).toNat) (iandI (ishrI v1 v2) 255)) 62 40 (w32 ((V 62 40) + 1))) h) rfl rfl ?_
      exact ih (up (up V 80 ((V 62 40).toNat) (iandI (ishrI v1 v2) 255)) 62 40 (w32 ((V 62 40) + 1))) v1 (w32 (v2 + (-8))) hf
theorem s_Mo_four_1 {X : Xs} {d : Nat} {h : HP} {V : VV} {v1 : Int} {v2 : Int} {n : Nat} {q : VV} (hf : f_Mo_four_1 n V v1 v2 = some q) : Ok X (d + 1) 170 1 ([some (.inr (.inr (.inl 63))), some (.inl v1), some (.inl v2)], [], mm V h) (fun M r => M = mm q h ∧ r = none) :=
  s_Mo_four_1_n n V v1 v2 hf
def f_Mo_four (V : VV) (v1 : Int) : Option (VV) := f_Mo_four_1 FU V v1 24
set_option maxRecDepth 20000 in
set_option maxHeartbeats 4000000 in
theorem s_Mo_four {X : Xs} {d : Nat} {V : VV} {h : HP} {v1 : Int} {q : VV} (hf : f_Mo_four V v1 = some q) : Ok X (d + 1) 170 0 ([some (.inr (.inr (.inl 63))), some (.inl v1), none], [], mm V h) (fun M r => M = mm q h ∧ r = none) := by
  let QQ : Mm → Option AV → Prop := fun M r => M = mm q h ∧ r = none
  show Ok X (d + 1) 170 0 ([some (.inr (.inr (.inl 63))), some (.inl v1), none], [], mm V h) QQ
  refine ok_thru (L := [some (.inr (.inr (.inl 63))), some (.inl v1), some (.inl 24)]) (S := []) (M := mm V h) rfl rfl ?_
  exact s_Mo_four_1 hf
def f_Mo_feed (V : VV) (v1 : Int) (v2 : Int) (v3 : Int) (v4 : Int) (v5 : Int) : Option (VV × Int) := if 400 < (w32 ((V 62 40) + 20)) then some (V, (-1)) else Option.bind (f_Mo_four V v1) (fun q2 => Option.bind (f_Mo_four q2 v2) (fun q3 => Option.bind (f_Mo_four q3 v3) (fun q4 => Option.bind (f_Mo_four q4 v4) (fun q5 => Option.bind (f_Mo_four q5 v5) (fun q6 => some (q6, q6 62 40))))))
set_option maxRecDepth 20000 in
set_option maxHeartbeats 4000000 in
theorem s_Mo_feed {X : Xs} {d : Nat} {V : VV} {h : HP} {v1 : Int} {v2 : Int} {v3 : Int} {v4 : Int} {v5 : Int} {q : VV × Int} (hf : f_Mo_feed V v1 v2 v3 v4 v5 = some q) : Ok X (d + 2) 169 0 ([some (.inr (.inr (.inl 63))), some (.inl v1), some (.inl v2), some (.inl v3), some (.inl v4), some (.inl v5)], [], mm V h) (fun M r => M = mm q.1 h ∧ r = some (.inl q.2)) := by
  let QQ : Mm → Option AV → Prop := fun M r => M = mm q.1 h ∧ r = some (.inl q.2)
  show Ok X (d + 2) 169 0 ([some (.inr (.inr (.inl 63))), some (.inl v1), some (.inl v2), some (.inl v3), some (.inl v4), some (.inl v5)], [], mm V h) QQ
  refine ok_ic_le (x := w32 ((V 62 40) + 20)) (u := 400) (L := [some (.inr (.inr (.inl 63))), some (.inl v1), some (.inl v2), some (.inl v3), some (.inl v4), some (.inl v5)]) (S := []) (M := mm V h) rfl rfl (fun c1 => ?_) (fun c1 => ?_)
  ·
    replace hf := (if_neg (Int.not_lt.mpr c1)).symm.trans hf
    obtain ⟨q2, e2, hf⟩ := obind hf
    refine ok_callA (L := [some (.inr (.inr (.inl 63))), some (.inl v1), some (.inl v2), some (.inl v3), some (.inl v4), some (.inl v5)]) (M := mm V h) (args := [.inr (.inr (.inl 63)), .inl v1]) (rest := []) (y2 := 170) rfl rfl rfl (Or.inl rfl) rfl rfl (Nat.le_of_ble_eq_true rfl) rfl rfl (Nat.le_of_ble_eq_true rfl) (Nat.le_of_ble_eq_true rfl) (s_Mo_four e2) ?_
    rintro _ _ ⟨rfl, rfl⟩
    obtain ⟨q3, e3, hf⟩ := obind hf
    refine ok_callA (L := [some (.inr (.inr (.inl 63))), some (.inl v1), some (.inl v2), some (.inl v3), some (.inl v4), some (.inl v5)]) (M := mm q2 h) (args := [.inr (.inr (.inl 63)), .inl v2]) (rest := []) (y2 := 170) rfl rfl rfl (Or.inl rfl) rfl rfl (Nat.le_of_ble_eq_true rfl) rfl rfl (Nat.le_of_ble_eq_true rfl) (Nat.le_of_ble_eq_true rfl) (s_Mo_four e3) ?_
    rintro _ _ ⟨rfl, rfl⟩
    obtain ⟨q4, e4, hf⟩ := obind hf
    refine ok_callA (L := [some (.inr (.inr (.inl 63))), some (.inl v1), some (.inl v2), some (.inl v3), some (.inl v4), some (.inl v5)]) (M := mm q3 h) (args := [.inr (.inr (.inl 63)), .inl v3]) (rest := []) (y2 := 170) rfl rfl rfl (Or.inl rfl) rfl rfl (Nat.le_of_ble_eq_true rfl) rfl rfl (Nat.le_of_ble_eq_true rfl) (Nat.le_of_ble_eq_true rfl) (s_Mo_four e4) ?_
    rintro _ _ ⟨rfl, rfl⟩
    obtain ⟨q5, e5, hf⟩ := obind hf
    refine ok_callA (L := [some (.inr (.inr (.inl 63))), some (.inl v1), some (.inl v2), some (.inl v3), some (.inl v4), some (.inl v5)]) (M := mm q4 h) (args := [.inr (.inr (.inl 63)), .inl v4]) (rest := []) (y2 := 170) rfl rfl rfl (Or.inl rfl) rfl rfl (Nat.le_of_ble_eq_true rfl) rfl rfl (Nat.le_of_ble_eq_true rfl) (Nat.le_of_ble_eq_true rfl) (s_Mo_four e5) ?_
    rintro _ _ ⟨rfl, rfl⟩
    obtain ⟨q6, e6, hf⟩ := obind hf
    refine ok_callA (L := [some (.inr (.inr (.inl 63))), some (.inl v1), some (.inl v2), some (.inl v3), some (.inl v4), some (.inl v5)]) (M := mm q5 h) (args := [.inr (.inr (.inl 63)), .inl v5]) (rest := []) (y2 := 170) rfl rfl rfl (Or.inl rfl) rfl rfl (Nat.le_of_ble_eq_true rfl) rfl rfl (Nat.le_of_ble_eq_true rfl) (Nat.le_of_ble_eq_true rfl) (s_Mo_four e6) ?_
    rintro _ _ ⟨rfl, rfl⟩
    obtain rfl := Option.some.inj hf
    refine ok_ireturn (L := [some (.inr (.inr (.inl 63))), some (.inl v1), some (.inl v2), some (.inl v3), some (.inl v4), some (.inl v5)]) (M := mm q6 h) (x := q6 62 40) rfl rfl ?_
    exact ⟨rfl, rfl⟩
  ·
    replace hf := (if_pos c1).symm.trans hf
    obtain rfl := Option.some.inj hf
    refine ok_ireturn (L := [some (.inr (.inr (.inl 63))), some (.inl v1), some (.inl v2), some (.inl v3), some (.inl v4), some (.inl v5)]) (M := mm V h) (x := (-1)) rfl rfl ?_
    exact ⟨rfl, rfl⟩
def f_Mo_end (V : VV) (v1 : Int) : VV × Int := if (f_Mo_isIn V v1 0 (V 62 40)) = 0 then (V, (-1)) else (up V 62 40 v1, v1)
set_option maxRecDepth 20000 in
set_option maxHeartbeats 4000000 in
theorem s_Mo_end {X : Xs} {d : Nat} {V : VV} {h : HP} {v1 : Int} {q : VV × Int} (hf : f_Mo_end V v1 = q) : Ok X (d + 2) 171 0 ([some (.inr (.inr (.inl 63))), some (.inl v1)], [], mm V h) (fun M r => M = mm q.1 h ∧ r = some (.inl q.2)) := by
  let QQ : Mm → Option AV → Prop := fun M r => M = mm q.1 h ∧ r = some (.inl q.2)
  show Ok X (d + 2) 171 0 ([some (.inr (.inr (.inl 63))), some (.inl v1)], [], mm V h) QQ
  refine ok_callA (L := [some (.inr (.inr (.inl 63))), some (.inl v1)]) (M := mm V h) (args := [.inl v1, .inl 0, .inl (V 62 40)]) (rest := []) (y2 := 152) rfl rfl rfl (Or.inr (Or.inl rfl)) rfl rfl (Nat.le_of_ble_eq_true rfl) rfl rfl (Nat.le_of_ble_eq_true rfl) (Nat.le_of_ble_eq_true rfl) (s_Mo_isIn rfl) ?_
  rintro _ _ ⟨rfl, rfl, hz1⟩
  refine ok_if_ne (x := f_Mo_isIn V v1 0 (V 62 40)) (L := [some (.inr (.inr (.inl 63))), some (.inl v1)]) (S := []) (M := mm V h) rfl rfl (fun c2 => ?_) (fun c2 => ?_)
  ·
    replace hf := (if_neg c2).symm.trans hf
    have hq : ((up V 62 40 v1, v1)) = q := hf
    subst hq
    refine ok_ireturn (L := [some (.inr (.inr (.inl 63))), some (.inl v1)]) (M := mm (up V 62 40 v1) h) (x := v1) rfl rfl ?_
    exact ⟨rfl, rfl⟩
  ·
    replace hf := (if_pos c2).symm.trans hf
    have hq : ((V, (-1))) = q := hf
    subst hq
    refine ok_ireturn (L := [some (.inr (.inr (.inl 63))), some (.inl v1)]) (M := mm V h) (x := (-1)) rfl rfl ?_
    exact ⟨rfl, rfl⟩
def f_Mo_see (V : VV) (v1 : Int) : Option (Int) := if v1 < (V 62 40) then if 0 ≤ v1 ∧ v1 < (400 : Int) then some (V 80 v1.toNat) else none else some (-1)
set_option maxRecDepth 20000 in
set_option maxHeartbeats 4000000 in
theorem s_Mo_see {X : Xs} {d : Nat} {V : VV} {h : HP} {v1 : Int} {q : Int} (hf : f_Mo_see V v1 = some q) : Ok X (d + 1) 175 0 ([some (.inr (.inr (.inl 63))), some (.inl v1)], [], mm V h) (fun M r => M = mm V h ∧ r = some (.inl q)) := by
  let QQ : Mm → Option AV → Prop := fun M r => M = mm V h ∧ r = some (.inl q)
  show Ok X (d + 1) 175 0 ([some (.inr (.inr (.inl 63))), some (.inl v1)], [], mm V h) QQ
  refine ok_ic_ge (x := v1) (u := V 62 40) (L := [some (.inr (.inr (.inl 63))), some (.inl v1)]) (S := []) (M := mm V h) rfl rfl (fun c1 => ?_) (fun c1 => ?_)
  ·
    replace hf := (if_neg (Int.not_lt.mpr c1)).symm.trans hf
    refine ok_thru (L := [some (.inr (.inr (.inl 63))), some (.inl v1)]) (S := [.inl (-1)]) (M := mm V h) rfl rfl ?_
    obtain rfl := Option.some.inj hf
    refine ok_ireturn (L := [some (.inr (.inr (.inl 63))), some (.inl v1)]) (M := mm V h) (x := (-1)) rfl rfl ?_
    exact ⟨rfl, rfl⟩
  ·
    replace hf := (if_pos c1).symm.trans hf
    by_cases c2 : 0 ≤ v1 ∧ v1 < (400 : Int)
    case neg => replace hf := (if_neg c2).symm.trans hf; cases hf
    replace hf := (if_pos c2).symm.trans hf
    refine ok_iald (i := v1) (id := 80) (n := 400) (L := [some (.inr (.inr (.inl 63))), some (.inl v1)]) (S := []) (M := mm V h) rfl rfl rfl c2.1 c2.2 ?_
    refine ok_goto (L := [some (.inr (.inr (.inl 63))), some (.inl v1)]) (S := [.inl (V 80 v1.toNat)]) (M := mm V h) rfl rfl ?_
    obtain rfl := Option.some.inj hf
    refine ok_ireturn (L := [some (.inr (.inr (.inl 63))), some (.inl v1)]) (M := mm V h) (x := V 80 v1.toNat) rfl rfl ?_
    exact ⟨rfl, rfl⟩
def f_Mo_isDigit (V : VV) (v0 : Int) : Int := f_Mo_isIn V v0 48 57
set_option maxRecDepth 20000 in
set_option maxHeartbeats 4000000 in
theorem s_Mo_isDigit {X : Xs} {d : Nat} {V : VV} {h : HP} {v0 : Int} {q : Int} (hf : f_Mo_isDigit V v0 = q) : Ok X (d + 2) 176 0 ([some (.inl v0)], [], mm V h) (fun M r => M = mm V h ∧ r = some (.inl q) ∧ (q = 0 ∨ q = 1)) := by
  let QQ : Mm → Option AV → Prop := fun M r => M = mm V h ∧ r = some (.inl q) ∧ (q = 0 ∨ q = 1)
  show Ok X (d + 2) 176 0 ([some (.inl v0)], [], mm V h) QQ
  refine ok_callA (L := [some (.inl v0)]) (M := mm V h) (args := [.inl v0, .inl 48, .inl 57]) (rest := []) (y2 := 152) rfl rfl rfl (Or.inr (Or.inl rfl)) rfl rfl (Nat.le_of_ble_eq_true rfl) rfl rfl (Nat.le_of_ble_eq_true rfl) (Nat.le_of_ble_eq_true rfl) (s_Mo_isIn rfl) ?_
  rintro _ _ ⟨rfl, rfl, hz1⟩
  have hq : (f_Mo_isIn V v0 48 57) = q := hf
  subst hq
  have hz : (f_Mo_isIn V v0 48 57 : Int) = 0 ∨ (f_Mo_isIn V v0 48 57 : Int) = 1 := by
    first | exact Or.inl rfl | exact Or.inr rfl | assumption | (repeat' split) <;> first | exact Or.inl rfl | exact Or.inr rfl | assumption
  refine ok_zreturn (L := [some (.inl v0)]) (M := mm V h) (x := f_Mo_isIn V v0 48 57) rfl rfl hz ?_
  exact ⟨rfl, rfl, hz⟩
def f_Mo_isLetter (V : VV) (v0 : Int) : Int := (if (f_Mo_isIn V v0 97 122) = 0 then (if (f_Mo_isIn V v0 65 90) = 0 then 0 else 1 : Int) else 1 : Int)
set_option maxRecDepth 20000 in
set_option maxHeartbeats 4000000 in
theorem s_Mo_isLetter {X : Xs} {d : Nat} {V : VV} {h : HP} {v0 : Int} {q : Int} (hf : f_Mo_isLetter V v0 = q) : Ok X (d + 2) 177 0 ([some (.inl v0)], [], mm V h) (fun M r => M = mm V h ∧ r = some (.inl q) ∧ (q = 0 ∨ q = 1)) := by
  let QQ : Mm → Option AV → Prop := fun M r => M = mm V h ∧ r = some (.inl q) ∧ (q = 0 ∨ q = 1)
  show Ok X (d + 2) 177 0 ([some (.inl v0)], [], mm V h) QQ
  refine ok_callA (L := [some (.inl v0)]) (M := mm V h) (args := [.inl v0, .inl 97, .inl 122]) (rest := []) (y2 := 152) rfl rfl rfl (Or.inr (Or.inl rfl)) rfl rfl (Nat.le_of_ble_eq_true rfl) rfl rfl (Nat.le_of_ble_eq_true rfl) (Nat.le_of_ble_eq_true rfl) (s_Mo_isIn rfl) ?_
  rintro _ _ ⟨rfl, rfl, hz1⟩
  have JN2 : Ok X (d + 2) 177 6 ([some (.inl v0)], [.inl (if (f_Mo_isIn V v0 97 122) = 0 then (if (f_Mo_isIn V v0 65 90) = 0 then 0 else 1 : Int) else 1 : Int)], mm V h) QQ := by
    have hq : ((if (f_Mo_isIn V v0 97 122) = 0 then (if (f_Mo_isIn V v0 65 90) = 0 then 0 else 1 : Int) else 1 : Int)) = q := hf
    subst hq
    have hz : ((if (f_Mo_isIn V v0 97 122) = 0 then (if (f_Mo_isIn V v0 65 90) = 0 then 0 else 1 : Int) else 1 : Int) : Int) = 0 ∨ ((if (f_Mo_isIn V v0 97 122) = 0 then (if (f_Mo_isIn V v0 65 90) = 0 then 0 else 1 : Int) else 1 : Int) : Int) = 1 := by
      first | exact Or.inl rfl | exact Or.inr rfl | assumption | (repeat' split) <;> first | exact Or.inl rfl | exact Or.inr rfl | assumption
    refine ok_zreturn (L := [some (.inl v0)]) (M := mm V h) (x := (if (f_Mo_isIn V v0 97 122) = 0 then (if (f_Mo_isIn V v0 65 90) = 0 then 0 else 1 : Int) else 1 : Int)) rfl rfl hz ?_
    exact ⟨rfl, rfl, hz⟩
  clear hf
  refine ok_if_ne (x := f_Mo_isIn V v0 97 122) (L := [some (.inl v0)]) (S := []) (M := mm V h) rfl rfl (fun c3 => ?_) (fun c3 => ?_)
  ·
    simp only [if_neg c3] at JN2
    refine ok_goto (L := [some (.inl v0)]) (S := [.inl 1]) (M := mm V h) rfl rfl ?_
    first | exact JN2 | (simp only [if_neg c3]; exact JN2)
  ·
    simp only [if_pos c3] at JN2
    refine ok_callA (L := [some (.inl v0)]) (M := mm V h) (args := [.inl v0, .inl 65, .inl 90]) (rest := []) (y2 := 152) rfl rfl rfl (Or.inr (Or.inl rfl)) rfl rfl (Nat.le_of_ble_eq_true rfl) rfl rfl (Nat.le_of_ble_eq_true rfl) (Nat.le_of_ble_eq_true rfl) (s_Mo_isIn rfl) ?_
    rintro _ _ ⟨rfl, rfl, hz4⟩
    refine ok_if_eq (x := f_Mo_isIn V v0 65 90) (L := [some (.inl v0)]) (S := []) (M := mm V h) rfl rfl (fun c5 => ?_) (fun c5 => ?_)
    ·
      simp only [if_pos c5] at JN2
      refine ok_thru (L := [some (.inl v0)]) (S := [.inl 0]) (M := mm V h) rfl rfl ?_
      first | exact JN2 | (simp only [if_pos c3, if_pos c5]; exact JN2)
    ·
      simp only [if_neg c5] at JN2
      refine ok_goto (L := [some (.inl v0)]) (S := [.inl 1]) (M := mm V h) rfl rfl ?_
      first | exact JN2 | (simp only [if_pos c3, if_neg c5]; exact JN2)
def f_Mo_nextToken_4 (k0 : VV → (Option (VV))) (V : VV)  : Option (VV) := k0 (up V 62 43 (w32 ((V 62 43) + 1)))
set_option maxRecDepth 20000 in
set_option maxHeartbeats 4000000 in
theorem s_Mo_nextToken_4 {X : Xs} {d : Nat} {k0 : VV → (Option (VV))} {V : VV} {h : HP} {z1 : Option AV} {q : VV} (hf : f_Mo_nextToken_4 k0 V = some q) (K0 : ∀ (V : VV) (z1 : Option AV), k0 V = some q → Ok X (d + 3) 174 0 ([some (.inr (.inr (.inl 63))), z1], [], mm V h) (fun M r => M = mm q h ∧ r = none)) : Ok X (d + 3) 174 4 ([some (.inr (.inr (.inl 63))), z1], [], mm V h) (fun M r => M = mm q h ∧ r = none) := by
  let QQ : Mm → Option AV → Prop := fun M r => M = mm q h ∧ r = none
  show Ok X (d + 3) 174 4 ([some (.inr (.inr (.inl 63))), z1], [], mm V h) QQ
  refine ok_goto (L := [some (.inr (.inr (.inl 63))), z1]) (S := []) (M := mm (up V 62 43 (w32 ((V 62 43) + 1))) h) rfl rfl ?_
  exact K0 (up V 62 43 (w32 ((V 62 43) + 1))) z1 hf
def f_Mo_nextToken_17 (k11 : VV → (Option (VV))) (V : VV)  : Option (VV) := k11 (up V 62 43 (w32 ((V 62 43) + 1)))
set_option maxRecDepth 20000 in
set_option maxHeartbeats 4000000 in
theorem s_Mo_nextToken_17 {X : Xs} {d : Nat} {k11 : VV → (Option (VV))} {V : VV} {h : HP} {w1 : Int} {q : VV} (hf : f_Mo_nextToken_17 k11 V = some q) (K11 : ∀ (V : VV) (w1 : Int), k11 V = some q → Ok X (d + 3) 174 11 ([some (.inr (.inr (.inl 63))), some (.inl w1)], [], mm V h) (fun M r => M = mm q h ∧ r = none)) : Ok X (d + 3) 174 17 ([some (.inr (.inr (.inl 63))), some (.inl w1)], [], mm V h) (fun M r => M = mm q h ∧ r = none) := by
  let QQ : Mm → Option AV → Prop := fun M r => M = mm q h ∧ r = none
  show Ok X (d + 3) 174 17 ([some (.inr (.inr (.inl 63))), some (.inl w1)], [], mm V h) QQ
  refine ok_goto (L := [some (.inr (.inr (.inl 63))), some (.inl w1)]) (S := []) (M := mm (up V 62 43 (w32 ((V 62 43) + 1))) h) rfl rfl ?_
  exact K11 (up V 62 43 (w32 ((V 62 43) + 1))) w1 hf
def f_Mo_nextToken_11 : Nat → VV → (Option (VV))
  | 0, _ => none
  | n + 1, V => Option.bind (f_Mo_see V (V 62 43)) (fun q1 => if (f_Mo_isDigit V q1) = 0 then some V else if (V 62 46) < 100000 then Option.bind (f_Mo_see V (V 62 43)) (fun q5 => f_Mo_nextToken_17 (f_Mo_nextToken_11 n) (up V 62 46 (w32 ((w32 ((w32 (10 * (V 62 46))) + q5)) - 48)))) else f_Mo_nextToken_17 (f_Mo_nextToken_11 n) V)
set_option maxRecDepth 20000 in
set_option maxHeartbeats 4000000 in
theorem s_Mo_nextToken_11_n {X : Xs} {d : Nat} {h : HP} {q : VV} : ∀ (n : Nat) (V : VV) (w1 : Int), f_Mo_nextToken_11 n V = some q → Ok X (d + 3) 174 11 ([some (.inr (.inr (.inl 63))), some (.inl w1)], [], mm V h) (fun M r => M = mm q h ∧ r = none) := by
  intro n
  induction n with
  | zero => intro V w1 hf; cases hf
  | succ n ih =>
    intro V w1 hf
    let QQ : Mm → Option AV → Prop := fun M r => M = mm q h ∧ r = none
    show Ok X (d + 3) 174 11 ([some (.inr (.inr (.inl 63))), some (.inl w1)], [], mm V h) QQ
    obtain ⟨q1, e1, hf⟩ := obind hf
    refine ok_callA (L := [some (.inr (.inr (.inl 63))), some (.inl w1)]) (M := mm V h) (args := [.inr (.inr (.inl 63)), .inl (V 62 43)]) (rest := []) (y2 := 175) rfl rfl rfl (Or.inl rfl) rfl rfl (Nat.le_of_ble_eq_true rfl) rfl rfl (Nat.le_of_ble_eq_true rfl) (Nat.le_of_ble_eq_true rfl) (s_Mo_see e1) ?_
    rintro _ _ ⟨rfl, rfl⟩
    refine ok_callA (L := [some (.inr (.inr (.inl 63))), some (.inl w1)]) (M := mm V h) (args := [.inl q1]) (rest := []) (y2 := 176) rfl rfl rfl (Or.inr (Or.inl rfl)) rfl rfl (Nat.le_of_ble_eq_true rfl) rfl rfl (Nat.le_of_ble_eq_true rfl) (Nat.le_of_ble_eq_true rfl) (s_Mo_isDigit rfl) ?_
    rintro _ _ ⟨rfl, rfl, hz2⟩
    refine ok_if_eq (x := f_Mo_isDigit V q1) (L := [some (.inr (.inr (.inl 63))), some (.inl w1)]) (S := []) (M := mm V h) rfl rfl (fun c3 => ?_) (fun c3 => ?_)
    ·
      replace hf := (if_pos c3).symm.trans hf
      obtain rfl := Option.some.inj hf
      refine ok_return (L := [some (.inr (.inr (.inl 63))), some (.inl w1)]) (M := mm V h) rfl rfl ?_
      exact ⟨rfl, rfl⟩
    ·
      replace hf := (if_neg c3).symm.trans hf
      refine ok_ic_ge (x := V 62 46) (u := 100000) (L := [some (.inr (.inr (.inl 63))), some (.inl w1)]) (S := []) (M := mm V h) rfl rfl (fun c4 => ?_) (fun c4 => ?_)
      ·
        replace hf := (if_neg (Int.not_lt.mpr c4)).symm.trans hf
        exact s_Mo_nextToken_17 hf ih
      ·
        replace hf := (if_pos c4).symm.trans hf
        obtain ⟨q5, e5, hf⟩ := obind hf
        refine ok_callA (L := [some (.inr (.inr (.inl 63))), some (.inl w1)]) (M := mm V h) (args := [.inr (.inr (.inl 63)), .inl (V 62 43)]) (rest := [.inl (w32 (10 * (V 62 46))), .inr (.inr (.inl 63))]) (y2 := 175) rfl rfl rfl (Or.inl rfl) rfl rfl (Nat.le_of_ble_eq_true rfl) rfl rfl (Nat.le_of_ble_eq_true rfl) (Nat.le_of_ble_eq_true rfl) (s_Mo_see e5) ?_
        rintro _ _ ⟨rfl, rfl⟩
        refine ok_thru (L := [some (.inr (.inr (.inl 63))), some (.inl w1)]) (S := []) (M := mm (up V 62 46 (w32 ((w32 ((w32 (10 * (V 62 46))) + q5)) - 48))) h) rfl rfl ?_
        exact s_Mo_nextToken_17 hf ih
theorem s_Mo_nextToken_11 {X : Xs} {d : Nat} {h : HP} {V : VV} {w1 : Int} {n : Nat} {q : VV} (hf : f_Mo_nextToken_11 n V = some q) : Ok X (d + 3) 174 11 ([some (.inr (.inr (.inl 63))), some (.inl w1)], [], mm V h) (fun M r => M = mm q h ∧ r = none) :=
  s_Mo_nextToken_11_n n V w1 hf
def f_Mo_nextToken_28 (k21 : VV → (Option (VV))) (V : VV) (t1 : Int) : Option (VV) := k21 (up (up V 62 47 t1) 62 43 (w32 ((V 62 43) + 1)))
set_option maxRecDepth 20000 in
set_option maxHeartbeats 4000000 in
theorem s_Mo_nextToken_28 {X : Xs} {d : Nat} {k21 : VV → (Option (VV))} {V : VV} {h : HP} {t1 : Int} {w1 : Int} {q : VV} (hf : f_Mo_nextToken_28 k21 V t1 = some q) (K21 : ∀ (V : VV) (w1 : Int), k21 V = some q → Ok X (d + 3) 174 21 ([some (.inr (.inr (.inl 63))), some (.inl w1)], [], mm V h) (fun M r => M = mm q h ∧ r = none)) : Ok X (d + 3) 174 28 ([some (.inr (.inr (.inl 63))), some (.inl w1)], [.inr (.inl t1), .inr (.inr (.inl 63))], mm V h) (fun M r => M = mm q h ∧ r = none) := by
  let QQ : Mm → Option AV → Prop := fun M r => M = mm q h ∧ r = none
  show Ok X (d + 3) 174 28 ([some (.inr (.inr (.inl 63))), some (.inl w1)], [.inr (.inl t1), .inr (.inr (.inl 63))], mm V h) QQ
  refine ok_goto (L := [some (.inr (.inr (.inl 63))), some (.inl w1)]) (S := []) (M := mm (up (up V 62 47 t1) 62 43 (w32 ((V 62 43) + 1))) h) rfl rfl ?_
  exact K21 (up (up V 62 47 t1) 62 43 (w32 ((V 62 43) + 1))) w1 hf
def f_Mo_nextToken_21 : Nat → VV → (Option (VV))
  | 0, _ => none
  | n + 1, V => Option.bind (f_Mo_see V (V 62 43)) (fun q1 => if (f_Mo_isLetter V q1) = 0 then if 7 < (w32 ((V 62 43) - (V 62 44))) then some (up V 62 47 0) else some V else if (w32 ((V 62 43) - (V 62 44))) < 7 then Option.bind (f_Mo_see V (V 62 43)) (fun q6 => f_Mo_nextToken_28 (f_Mo_nextToken_21 n) V (lorI (lshlI (V 62 47) 8) q6)) else f_Mo_nextToken_28 (f_Mo_nextToken_21 n) V 0)
set_option maxRecDepth 20000 in
set_option maxHeartbeats 4000000 in
theorem s_Mo_nextToken_21_n {X : Xs} {d : Nat} {h : HP} {q : VV} : ∀ (n : Nat) (V : VV) (w1 : Int), f_Mo_nextToken_21 n V = some q → Ok X (d + 3) 174 21 ([some (.inr (.inr (.inl 63))), some (.inl w1)], [], mm V h) (fun M r => M = mm q h ∧ r = none) := by
  intro n
  induction n with
  | zero => intro V w1 hf; cases hf
  | succ n ih =>
    intro V w1 hf
    let QQ : Mm → Option AV → Prop := fun M r => M = mm q h ∧ r = none
    show Ok X (d + 3) 174 21 ([some (.inr (.inr (.inl 63))), some (.inl w1)], [], mm V h) QQ
    obtain ⟨q1, e1, hf⟩ := obind hf
    refine ok_callA (L := [some (.inr (.inr (.inl 63))), some (.inl w1)]) (M := mm V h) (args := [.inr (.inr (.inl 63)), .inl (V 62 43)]) (rest := []) (y2 := 175) rfl rfl rfl (Or.inl rfl) rfl rfl (Nat.le_of_ble_eq_true rfl) rfl rfl (Nat.le_of_ble_eq_true rfl) (Nat.le_of_ble_eq_true rfl) (s_Mo_see e1) ?_
    rintro _ _ ⟨rfl, rfl⟩
    refine ok_callA (L := [some (.inr (.inr (.inl 63))), some (.inl w1)]) (M := mm V h) (args := [.inl q1]) (rest := []) (y2 := 177) rfl rfl rfl (Or.inr (Or.inl rfl)) rfl rfl (Nat.le_of_ble_eq_true rfl) rfl rfl (Nat.le_of_ble_eq_true rfl) (Nat.le_of_ble_eq_true rfl) (s_Mo_isLetter rfl) ?_
    rintro _ _ ⟨rfl, rfl, hz2⟩
    refine ok_if_eq (x := f_Mo_isLetter V q1) (L := [some (.inr (.inr (.inl 63))), some (.inl w1)]) (S := []) (M := mm V h) rfl rfl (fun c3 => ?_) (fun c3 => ?_)
    ·
      replace hf := (if_pos c3).symm.trans hf
      refine ok_ic_le (x := w32 ((V 62 43) - (V 62 44))) (u := 7) (L := [some (.inr (.inr (.inl 63))), some (.inl w1)]) (S := []) (M := mm V h) rfl rfl (fun c4 => ?_) (fun c4 => ?_)
      ·
        replace hf := (if_neg (Int.not_lt.mpr c4)).symm.trans hf
        obtain rfl := Option.some.inj hf
        refine ok_return (L := [some (.inr (.inr (.inl 63))), some (.inl w1)]) (M := mm V h) rfl rfl ?_
        exact ⟨rfl, rfl⟩
      ·
        replace hf := (if_pos c4).symm.trans hf
        refine ok_goto (L := [some (.inr (.inr (.inl 63))), some (.inl w1)]) (S := []) (M := mm (up V 62 47 0) h) rfl rfl ?_
        obtain rfl := Option.some.inj hf
        refine ok_return (L := [some (.inr (.inr (.inl 63))), some (.inl w1)]) (M := mm (up V 62 47 0) h) rfl rfl ?_
        exact ⟨rfl, rfl⟩
    ·
      replace hf := (if_neg c3).symm.trans hf
      refine ok_ic_ge (x := w32 ((V 62 43) - (V 62 44))) (u := 7) (L := [some (.inr (.inr (.inl 63))), some (.inl w1)]) (S := [.inr (.inr (.inl 63))]) (M := mm V h) rfl rfl (fun c5 => ?_) (fun c5 => ?_)
      ·
        replace hf := (if_neg (Int.not_lt.mpr c5)).symm.trans hf
        refine ok_thru (L := [some (.inr (.inr (.inl 63))), some (.inl w1)]) (S := [.inr (.inl 0), .inr (.inr (.inl 63))]) (M := mm V h) rfl rfl ?_
        exact s_Mo_nextToken_28 hf ih
      ·
        replace hf := (if_pos c5).symm.trans hf
        obtain ⟨q6, e6, hf⟩ := obind hf
        refine ok_callA (L := [some (.inr (.inr (.inl 63))), some (.inl w1)]) (M := mm V h) (args := [.inr (.inr (.inl 63)), .inl (V 62 43)]) (rest := [.inr (.inl (lshlI (V 62 47) 8)), .inr (.inr (.inl 63))]) (y2 := 175) rfl rfl rfl (Or.inl rfl) rfl rfl (Nat.le_of_ble_eq_true rfl) rfl rfl (Nat.le_of_ble_eq_true rfl) (Nat.le_of_ble_eq_true rfl) (s_Mo_see e6) ?_
        rintro _ _ ⟨rfl, rfl⟩
        refine ok_goto (L := [some (.inr (.inr (.inl 63))), some (.inl w1)]) (S := [.inr (.inl (lorI (lshlI (V 62 47) 8) q6)), .inr (.inr (.inl 63))]) (M := mm V h) rfl rfl ?_
        exact s_Mo_nextToken_28 hf ih
theorem s_Mo_nextToken_21 {X : Xs} {d : Nat} {h : HP} {V : VV} {w1 : Int} {n : Nat} {q : VV} (hf : f_Mo_nextToken_21 n V = some q) : Ok X (d + 3) 174 21 ([some (.inr (.inr (.inl 63))), some (.inl w1)], [], mm V h) (fun M r => M = mm q h ∧ r = none) :=
  s_Mo_nextToken_21_n n V w1 hf
def f_Mo_nextToken_0 : Nat → VV → (Option (VV))
  | 0, _ => none
  | n + 1, V => Option.bind (f_Mo_see V (V 62 43)) (fun q1 => if q1 = 32 then f_Mo_nextToken_4 (f_Mo_nextToken_0 n) V else Option.bind (f_Mo_see V (V 62 43)) (fun q3 => if q3 = 10 then f_Mo_nextToken_4 (f_Mo_nextToken_0 n) V else Option.bind (f_Mo_see (up V 62 44 (V 62 43)) (V 62 43)) (fun q5 => if q5 < 0 then some (up (up V 62 44 (V 62 43)) 62 45 0) else if (f_Mo_isDigit (up V 62 44 (V 62 43)) q5) = 0 then if (f_Mo_isLetter (up V 62 44 (V 62 43)) q5) = 0 then some (up (up (up V 62 44 (V 62 43)) 62 45 (if q5 < 10 then 255 else q5 : Int)) 62 43 (w32 ((V 62 43) + 1))) else f_Mo_nextToken_21 FU (up (up (up V 62 44 (V 62 43)) 62 45 2) 62 47 0) else f_Mo_nextToken_11 FU (up (up (up V 62 44 (V 62 43)) 62 45 1) 62 46 0))))
set_option maxRecDepth 20000 in
set_option maxHeartbeats 4000000 in
theorem s_Mo_nextToken_0_n {X : Xs} {d : Nat} {h : HP} {q : VV} : ∀ (n : Nat) (V : VV) (z1 : Option AV), f_Mo_nextToken_0 n V = some q → Ok X (d + 3) 174 0 ([some (.inr (.inr (.inl 63))), z1], [], mm V h) (fun M r => M = mm q h ∧ r = none) := by
  intro n
  induction n with
  | zero => intro V z1 hf; cases hf
  | succ n ih =>
    intro V z1 hf
    let QQ : Mm → Option AV → Prop := fun M r => M = mm q h ∧ r = none
    show Ok X (d + 3) 174 0 ([some (.inr (.inr (.inl 63))), z1], [], mm V h) QQ
    obtain ⟨q1, e1, hf⟩ := obind hf
    refine ok_callA (L := [some (.inr (.inr (.inl 63))), z1]) (M := mm V h) (args := [.inr (.inr (.inl 63)), .inl (V 62 43)]) (rest := []) (y2 := 175) rfl rfl rfl (Or.inl rfl) rfl rfl (Nat.le_of_ble_eq_true rfl) rfl rfl (Nat.le_of_ble_eq_true rfl) (Nat.le_of_ble_eq_true rfl) (s_Mo_see e1) ?_
    rintro _ _ ⟨rfl, rfl⟩
    refine ok_ic_eq (x := q1) (u := 32) (L := [some (.inr (.inr (.inl 63))), z1]) (S := []) (M := mm V h) rfl rfl (fun c2 => ?_) (fun c2 => ?_)
    ·
      replace hf := (if_pos c2).symm.trans hf
      exact s_Mo_nextToken_4 hf ih
    ·
      replace hf := (if_neg c2).symm.trans hf
      obtain ⟨q3, e3, hf⟩ := obind hf
      refine ok_callA (L := [some (.inr (.inr (.inl 63))), z1]) (M := mm V h) (args := [.inr (.inr (.inl 63)), .inl (V 62 43)]) (rest := []) (y2 := 175) rfl rfl rfl (Or.inl rfl) rfl rfl (Nat.le_of_ble_eq_true rfl) rfl rfl (Nat.le_of_ble_eq_true rfl) (Nat.le_of_ble_eq_true rfl) (s_Mo_see e3) ?_
      rintro _ _ ⟨rfl, rfl⟩
      refine ok_ic_ne (x := q3) (u := 10) (L := [some (.inr (.inr (.inl 63))), z1]) (S := []) (M := mm V h) rfl rfl (fun c4 => ?_) (fun c4 => ?_)
      ·
        replace hf := (if_neg c4).symm.trans hf
        obtain ⟨q5, e5, hf⟩ := obind hf
        refine ok_callA (L := [some (.inr (.inr (.inl 63))), z1]) (M := mm (up V 62 44 (V 62 43)) h) (args := [.inr (.inr (.inl 63)), .inl (V 62 43)]) (rest := []) (y2 := 175) rfl rfl rfl (Or.inl rfl) rfl rfl (Nat.le_of_ble_eq_true rfl) rfl rfl (Nat.le_of_ble_eq_true rfl) (Nat.le_of_ble_eq_true rfl) (s_Mo_see e5) ?_
        rintro _ _ ⟨rfl, rfl⟩
        refine ok_if_ge (x := q5) (L := [some (.inr (.inr (.inl 63))), some (.inl q5)]) (S := []) (M := mm (up V 62 44 (V 62 43)) h) rfl rfl (fun c6 => ?_) (fun c6 => ?_)
        ·
          replace hf := (if_neg (Int.not_lt.mpr c6)).symm.trans hf
          refine ok_callA (L := [some (.inr (.inr (.inl 63))), some (.inl q5)]) (M := mm (up V 62 44 (V 62 43)) h) (args := [.inl q5]) (rest := []) (y2 := 176) rfl rfl rfl (Or.inr (Or.inl rfl)) rfl rfl (Nat.le_of_ble_eq_true rfl) rfl rfl (Nat.le_of_ble_eq_true rfl) (Nat.le_of_ble_eq_true rfl) (s_Mo_isDigit rfl) ?_
          rintro _ _ ⟨rfl, rfl, hz7⟩
          refine ok_if_eq (x := f_Mo_isDigit (up V 62 44 (V 62 43)) q5) (L := [some (.inr (.inr (.inl 63))), some (.inl q5)]) (S := []) (M := mm (up V 62 44 (V 62 43)) h) rfl rfl (fun c8 => ?_) (fun c8 => ?_)
          ·
            replace hf := (if_pos c8).symm.trans hf
            refine ok_callA (L := [some (.inr (.inr (.inl 63))), some (.inl q5)]) (M := mm (up V 62 44 (V 62 43)) h) (args := [.inl q5]) (rest := []) (y2 := 177) rfl rfl rfl (Or.inr (Or.inl rfl)) rfl rfl (Nat.le_of_ble_eq_true rfl) rfl rfl (Nat.le_of_ble_eq_true rfl) (Nat.le_of_ble_eq_true rfl) (s_Mo_isLetter rfl) ?_
            rintro _ _ ⟨rfl, rfl, hz9⟩
            refine ok_if_eq (x := f_Mo_isLetter (up V 62 44 (V 62 43)) q5) (L := [some (.inr (.inr (.inl 63))), some (.inl q5)]) (S := []) (M := mm (up V 62 44 (V 62 43)) h) rfl rfl (fun c10 => ?_) (fun c10 => ?_)
            ·
              replace hf := (if_pos c10).symm.trans hf
              have JN11 : Ok X (d + 3) 174 34 ([some (.inr (.inr (.inl 63))), some (.inl q5)], [.inl (if q5 < 10 then 255 else q5 : Int), .inr (.inr (.inl 63))], mm (up V 62 44 (V 62 43)) h) QQ := by
                refine ok_thru (L := [some (.inr (.inr (.inl 63))), some (.inl q5)]) (S := []) (M := mm (up (up (up V 62 44 (V 62 43)) 62 45 (if q5 < 10 then 255 else q5 : Int)) 62 43 (w32 ((V 62 43) + 1))) h) rfl rfl ?_
                obtain rfl := Option.some.inj hf
                refine ok_return (L := [some (.inr (.inr (.inl 63))), some (.inl q5)]) (M := mm (up (up (up V 62 44 (V 62 43)) 62 45 (if q5 < 10 then 255 else q5 : Int)) 62 43 (w32 ((V 62 43) + 1))) h) rfl rfl ?_
                exact ⟨rfl, rfl⟩
              clear hf
              refine ok_ic_ge (x := q5) (u := 10) (L := [some (.inr (.inr (.inl 63))), some (.inl q5)]) (S := [.inr (.inr (.inl 63))]) (M := mm (up V 62 44 (V 62 43)) h) rfl rfl (fun c12 => ?_) (fun c12 => ?_)
              ·
                simp only [if_neg (Int.not_lt.mpr c12)] at JN11
                refine ok_thru (L := [some (.inr (.inr (.inl 63))), some (.inl q5)]) (S := [.inl q5, .inr (.inr (.inl 63))]) (M := mm (up V 62 44 (V 62 43)) h) rfl rfl ?_
                first | exact JN11 | (simp only [if_neg (Int.not_lt.mpr c12)]; exact JN11)
              ·
                simp only [if_pos c12] at JN11
                refine ok_goto (L := [some (.inr (.inr (.inl 63))), some (.inl q5)]) (S := [.inl 255, .inr (.inr (.inl 63))]) (M := mm (up V 62 44 (V 62 43)) h) rfl rfl ?_
                first | exact JN11 | (simp only [if_pos c12]; exact JN11)
            ·
              replace hf := (if_neg c10).symm.trans hf
              refine ok_thru (L := [some (.inr (.inr (.inl 63))), some (.inl q5)]) (S := []) (M := mm (up (up (up V 62 44 (V 62 43)) 62 45 2) 62 47 0) h) rfl rfl ?_
              exact s_Mo_nextToken_21 hf
          ·
            replace hf := (if_neg c8).symm.trans hf
            refine ok_thru (L := [some (.inr (.inr (.inl 63))), some (.inl q5)]) (S := []) (M := mm (up (up (up V 62 44 (V 62 43)) 62 45 1) 62 46 0) h) rfl rfl ?_
            exact s_Mo_nextToken_11 hf
        ·
          replace hf := (if_pos c6).symm.trans hf
          refine ok_goto (L := [some (.inr (.inr (.inl 63))), some (.inl q5)]) (S := []) (M := mm (up (up V 62 44 (V 62 43)) 62 45 0) h) rfl rfl ?_
          obtain rfl := Option.some.inj hf
          refine ok_return (L := [some (.inr (.inr (.inl 63))), some (.inl q5)]) (M := mm (up (up V 62 44 (V 62 43)) 62 45 0) h) rfl rfl ?_
          exact ⟨rfl, rfl⟩
      ·
        replace hf := (if_pos c4).symm.trans hf
        exact s_Mo_nextToken_4 hf ih
theorem s_Mo_nextToken_0 {X : Xs} {d : Nat} {h : HP} {V : VV} {z1 : Option AV} {n : Nat} {q : VV} (hf : f_Mo_nextToken_0 n V = some q) : Ok X (d + 3) 174 0 ([some (.inr (.inr (.inl 63))), z1], [], mm V h) (fun M r => M = mm q h ∧ r = none) :=
  s_Mo_nextToken_0_n n V z1 hf
def f_Mo_nextToken (V : VV)  : Option (VV) := f_Mo_nextToken_0 FU V
theorem s_Mo_nextToken {X : Xs} {d : Nat} {V : VV} {h : HP} {q : VV} (hf : f_Mo_nextToken V = some q) : Ok X (d + 3) 174 0 ([some (.inr (.inr (.inl 63))), none], [], mm V h) (fun M r => M = mm q h ∧ r = none) :=
  s_Mo_nextToken_0_n FU V none hf
