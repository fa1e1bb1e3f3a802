/-! the pace (printed by wip/tools/gen22.py) -/
def f_Br_pace_13 (k3 : VV → HP → Int → Int → (Option ((VV × HP) × Int))) (V : VV) (h : HP) (v1 : Int) (v2 : Int) : Option ((VV × HP) × Int) := k3 V h v1 (w32 (v2 + 1))
set_option maxRecDepth 20000 in
set_option maxHeartbeats 4000000 in
theorem s_Br_pace_13 {X : Xs} {d : Nat} {k3 : VV → HP → Int → Int → (Option ((VV × HP) × Int))} {V : VV} {h : HP} {v1 : Int} {v2 : Int} {q : (VV × HP) × Int} (hh : HOK h) (hf : f_Br_pace_13 k3 V h v1 v2 = some q) (K3 : ∀ (V : VV) (h : HP) (v1 : Int) (v2 : Int), HOK h → k3 V h v1 v2 = some q → Ok X (d + 9) 124 3 ([some (.inr (.inr (.inl 1))), some (.inl v1), some (.inl v2)], [], mm V h) (fun M r => M = mm q.1.1 q.1.2 ∧ HOK q.1.2 ∧ r = some (.inl q.2))) : Ok X (d + 9) 124 13 ([some (.inr (.inr (.inl 1))), some (.inl v1), some (.inl v2)], [], mm V h) (fun M r => M = mm q.1.1 q.1.2 ∧ HOK q.1.2 ∧ r = some (.inl q.2)) := by
  let QQ : Mm → Option AV → Prop := fun M r => M = mm q.1.1 q.1.2 ∧ HOK q.1.2 ∧ r = some (.inl q.2)
  show Ok X (d + 9) 124 13 ([some (.inr (.inr (.inl 1))), some (.inl v1), some (.inl v2)], [], mm V h) QQ
  refine ok_goto (L := [some (.inr (.inr (.inl 1))), some (.inl v1), some (.inl (w32 (v2 + 1)))]) (S := []) (M := mm V h) rfl rfl ?_
  exact K3 V h v1 (w32 (v2 + 1)) hh hf
def f_Br_pace_11 (k3 : VV → HP → Int → Int → (Option ((VV × HP) × Int))) (V : VV) (h : HP) (v2 : Int) : Option ((VV × HP) × Int) := f_Br_pace_13 k3 (upR V 60 (cpy (V 59) (V 60) 0 0 3)) h v2 v2
set_option maxRecDepth 20000 in
set_option maxHeartbeats 4000000 in
theorem s_Br_pace_11 {X : Xs} {d : Nat} {k3 : VV → HP → Int → Int → (Option ((VV × HP) × Int))} {V : VV} {h : HP} {v2 : Int} {w1 : Int} {q : (VV × HP) × Int} (hh : HOK h) (hf : f_Br_pace_11 k3 V h v2 = some q) (K3 : ∀ (V : VV) (h : HP) (v1 : Int) (v2 : Int), HOK h → k3 V h v1 v2 = some q → Ok X (d + 9) 124 3 ([some (.inr (.inr (.inl 1))), some (.inl v1), some (.inl v2)], [], mm V h) (fun M r => M = mm q.1.1 q.1.2 ∧ HOK q.1.2 ∧ r = some (.inl q.2))) : Ok X (d + 9) 124 11 ([some (.inr (.inr (.inl 1))), some (.inl w1), some (.inl v2)], [], mm V h) (fun M r => M = mm q.1.1 q.1.2 ∧ HOK q.1.2 ∧ r = some (.inl q.2)) := by
  let QQ : Mm → Option AV → Prop := fun M r => M = mm q.1.1 q.1.2 ∧ HOK q.1.2 ∧ r = some (.inl q.2)
  show Ok X (d + 9) 124 11 ([some (.inr (.inr (.inl 1))), some (.inl w1), some (.inl v2)], [], mm V h) QQ
  refine ok_alen (id := 59) (n := 3) (L := [some (.inr (.inr (.inl 1))), some (.inl v2), some (.inl v2)]) (S := [.inl 0, .inr (.inr (.inl 61)), .inl 0, .inr (.inr (.inl 60))]) (M := mm V h) rfl rfl rfl ?_
  refine ok_cpy (k := 3) (dp := 0) (sp := 0) (p := 59) (q := 60) (n1 := 3) (n2 := 3) (L := [some (.inr (.inr (.inl 1))), some (.inl v2), some (.inl v2)]) (S := []) (M := mm V h) (by omega) rfl rfl (Nat.le_of_ble_eq_true rfl) (by decide) (by decide) (by decide) (by decide) rfl (by decide) rfl (by decide) ?_
  exact s_Br_pace_13 hh hf K3
def f_Br_pace_3 : Nat → VV → HP → Int → Int → (Option ((VV × HP) × Int))
  | 0, _, _, _, _ => none
  | n + 1, V, h, v1, v2 => if 20 < v2 then some ((up V 0 15 v1, h), v1) else Option.bind (f_Br_canBePaved V) (fun q2 => if q2 = 0 then f_Br_pace_13 (f_Br_pace_3 n) V h v1 v2 else Option.bind (f_Br_tryPace V h v2) (fun q4 => if q4.2 = 0 then f_Br_pace_13 (f_Br_pace_3 n) q4.1.1 (q4.1.2) v1 v2 else if v1 = (-1) then f_Br_pace_11 (f_Br_pace_3 n) q4.1.1 (q4.1.2) v2 else Option.bind (f_Br_isTrialBetter q4.1.1) (fun q7 => if q7 = 0 then f_Br_pace_13 (f_Br_pace_3 n) q4.1.1 (q4.1.2) v1 v2 else f_Br_pace_11 (f_Br_pace_3 n) q4.1.1 (q4.1.2) v2)))
set_option maxRecDepth 20000 in
set_option maxHeartbeats 4000000 in
theorem s_Br_pace_3_n {X : Xs} {d : Nat}  {q : (VV × HP) × Int} : ∀ (n : Nat) (V : VV) (h : HP) (v1 : Int) (v2 : Int), HOK h → f_Br_pace_3 n V h v1 v2 = some q → Ok X (d + 9) 124 3 ([some (.inr (.inr (.inl 1))), some (.inl v1), some (.inl v2)], [], mm V h) (fun M r => M = mm q.1.1 q.1.2 ∧ HOK q.1.2 ∧ r = some (.inl q.2)) := by
  intro n
  induction n with
  | zero => intro V h v1 v2 hh hf; cases hf
  | succ n ih =>
    intro V h v1 v2 hh hf
    let QQ : Mm → Option AV → Prop := fun M r => M = mm q.1.1 q.1.2 ∧ HOK q.1.2 ∧ r = some (.inl q.2)
    show Ok X (d + 9) 124 3 ([some (.inr (.inr (.inl 1))), some (.inl v1), some (.inl v2)], [], mm V h) QQ
    refine ok_ic_gt (x := v2) (u := 20) (L := [some (.inr (.inr (.inl 1))), some (.inl v1), some (.inl v2)]) (S := []) (M := mm V h) rfl rfl (fun c1 => ?_) (fun c1 => ?_)
    ·
      replace hf := (if_pos c1).symm.trans hf
      obtain rfl := Option.some.inj hf
      refine ok_ireturn (L := [some (.inr (.inr (.inl 1))), some (.inl v1), some (.inl v2)]) (M := mm (up V 0 15 v1) h) (x := v1) rfl rfl ?_
      exact ⟨rfl, hh, rfl⟩
    ·
      replace hf := (if_neg (Int.not_lt.mpr c1)).symm.trans hf
      obtain ⟨q2, e2, hf⟩ := obind hf
      refine ok_callA (L := [some (.inr (.inr (.inl 1))), some (.inl v1), some (.inl v2)]) (M := mm V h) (args := [.inr (.inr (.inl 1))]) (rest := []) (y2 := 94) rfl rfl rfl (Or.inl rfl) rfl rfl (Nat.le_of_ble_eq_true rfl) rfl rfl (Nat.le_of_ble_eq_true rfl) (Nat.le_of_ble_eq_true rfl) (s_Br_canBePaved e2) ?_
      rintro _ _ ⟨rfl, rfl, hz2⟩
      refine ok_if_eq (x := q2) (L := [some (.inr (.inr (.inl 1))), some (.inl v1), some (.inl v2)]) (S := []) (M := mm V h) rfl rfl (fun c3 => ?_) (fun c3 => ?_)
      ·
        replace hf := (if_pos c3).symm.trans hf
        exact s_Br_pace_13 hh hf ih
      ·
        replace hf := (if_neg c3).symm.trans hf
        obtain ⟨q4, e4, hf⟩ := obind hf
        refine ok_callA (L := [some (.inr (.inr (.inl 1))), some (.inl v1), some (.inl v2)]) (M := mm V h) (args := [.inr (.inr (.inl 1)), .inl v2]) (rest := []) (y2 := 125) rfl rfl rfl (Or.inl rfl) rfl rfl (Nat.le_of_ble_eq_true rfl) rfl rfl (Nat.le_of_ble_eq_true rfl) (Nat.le_of_ble_eq_true rfl) (s_Br_tryPace hh e4) ?_
        rintro _ _ ⟨rfl, hh, rfl, hz4⟩
        refine ok_if_eq (x := q4.2) (L := [some (.inr (.inr (.inl 1))), some (.inl v1), some (.inl v2)]) (S := []) (M := mm q4.1.1 (q4.1.2)) rfl rfl (fun c5 => ?_) (fun c5 => ?_)
        ·
          replace hf := (if_pos c5).symm.trans hf
          exact s_Br_pace_13 hh hf ih
        ·
          replace hf := (if_neg c5).symm.trans hf
          refine ok_ic_eq (x := v1) (u := (-1)) (L := [some (.inr (.inr (.inl 1))), some (.inl v1), some (.inl v2)]) (S := []) (M := mm q4.1.1 (q4.1.2)) rfl rfl (fun c6 => ?_) (fun c6 => ?_)
          ·
            replace hf := (if_pos c6).symm.trans hf
            exact s_Br_pace_11 hh hf ih
          ·
            replace hf := (if_neg c6).symm.trans hf
            obtain ⟨q7, e7, hf⟩ := obind hf
            refine ok_callA (L := [some (.inr (.inr (.inl 1))), some (.inl v1), some (.inl v2)]) (M := mm q4.1.1 (q4.1.2)) (args := [.inr (.inr (.inl 1))]) (rest := []) (y2 := 126) rfl rfl rfl (Or.inl rfl) rfl rfl (Nat.le_of_ble_eq_true rfl) rfl rfl (Nat.le_of_ble_eq_true rfl) (Nat.le_of_ble_eq_true rfl) (s_Br_isTrialBetter e7) ?_
            rintro _ _ ⟨rfl, rfl, hz7⟩
            refine ok_if_eq (x := q7) (L := [some (.inr (.inr (.inl 1))), some (.inl v1), some (.inl v2)]) (S := []) (M := mm q4.1.1 (q4.1.2)) rfl rfl (fun c8 => ?_) (fun c8 => ?_)
            ·
              replace hf := (if_pos c8).symm.trans hf
              exact s_Br_pace_13 hh hf ih
            ·
              replace hf := (if_neg c8).symm.trans hf
              exact s_Br_pace_11 hh hf ih
theorem s_Br_pace_3 {X : Xs} {d : Nat} {V : VV} {h : HP} {v1 : Int} {v2 : Int} {n : Nat} {q : (VV × HP) × Int} (hh : HOK h) (hf : f_Br_pace_3 n V h v1 v2 = some q) : Ok X (d + 9) 124 3 ([some (.inr (.inr (.inl 1))), some (.inl v1), some (.inl v2)], [], mm V h) (fun M r => M = mm q.1.1 q.1.2 ∧ HOK q.1.2 ∧ r = some (.inl q.2)) :=
  s_Br_pace_3_n n V h v1 v2 hh hf
def f_Br_pace (V : VV) (h : HP)  : Option ((VV × HP) × Int) := if (V 0 15) = (-2) then f_Br_pace_3 FU V h (-1) 1 else some ((V, h), V 0 15)
set_option maxRecDepth 20000 in
set_option maxHeartbeats 4000000 in
theorem s_Br_pace {X : Xs} {d : Nat} {V : VV} {h : HP} {q : (VV × HP) × Int} (hh : HOK h) (hf : f_Br_pace V h = some q) : Ok X (d + 9) 124 0 ([some (.inr (.inr (.inl 1))), none, none], [], mm V h) (fun M r => M = mm q.1.1 q.1.2 ∧ HOK q.1.2 ∧ r = some (.inl q.2)) := by
  let QQ : Mm → Option AV → Prop := fun M r => M = mm q.1.1 q.1.2 ∧ HOK q.1.2 ∧ r = some (.inl q.2)
  show Ok X (d + 9) 124 0 ([some (.inr (.inr (.inl 1))), none, none], [], mm V h) QQ
  refine ok_ic_eq (x := V 0 15) (u := (-2)) (L := [some (.inr (.inr (.inl 1))), none, none]) (S := []) (M := mm V h) rfl rfl (fun c1 => ?_) (fun c1 => ?_)
  ·
    replace hf := (if_pos c1).symm.trans hf
    refine ok_thru (L := [some (.inr (.inr (.inl 1))), some (.inl (-1)), some (.inl 1)]) (S := []) (M := mm V h) rfl rfl ?_
    exact s_Br_pace_3 hh hf
  ·
    replace hf := (if_neg c1).symm.trans hf
    obtain rfl := Option.some.inj hf
    refine ok_ireturn (L := [some (.inr (.inr (.inl 1))), none, none]) (M := mm V h) (x := V 0 15) rfl rfl ?_
    exact ⟨rfl, hh, rfl⟩
