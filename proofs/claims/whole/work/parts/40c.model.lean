/-! shallow functions of the model (printed by wip/tools/gen40.py) -/
def f_Mo_add (V : VV) (v0 : Int) (v2 : Int) (v3 : Int) : Int := lorI (lshlI (lorI (lshlI v0 8) v2) 8) v3
set_option maxRecDepth 20000 in
set_option maxHeartbeats 4000000 in
theorem s_Mo_add {X : Xs} {d : Nat} {V : VV} {h : HP} {v0 : Int} {v2 : Int} {v3 : Int} {q : Int} (hf : f_Mo_add V v0 v2 v3 = q) : Ok X (d + 1) 180 0 ([some (.inr (.inl v0)), none, some (.inl v2), some (.inl v3)], [], mm V h) (fun M r => M = mm V h ∧ r = some (.inr (.inl q))) := by
  let QQ : Mm → Option AV → Prop := fun M r => M = mm V h ∧ r = some (.inr (.inl q))
  show Ok X (d + 1) 180 0 ([some (.inr (.inl v0)), none, some (.inl v2), some (.inl v3)], [], mm V h) QQ
  have hq : (lorI (lshlI (lorI (lshlI v0 8) v2) 8) v3) = q := hf
  subst hq
  refine ok_lreturn (L := [some (.inr (.inl v0)), none, some (.inl v2), some (.inl v3)]) (M := mm V h) (x := lorI (lshlI (lorI (lshlI v0 8) v2) 8) v3) rfl rfl ?_
  exact ⟨rfl, rfl⟩
def f_Mo_wordOf (V : VV)  : Int := if (V 62 45) = 2 then if (lcmpI (V 62 47) (f_Mo_add V (f_Mo_add V 119 111 114) 108 100)) = 0 then 1 else if (lcmpI (V 62 47) (f_Mo_add V (f_Mo_add V 0 104 97) 117 108)) = 0 then 2 else if (lcmpI (V 62 47) (f_Mo_add V (f_Mo_add V 0 115 104) 117 116)) = 0 then 3 else if (lcmpI (V 62 47) (f_Mo_add V (f_Mo_add V 0 111 112) 101 110)) = 0 then 4 else if (lcmpI (V 62 47) (f_Mo_add V (f_Mo_add V 0 114 97) 105 110)) = 0 then 5 else if (lcmpI (V 62 47) (f_Mo_add V (f_Mo_add V 0 102 114) 111 109)) = 0 then 6 else (if (lcmpI (V 62 47) (f_Mo_add V 0 116 111)) = 0 then 7 else 0 : Int) else 0
set_option maxRecDepth 20000 in
set_option maxHeartbeats 4000000 in
theorem s_Mo_wordOf {X : Xs} {d : Nat} {V : VV} {h : HP} {q : Int} (hf : f_Mo_wordOf V = q) : Ok X (d + 2) 179 0 ([some (.inr (.inr (.inl 63)))], [], mm V h) (fun M r => M = mm V h ∧ r = some (.inl q)) := by
  let QQ : Mm → Option AV → Prop := fun M r => M = mm V h ∧ r = some (.inl q)
  show Ok X (d + 2) 179 0 ([some (.inr (.inr (.inl 63)))], [], mm V h) QQ
  refine ok_ic_eq (x := V 62 45) (u := 2) (L := [some (.inr (.inr (.inl 63)))]) (S := []) (M := mm V h) rfl rfl (fun c1 => ?_) (fun c1 => ?_)
  ·
    replace hf := (if_pos c1).symm.trans hf
    refine ok_callA (L := [some (.inr (.inr (.inl 63)))]) (M := mm V h) (args := [.inr (.inl 119), .inl 111, .inl 114]) (rest := [.inr (.inl (V 62 47))]) (y2 := 180) rfl rfl rfl (Or.inr (Or.inl rfl)) rfl rfl (Nat.le_of_ble_eq_true rfl) rfl rfl (Nat.le_of_ble_eq_true rfl) (Nat.le_of_ble_eq_true rfl) (s_Mo_add rfl) ?_
    rintro _ _ ⟨rfl, rfl⟩
    refine ok_callA (L := [some (.inr (.inr (.inl 63)))]) (M := mm V h) (args := [.inr (.inl (f_Mo_add V 119 111 114)), .inl 108, .inl 100]) (rest := [.inr (.inl (V 62 47))]) (y2 := 180) rfl rfl rfl (Or.inr (Or.inl rfl)) rfl rfl (Nat.le_of_ble_eq_true rfl) rfl rfl (Nat.le_of_ble_eq_true rfl) (Nat.le_of_ble_eq_true rfl) (s_Mo_add rfl) ?_
    rintro _ _ ⟨rfl, rfl⟩
    refine ok_if_ne (x := lcmpI (V 62 47) (f_Mo_add V (f_Mo_add V 119 111 114) 108 100)) (L := [some (.inr (.inr (.inl 63)))]) (S := []) (M := mm V h) rfl rfl (fun c4 => ?_) (fun c4 => ?_)
    ·
      replace hf := (if_neg c4).symm.trans hf
      refine ok_callA (L := [some (.inr (.inr (.inl 63)))]) (M := mm V h) (args := [.inr (.inl 0), .inl 104, .inl 97]) (rest := [.inr (.inl (V 62 47))]) (y2 := 180) rfl rfl rfl (Or.inr (Or.inl rfl)) rfl rfl (Nat.le_of_ble_eq_true rfl) rfl rfl (Nat.le_of_ble_eq_true rfl) (Nat.le_of_ble_eq_true rfl) (s_Mo_add rfl) ?_
      rintro _ _ ⟨rfl, rfl⟩
      refine ok_callA (L := [some (.inr (.inr (.inl 63)))]) (M := mm V h) (args := [.inr (.inl (f_Mo_add V 0 104 97)), .inl 117, .inl 108]) (rest := [.inr (.inl (V 62 47))]) (y2 := 180) rfl rfl rfl (Or.inr (Or.inl rfl)) rfl rfl (Nat.le_of_ble_eq_true rfl) rfl rfl (Nat.le_of_ble_eq_true rfl) (Nat.le_of_ble_eq_true rfl) (s_Mo_add rfl) ?_
      rintro _ _ ⟨rfl, rfl⟩
      refine ok_if_ne (x := lcmpI (V 62 47) (f_Mo_add V (f_Mo_add V 0 104 97) 117 108)) (L := [some (.inr (.inr (.inl 63)))]) (S := []) (M := mm V h) rfl rfl (fun c7 => ?_) (fun c7 => ?_)
      ·
        replace hf := (if_neg c7).symm.trans hf
        refine ok_callA (L := [some (.inr (.inr (.inl 63)))]) (M := mm V h) (args := [.inr (.inl 0), .inl 115, .inl 104]) (rest := [.inr (.inl (V 62 47))]) (y2 := 180) rfl rfl rfl (Or.inr (Or.inl rfl)) rfl rfl (Nat.le_of_ble_eq_true rfl) rfl rfl (Nat.le_of_ble_eq_true rfl) (Nat.le_of_ble_eq_true rfl) (s_Mo_add rfl) ?_
        rintro _ _ ⟨rfl, rfl⟩
        refine ok_callA (L := [some (.inr (.inr (.inl 63)))]) (M := mm V h) (args := [.inr (.inl (f_Mo_add V 0 115 104)), .inl 117, .inl 116]) (rest := [.inr (.inl (V 62 47))]) (y2 := 180) rfl rfl rfl (Or.inr (Or.inl rfl)) rfl rfl (Nat.le_of_ble_eq_true rfl) rfl rfl (Nat.le_of_ble_eq_true rfl) (Nat.le_of_ble_eq_true rfl) (s_Mo_add rfl) ?_
        rintro _ _ ⟨rfl, rfl⟩
        refine ok_if_ne (x := lcmpI (V 62 47) (f_Mo_add V (f_Mo_add V 0 115 104) 117 116)) (L := [some (.inr (.inr (.inl 63)))]) (S := []) (M := mm V h) rfl rfl (fun c10 => ?_) (fun c10 => ?_)
        ·
          replace hf := (if_neg c10).symm.trans hf
          refine ok_callA (L := [some (.inr (.inr (.inl 63)))]) (M := mm V h) (args := [.inr (.inl 0), .inl 111, .inl 112]) (rest := [.inr (.inl (V 62 47))]) (y2 := 180) rfl rfl rfl (Or.inr (Or.inl rfl)) rfl rfl (Nat.le_of_ble_eq_true rfl) rfl rfl (Nat.le_of_ble_eq_true rfl) (Nat.le_of_ble_eq_true rfl) (s_Mo_add rfl) ?_
          rintro _ _ ⟨rfl, rfl⟩
          refine ok_callA (L := [some (.inr (.inr (.inl 63)))]) (M := mm V h) (args := [.inr (.inl (f_Mo_add V 0 111 112)), .inl 101, .inl 110]) (rest := [.inr (.inl (V 62 47))]) (y2 := 180) rfl rfl rfl (Or.inr (Or.inl rfl)) rfl rfl (Nat.le_of_ble_eq_true rfl) rfl rfl (Nat.le_of_ble_eq_true rfl) (Nat.le_of_ble_eq_true rfl) (s_Mo_add rfl) ?_
          rintro _ _ ⟨rfl, rfl⟩
          refine ok_if_ne (x := lcmpI (V 62 47) (f_Mo_add V (f_Mo_add V 0 111 112) 101 110)) (L := [some (.inr (.inr (.inl 63)))]) (S := []) (M := mm V h) rfl rfl (fun c13 => ?_) (fun c13 => ?_)
          ·
            replace hf := (if_neg c13).symm.trans hf
            refine ok_callA (L := [some (.inr (.inr (.inl 63)))]) (M := mm V h) (args := [.inr (.inl 0), .inl 114, .inl 97]) (rest := [.inr (.inl (V 62 47))]) (y2 := 180) rfl rfl rfl (Or.inr (Or.inl rfl)) rfl rfl (Nat.le_of_ble_eq_true rfl) rfl rfl (Nat.le_of_ble_eq_true rfl) (Nat.le_of_ble_eq_true rfl) (s_Mo_add rfl) ?_
            rintro _ _ ⟨rfl, rfl⟩
            refine ok_callA (L := [some (.inr (.inr (.inl 63)))]) (M := mm V h) (args := [.inr (.inl (f_Mo_add V 0 114 97)), .inl 105, .inl 110]) (rest := [.inr (.inl (V 62 47))]) (y2 := 180) rfl rfl rfl (Or.inr (Or.inl rfl)) rfl rfl (Nat.le_of_ble_eq_true rfl) rfl rfl (Nat.le_of_ble_eq_true rfl) (Nat.le_of_ble_eq_true rfl) (s_Mo_add rfl) ?_
            rintro _ _ ⟨rfl, rfl⟩
            refine ok_if_ne (x := lcmpI (V 62 47) (f_Mo_add V (f_Mo_add V 0 114 97) 105 110)) (L := [some (.inr (.inr (.inl 63)))]) (S := []) (M := mm V h) rfl rfl (fun c16 => ?_) (fun c16 => ?_)
            ·
              replace hf := (if_neg c16).symm.trans hf
              refine ok_callA (L := [some (.inr (.inr (.inl 63)))]) (M := mm V h) (args := [.inr (.inl 0), .inl 102, .inl 114]) (rest := [.inr (.inl (V 62 47))]) (y2 := 180) rfl rfl rfl (Or.inr (Or.inl rfl)) rfl rfl (Nat.le_of_ble_eq_true rfl) rfl rfl (Nat.le_of_ble_eq_true rfl) (Nat.le_of_ble_eq_true rfl) (s_Mo_add rfl) ?_
              rintro _ _ ⟨rfl, rfl⟩
              refine ok_callA (L := [some (.inr (.inr (.inl 63)))]) (M := mm V h) (args := [.inr (.inl (f_Mo_add V 0 102 114)), .inl 111, .inl 109]) (rest := [.inr (.inl (V 62 47))]) (y2 := 180) rfl rfl rfl (Or.inr (Or.inl rfl)) rfl rfl (Nat.le_of_ble_eq_true rfl) rfl rfl (Nat.le_of_ble_eq_true rfl) (Nat.le_of_ble_eq_true rfl) (s_Mo_add rfl) ?_
              rintro _ _ ⟨rfl, rfl⟩
              refine ok_if_ne (x := lcmpI (V 62 47) (f_Mo_add V (f_Mo_add V 0 102 114) 111 109)) (L := [some (.inr (.inr (.inl 63)))]) (S := []) (M := mm V h) rfl rfl (fun c19 => ?_) (fun c19 => ?_)
              ·
                replace hf := (if_neg c19).symm.trans hf
                refine ok_callA (L := [some (.inr (.inr (.inl 63)))]) (M := mm V h) (args := [.inr (.inl 0), .inl 116, .inl 111]) (rest := [.inr (.inl (V 62 47))]) (y2 := 180) rfl rfl rfl (Or.inr (Or.inl rfl)) rfl rfl (Nat.le_of_ble_eq_true rfl) rfl rfl (Nat.le_of_ble_eq_true rfl) (Nat.le_of_ble_eq_true rfl) (s_Mo_add rfl) ?_
                rintro _ _ ⟨rfl, rfl⟩
                have JN21 : Ok X (d + 2) 179 30 ([some (.inr (.inr (.inl 63)))], [.inl (if (lcmpI (V 62 47) (f_Mo_add V 0 116 111)) = 0 then 7 else 0 : Int)], mm V h) QQ := by
                  have hq : ((if (lcmpI (V 62 47) (f_Mo_add V 0 116 111)) = 0 then 7 else 0 : Int)) = q := hf
                  subst hq
                  refine ok_ireturn (L := [some (.inr (.inr (.inl 63)))]) (M := mm V h) (x := (if (lcmpI (V 62 47) (f_Mo_add V 0 116 111)) = 0 then 7 else 0 : Int)) rfl rfl ?_
                  exact ⟨rfl, rfl⟩
                clear hf
                refine ok_if_ne (x := lcmpI (V 62 47) (f_Mo_add V 0 116 111)) (L := [some (.inr (.inr (.inl 63)))]) (S := []) (M := mm V h) rfl rfl (fun c22 => ?_) (fun c22 => ?_)
                ·
                  simp only [if_neg c22] at JN21
                  refine ok_thru (L := [some (.inr (.inr (.inl 63)))]) (S := [.inl 0]) (M := mm V h) rfl rfl ?_
                  first | exact JN21 | (simp only [if_neg c22]; exact JN21)
                ·
                  simp only [if_pos c22] at JN21
                  refine ok_goto (L := [some (.inr (.inr (.inl 63)))]) (S := [.inl 7]) (M := mm V h) rfl rfl ?_
                  first | exact JN21 | (simp only [if_pos c22]; exact JN21)
              ·
                replace hf := (if_pos c19).symm.trans hf
                have hq : (6) = q := hf
                subst hq
                refine ok_ireturn (L := [some (.inr (.inr (.inl 63)))]) (M := mm V h) (x := 6) rfl rfl ?_
                exact ⟨rfl, rfl⟩
            ·
              replace hf := (if_pos c16).symm.trans hf
              have hq : (5) = q := hf
              subst hq
              refine ok_ireturn (L := [some (.inr (.inr (.inl 63)))]) (M := mm V h) (x := 5) rfl rfl ?_
              exact ⟨rfl, rfl⟩
          ·
            replace hf := (if_pos c13).symm.trans hf
            have hq : (4) = q := hf
            subst hq
            refine ok_ireturn (L := [some (.inr (.inr (.inl 63)))]) (M := mm V h) (x := 4) rfl rfl ?_
            exact ⟨rfl, rfl⟩
        ·
          replace hf := (if_pos c10).symm.trans hf
          have hq : (3) = q := hf
          subst hq
          refine ok_ireturn (L := [some (.inr (.inr (.inl 63)))]) (M := mm V h) (x := 3) rfl rfl ?_
          exact ⟨rfl, rfl⟩
      ·
        replace hf := (if_pos c7).symm.trans hf
        have hq : (2) = q := hf
        subst hq
        refine ok_ireturn (L := [some (.inr (.inr (.inl 63)))]) (M := mm V h) (x := 2) rfl rfl ?_
        exact ⟨rfl, rfl⟩
    ·
      replace hf := (if_pos c4).symm.trans hf
      have hq : (1) = q := hf
      subst hq
      refine ok_ireturn (L := [some (.inr (.inr (.inl 63)))]) (M := mm V h) (x := 1) rfl rfl ?_
      exact ⟨rfl, rfl⟩
  ·
    replace hf := (if_neg c1).symm.trans hf
    have hq : (0) = q := hf
    subst hq
    refine ok_ireturn (L := [some (.inr (.inr (.inl 63)))]) (M := mm V h) (x := 0) rfl rfl ?_
    exact ⟨rfl, rfl⟩
def f_Mo_take (V : VV) (v1 : Int) (v2 : Int) : Option (VV × Int) := if (V 62 45) = 1 then if (f_Mo_isIn V (V 62 46) v1 v2) = 0 then some (V, 2) else Option.bind (f_Mo_nextToken (up V 62 57 (V 62 46))) (fun q4 => some (q4, 0)) else some (V, 1)
set_option maxRecDepth 20000 in
set_option maxHeartbeats 4000000 in
theorem s_Mo_take {X : Xs} {d : Nat} {V : VV} {h : HP} {v1 : Int} {v2 : Int} {q : VV × Int} (hf : f_Mo_take V v1 v2 = some q) : Ok X (d + 4) 182 0 ([some (.inr (.inr (.inl 63))), some (.inl v1), some (.inl v2)], [], mm V h) (fun M r => M = mm q.1 h ∧ r = some (.inl q.2)) := by
  let QQ : Mm → Option AV → Prop := fun M r => M = mm q.1 h ∧ r = some (.inl q.2)
  show Ok X (d + 4) 182 0 ([some (.inr (.inr (.inl 63))), some (.inl v1), some (.inl v2)], [], mm V h) QQ
  refine ok_ic_eq (x := V 62 45) (u := 1) (L := [some (.inr (.inr (.inl 63))), some (.inl v1), some (.inl v2)]) (S := []) (M := mm V h) rfl rfl (fun c1 => ?_) (fun c1 => ?_)
  ·
    replace hf := (if_pos c1).symm.trans hf
    refine ok_callA (L := [some (.inr (.inr (.inl 63))), some (.inl v1), some (.inl v2)]) (M := mm V h) (args := [.inl (V 62 46), .inl v1, .inl v2]) (rest := []) (y2 := 152) rfl rfl rfl (Or.inr (Or.inl rfl)) rfl rfl (Nat.le_of_ble_eq_true rfl) rfl rfl (Nat.le_of_ble_eq_true rfl) (Nat.le_of_ble_eq_true rfl) (s_Mo_isIn rfl) ?_
    rintro _ _ ⟨rfl, rfl, hz2⟩
    refine ok_if_ne (x := f_Mo_isIn V (V 62 46) v1 v2) (L := [some (.inr (.inr (.inl 63))), some (.inl v1), some (.inl v2)]) (S := []) (M := mm V h) rfl rfl (fun c3 => ?_) (fun c3 => ?_)
    ·
      replace hf := (if_neg c3).symm.trans hf
      obtain ⟨q4, e4, hf⟩ := obind hf
      refine ok_callA (L := [some (.inr (.inr (.inl 63))), some (.inl v1), some (.inl v2)]) (M := mm (up V 62 57 (V 62 46)) h) (args := [.inr (.inr (.inl 63))]) (rest := []) (y2 := 174) rfl rfl rfl (Or.inl rfl) rfl rfl (Nat.le_of_ble_eq_true rfl) rfl rfl (Nat.le_of_ble_eq_true rfl) (Nat.le_of_ble_eq_true rfl) (s_Mo_nextToken e4) ?_
      rintro _ _ ⟨rfl, rfl⟩
      obtain rfl := Option.some.inj hf
      refine ok_ireturn (L := [some (.inr (.inr (.inl 63))), some (.inl v1), some (.inl v2)]) (M := mm q4 h) (x := 0) rfl rfl ?_
      exact ⟨rfl, rfl⟩
    ·
      replace hf := (if_pos c3).symm.trans hf
      obtain rfl := Option.some.inj hf
      refine ok_ireturn (L := [some (.inr (.inr (.inl 63))), some (.inl v1), some (.inl v2)]) (M := mm V h) (x := 2) rfl rfl ?_
      exact ⟨rfl, rfl⟩
  ·
    replace hf := (if_neg c1).symm.trans hf
    obtain rfl := Option.some.inj hf
    refine ok_ireturn (L := [some (.inr (.inr (.inl 63))), some (.inl v1), some (.inl v2)]) (M := mm V h) (x := 1) rfl rfl ?_
    exact ⟨rfl, rfl⟩
def f_Mo_need (V : VV) (v1 : Int) : Option (VV × Int) := if (f_Mo_wordOf V) = v1 then Option.bind (f_Mo_nextToken V) (fun q3 => some (q3, 0)) else some (V, 1)
set_option maxRecDepth 20000 in
set_option maxHeartbeats 4000000 in
theorem s_Mo_need {X : Xs} {d : Nat} {V : VV} {h : HP} {v1 : Int} {q : VV × Int} (hf : f_Mo_need V v1 = some q) : Ok X (d + 4) 183 0 ([some (.inr (.inr (.inl 63))), some (.inl v1)], [], mm V h) (fun M r => M = mm q.1 h ∧ r = some (.inl q.2)) := by
  let QQ : Mm → Option AV → Prop := fun M r => M = mm q.1 h ∧ r = some (.inl q.2)
  show Ok X (d + 4) 183 0 ([some (.inr (.inr (.inl 63))), some (.inl v1)], [], mm V h) QQ
  refine ok_callA (L := [some (.inr (.inr (.inl 63))), some (.inl v1)]) (M := mm V h) (args := [.inr (.inr (.inl 63))]) (rest := []) (y2 := 179) rfl rfl rfl (Or.inl rfl) rfl rfl (Nat.le_of_ble_eq_true rfl) rfl rfl (Nat.le_of_ble_eq_true rfl) (Nat.le_of_ble_eq_true rfl) (s_Mo_wordOf rfl) ?_
  rintro _ _ ⟨rfl, rfl⟩
  refine ok_ic_eq (x := f_Mo_wordOf V) (u := v1) (L := [some (.inr (.inr (.inl 63))), some (.inl v1)]) (S := []) (M := mm V h) rfl rfl (fun c2 => ?_) (fun c2 => ?_)
  ·
    replace hf := (if_pos c2).symm.trans hf
    obtain ⟨q3, e3, hf⟩ := obind hf
    refine ok_callA (L := [some (.inr (.inr (.inl 63))), some (.inl v1)]) (M := mm V h) (args := [.inr (.inr (.inl 63))]) (rest := []) (y2 := 174) rfl rfl rfl (Or.inl rfl) rfl rfl (Nat.le_of_ble_eq_true rfl) rfl rfl (Nat.le_of_ble_eq_true rfl) (Nat.le_of_ble_eq_true rfl) (s_Mo_nextToken e3) ?_
    rintro _ _ ⟨rfl, rfl⟩
    obtain rfl := Option.some.inj hf
    refine ok_ireturn (L := [some (.inr (.inr (.inl 63))), some (.inl v1)]) (M := mm q3 h) (x := 0) rfl rfl ?_
    exact ⟨rfl, rfl⟩
  ·
    replace hf := (if_neg c2).symm.trans hf
    obtain rfl := Option.some.inj hf
    refine ok_ireturn (L := [some (.inr (.inr (.inl 63))), some (.inl v1)]) (M := mm V h) (x := 1) rfl rfl ?_
    exact ⟨rfl, rfl⟩
def f_Mo_inClause_23 (V : VV) (v2 : Int) (v3 : Int) : Option (VV × Int) := if 0 ≤ v2 ∧ v2 < (80 : Int) then some (up V 85 v2.toNat (V 62 57), v3) else none
set_option maxRecDepth 20000 in
set_option maxHeartbeats 4000000 in
theorem s_Mo_inClause_23 {X : Xs} {d : Nat} {V : VV} {h : HP} {v2 : Int} {v3 : Int} {w1 : Int} {q : VV × Int} (hf : f_Mo_inClause_23 V v2 v3 = some q) : Ok X (d + 5) 181 23 ([some (.inr (.inr (.inl 63))), some (.inl w1), some (.inl v2), some (.inl v3)], [], mm V h) (fun M r => M = mm q.1 h ∧ r = some (.inl q.2)) := by
  let QQ : Mm → Option AV → Prop := fun M r => M = mm q.1 h ∧ r = some (.inl q.2)
  show Ok X (d + 5) 181 23 ([some (.inr (.inr (.inl 63))), some (.inl w1), some (.inl v2), some (.inl v3)], [], mm V h) QQ
  by_cases c1 : 0 ≤ v2 ∧ v2 < (80 : Int)
  case neg => replace hf := (if_neg c1).symm.trans hf; cases hf
  replace hf := (if_pos c1).symm.trans hf
  refine ok_iast (i := v2) (v := V 62 57) (id := 85) (n := 80) (L := [some (.inr (.inr (.inl 63))), some (.inl w1), some (.inl v2), some (.inl v3)]) (S := []) (M := mm V h) rfl rfl rfl c1.1 c1.2 ?_
  obtain rfl := Option.some.inj hf
  refine ok_ireturn (L := [some (.inr (.inr (.inl 63))), some (.inl w1), some (.inl v2), some (.inl v3)]) (M := mm (up V 85 v2.toNat (V 62 57)) h) (x := v3) rfl rfl ?_
  exact ⟨rfl, rfl⟩
def f_Mo_inClause_21 (V : VV) (v2 : Int) (t1 : Int) : Option (VV × Int) := Option.bind (f_Mo_take V t1 4319) (fun q1 => f_Mo_inClause_23 q1.1 v2 q1.2)
set_option maxRecDepth 20000 in
set_option maxHeartbeats 4000000 in
theorem s_Mo_inClause_21 {X : Xs} {d : Nat} {V : VV} {h : HP} {v2 : Int} {t1 : Int} {w1 : Int} {w3 : Int} {q : VV × Int} (hf : f_Mo_inClause_21 V v2 t1 = some q) : Ok X (d + 5) 181 21 ([some (.inr (.inr (.inl 63))), some (.inl w1), some (.inl v2), some (.inl w3)], [.inl t1, .inr (.inr (.inl 63))], mm V h) (fun M r => M = mm q.1 h ∧ r = some (.inl q.2)) := by
  let QQ : Mm → Option AV → Prop := fun M r => M = mm q.1 h ∧ r = some (.inl q.2)
  show Ok X (d + 5) 181 21 ([some (.inr (.inr (.inl 63))), some (.inl w1), some (.inl v2), some (.inl w3)], [.inl t1, .inr (.inr (.inl 63))], mm V h) QQ
  obtain ⟨q1, e1, hf⟩ := obind hf
  refine ok_callA (L := [some (.inr (.inr (.inl 63))), some (.inl w1), some (.inl v2), some (.inl w3)]) (M := mm V h) (args := [.inr (.inr (.inl 63)), .inl t1, .inl 4319]) (rest := []) (y2 := 182) rfl rfl rfl (Or.inl rfl) rfl rfl (Nat.le_of_ble_eq_true rfl) rfl rfl (Nat.le_of_ble_eq_true rfl) (Nat.le_of_ble_eq_true rfl) (s_Mo_take e1) ?_
  rintro _ _ ⟨rfl, rfl⟩
  refine ok_thru (L := [some (.inr (.inr (.inl 63))), some (.inl w1), some (.inl v2), some (.inl q1.2)]) (S := []) (M := mm q1.1 h) rfl rfl ?_
  exact s_Mo_inClause_23 hf
def f_Mo_inClause_17 (V : VV) (v1 : Int) (v2 : Int) (v3 : Int) : Option (VV × Int) := if v3 = 0 then if v1 = 2 then f_Mo_inClause_21 V v2 0 else if 0 ≤ v2 ∧ v2 < (80 : Int) then f_Mo_inClause_21 V v2 (V 84 v2.toNat) else none else f_Mo_inClause_23 V v2 v3
set_option maxRecDepth 20000 in
set_option maxHeartbeats 4000000 in
theorem s_Mo_inClause_17 {X : Xs} {d : Nat} {V : VV} {h : HP} {v1 : Int} {v2 : Int} {v3 : Int} {q : VV × Int} (hf : f_Mo_inClause_17 V v1 v2 v3 = some q) : Ok X (d + 5) 181 17 ([some (.inr (.inr (.inl 63))), some (.inl v1), some (.inl v2), some (.inl v3)], [], mm V h) (fun M r => M = mm q.1 h ∧ r = some (.inl q.2)) := by
  let QQ : Mm → Option AV → Prop := fun M r => M = mm q.1 h ∧ r = some (.inl q.2)
  show Ok X (d + 5) 181 17 ([some (.inr (.inr (.inl 63))), some (.inl v1), some (.inl v2), some (.inl v3)], [], mm V h) QQ
  refine ok_if_ne (x := v3) (L := [some (.inr (.inr (.inl 63))), some (.inl v1), some (.inl v2), some (.inl v3)]) (S := []) (M := mm V h) rfl rfl (fun c1 => ?_) (fun c1 => ?_)
  ·
    replace hf := (if_neg c1).symm.trans hf
    exact s_Mo_inClause_23 hf
  ·
    replace hf := (if_pos c1).symm.trans hf
    refine ok_ic_ne (x := v1) (u := 2) (L := [some (.inr (.inr (.inl 63))), some (.inl v1), some (.inl v2), some (.inl v3)]) (S := [.inr (.inr (.inl 63))]) (M := mm V h) rfl rfl (fun c2 => ?_) (fun c2 => ?_)
    ·
      replace hf := (if_neg c2).symm.trans hf
      by_cases c3 : 0 ≤ v2 ∧ v2 < (80 : Int)
      case neg => replace hf := (if_neg c3).symm.trans hf; cases hf
      replace hf := (if_pos c3).symm.trans hf
      refine ok_iald (i := v2) (id := 84) (n := 80) (L := [some (.inr (.inr (.inl 63))), some (.inl v1), some (.inl v2), some (.inl v3)]) (S := [.inr (.inr (.inl 63))]) (M := mm V h) rfl rfl rfl c3.1 c3.2 ?_
      exact s_Mo_inClause_21 hf
    ·
      replace hf := (if_pos c2).symm.trans hf
      refine ok_goto (L := [some (.inr (.inr (.inl 63))), some (.inl v1), some (.inl v2), some (.inl v3)]) (S := [.inl 0, .inr (.inr (.inl 63))]) (M := mm V h) rfl rfl ?_
      exact s_Mo_inClause_21 hf
def f_Mo_inClause_10 (V : VV) (v1 : Int) (v2 : Int) (t0 : Int) : Option (VV × Int) := if 0 ≤ v2 ∧ v2 < (80 : Int) then if t0 = 0 then Option.bind (f_Mo_need (up V 84 v2.toNat (V 62 57)) (if v1 = 2 then 6 else 7 : Int)) (fun q4 => f_Mo_inClause_17 q4.1 v1 v2 q4.2) else f_Mo_inClause_17 (up V 84 v2.toNat (V 62 57)) v1 v2 t0 else none
set_option maxRecDepth 20000 in
set_option maxHeartbeats 4000000 in
theorem s_Mo_inClause_10 {X : Xs} {d : Nat} {V : VV} {h : HP} {v1 : Int} {v2 : Int} {t0 : Int} {w3 : Int} {q : VV × Int} (hf : f_Mo_inClause_10 V v1 v2 t0 = some q) : Ok X (d + 5) 181 10 ([some (.inr (.inr (.inl 63))), some (.inl v1), some (.inl v2), some (.inl w3)], [.inl t0], mm V h) (fun M r => M = mm q.1 h ∧ r = some (.inl q.2)) := by
  let QQ : Mm → Option AV → Prop := fun M r => M = mm q.1 h ∧ r = some (.inl q.2)
  show Ok X (d + 5) 181 10 ([some (.inr (.inr (.inl 63))), some (.inl v1), some (.inl v2), some (.inl w3)], [.inl t0], mm V h) QQ
  by_cases c1 : 0 ≤ v2 ∧ v2 < (80 : Int)
  case neg => replace hf := (if_neg c1).symm.trans hf; cases hf
  replace hf := (if_pos c1).symm.trans hf
  refine ok_iast (i := v2) (v := V 62 57) (id := 84) (n := 80) (L := [some (.inr (.inr (.inl 63))), some (.inl v1), some (.inl v2), some (.inl t0)]) (S := []) (M := mm V h) rfl rfl rfl c1.1 c1.2 ?_
  refine ok_if_ne (x := t0) (L := [some (.inr (.inr (.inl 63))), some (.inl v1), some (.inl v2), some (.inl t0)]) (S := []) (M := mm (up V 84 v2.toNat (V 62 57)) h) rfl rfl (fun c2 => ?_) (fun c2 => ?_)
  ·
    replace hf := (if_neg c2).symm.trans hf
    exact s_Mo_inClause_17 hf
  ·
    replace hf := (if_pos c2).symm.trans hf
    have JN3 : Ok X (d + 5) 181 15 ([some (.inr (.inr (.inl 63))), some (.inl v1), some (.inl v2), some (.inl t0)], [.inl (if v1 = 2 then 6 else 7 : Int), .inr (.inr (.inl 63))], mm (up V 84 v2.toNat (V 62 57)) h) QQ := by
      obtain ⟨q4, e4, hf⟩ := obind hf
      refine ok_callA (L := [some (.inr (.inr (.inl 63))), some (.inl v1), some (.inl v2), some (.inl t0)]) (M := mm (up V 84 v2.toNat (V 62 57)) h) (args := [.inr (.inr (.inl 63)), .inl (if v1 = 2 then 6 else 7 : Int)]) (rest := []) (y2 := 183) rfl rfl rfl (Or.inl rfl) rfl rfl (Nat.le_of_ble_eq_true rfl) rfl rfl (Nat.le_of_ble_eq_true rfl) (Nat.le_of_ble_eq_true rfl) (s_Mo_need e4) ?_
      rintro _ _ ⟨rfl, rfl⟩
      refine ok_thru (L := [some (.inr (.inr (.inl 63))), some (.inl v1), some (.inl v2), some (.inl q4.2)]) (S := []) (M := mm q4.1 h) rfl rfl ?_
      exact s_Mo_inClause_17 hf
    clear hf
    refine ok_ic_ne (x := v1) (u := 2) (L := [some (.inr (.inr (.inl 63))), some (.inl v1), some (.inl v2), some (.inl t0)]) (S := [.inr (.inr (.inl 63))]) (M := mm (up V 84 v2.toNat (V 62 57)) h) rfl rfl (fun c5 => ?_) (fun c5 => ?_)
    ·
      simp only [if_neg c5] at JN3
      refine ok_thru (L := [some (.inr (.inr (.inl 63))), some (.inl v1), some (.inl v2), some (.inl t0)]) (S := [.inl 7, .inr (.inr (.inl 63))]) (M := mm (up V 84 v2.toNat (V 62 57)) h) rfl rfl ?_
      first | exact JN3 | (simp only [if_neg c5]; exact JN3)
    ·
      simp only [if_pos c5] at JN3
      refine ok_goto (L := [some (.inr (.inr (.inl 63))), some (.inl v1), some (.inl v2), some (.inl t0)]) (S := [.inl 6, .inr (.inr (.inl 63))]) (M := mm (up V 84 v2.toNat (V 62 57)) h) rfl rfl ?_
      first | exact JN3 | (simp only [if_pos c5]; exact JN3)
def f_Mo_inClause_6 (V : VV) (v1 : Int) (v2 : Int) : Option (VV × Int) := if v1 = 2 then Option.bind (f_Mo_take V 1 120) (fun q3 => f_Mo_inClause_10 q3.1 v1 v2 q3.2) else Option.bind (f_Mo_take V 0 4319) (fun q2 => f_Mo_inClause_10 q2.1 v1 v2 q2.2)
set_option maxRecDepth 20000 in
set_option maxHeartbeats 4000000 in
theorem s_Mo_inClause_6 {X : Xs} {d : Nat} {V : VV} {h : HP} {v1 : Int} {v2 : Int} {w3 : Int} {q : VV × Int} (hf : f_Mo_inClause_6 V v1 v2 = some q) : Ok X (d + 5) 181 6 ([some (.inr (.inr (.inl 63))), some (.inl v1), some (.inl v2), some (.inl w3)], [], mm V h) (fun M r => M = mm q.1 h ∧ r = some (.inl q.2)) := by
  let QQ : Mm → Option AV → Prop := fun M r => M = mm q.1 h ∧ r = some (.inl q.2)
  show Ok X (d + 5) 181 6 ([some (.inr (.inr (.inl 63))), some (.inl v1), some (.inl v2), some (.inl w3)], [], mm V h) QQ
  refine ok_ic_ne (x := v1) (u := 2) (L := [some (.inr (.inr (.inl 63))), some (.inl v1), some (.inl v2), some (.inl w3)]) (S := []) (M := mm V h) rfl rfl (fun c1 => ?_) (fun c1 => ?_)
  ·
    replace hf := (if_neg c1).symm.trans hf
    obtain ⟨q2, e2, hf⟩ := obind hf
    refine ok_callA (L := [some (.inr (.inr (.inl 63))), some (.inl v1), some (.inl v2), some (.inl w3)]) (M := mm V h) (args := [.inr (.inr (.inl 63)), .inl 0, .inl 4319]) (rest := []) (y2 := 182) rfl rfl rfl (Or.inl rfl) rfl rfl (Nat.le_of_ble_eq_true rfl) rfl rfl (Nat.le_of_ble_eq_true rfl) (Nat.le_of_ble_eq_true rfl) (s_Mo_take e2) ?_
    rintro _ _ ⟨rfl, rfl⟩
    exact s_Mo_inClause_10 hf
  ·
    replace hf := (if_pos c1).symm.trans hf
    obtain ⟨q3, e3, hf⟩ := obind hf
    refine ok_callA (L := [some (.inr (.inr (.inl 63))), some (.inl v1), some (.inl v2), some (.inl w3)]) (M := mm V h) (args := [.inr (.inr (.inl 63)), .inl 1, .inl 120]) (rest := []) (y2 := 182) rfl rfl rfl (Or.inl rfl) rfl rfl (Nat.le_of_ble_eq_true rfl) rfl rfl (Nat.le_of_ble_eq_true rfl) (Nat.le_of_ble_eq_true rfl) (s_Mo_take e3) ?_
    rintro _ _ ⟨rfl, rfl⟩
    refine ok_goto (L := [some (.inr (.inr (.inl 63))), some (.inl v1), some (.inl v2), some (.inl w3)]) (S := [.inl q3.2]) (M := mm q3.1 h) rfl rfl ?_
    exact s_Mo_inClause_10 hf
def f_Mo_inClause_2 (V : VV) (v1 : Int) (v2 : Int) : Option (VV × Int) := Option.bind (f_Mo_take V 0 2) (fun q1 => if 0 ≤ v2 ∧ v2 < (80 : Int) then if q1.2 = 0 then f_Mo_inClause_6 (up q1.1 83 v2.toNat (q1.1 62 57)) v1 v2 else some (up q1.1 83 v2.toNat (q1.1 62 57), q1.2) else none)
set_option maxRecDepth 20000 in
set_option maxHeartbeats 4000000 in
theorem s_Mo_inClause_2 {X : Xs} {d : Nat} {V : VV} {h : HP} {v1 : Int} {v2 : Int} {w3 : Int} {q : VV × Int} (hf : f_Mo_inClause_2 V v1 v2 = some q) : Ok X (d + 5) 181 2 ([some (.inr (.inr (.inl 63))), some (.inl v1), some (.inl v2), some (.inl w3)], [], mm V h) (fun M r => M = mm q.1 h ∧ r = some (.inl q.2)) := by
  let QQ : Mm → Option AV → Prop := fun M r => M = mm q.1 h ∧ r = some (.inl q.2)
  show Ok X (d + 5) 181 2 ([some (.inr (.inr (.inl 63))), some (.inl v1), some (.inl v2), some (.inl w3)], [], mm V h) QQ
  obtain ⟨q1, e1, hf⟩ := obind hf
  refine ok_callA (L := [some (.inr (.inr (.inl 63))), some (.inl v1), some (.inl v2), some (.inl w3)]) (M := mm V h) (args := [.inr (.inr (.inl 63)), .inl 0, .inl 2]) (rest := []) (y2 := 182) rfl rfl rfl (Or.inl rfl) rfl rfl (Nat.le_of_ble_eq_true rfl) rfl rfl (Nat.le_of_ble_eq_true rfl) (Nat.le_of_ble_eq_true rfl) (s_Mo_take e1) ?_
  rintro _ _ ⟨rfl, rfl⟩
  by_cases c2 : 0 ≤ v2 ∧ v2 < (80 : Int)
  case neg => replace hf := (if_neg c2).symm.trans hf; cases hf
  replace hf := (if_pos c2).symm.trans hf
  refine ok_iast (i := v2) (v := q1.1 62 57) (id := 83) (n := 80) (L := [some (.inr (.inr (.inl 63))), some (.inl v1), some (.inl v2), some (.inl q1.2)]) (S := []) (M := mm q1.1 h) rfl rfl rfl c2.1 c2.2 ?_
  refine ok_if_eq (x := q1.2) (L := [some (.inr (.inr (.inl 63))), some (.inl v1), some (.inl v2), some (.inl q1.2)]) (S := []) (M := mm (up q1.1 83 v2.toNat (q1.1 62 57)) h) rfl rfl (fun c3 => ?_) (fun c3 => ?_)
  ·
    replace hf := (if_pos c3).symm.trans hf
    exact s_Mo_inClause_6 hf
  ·
    replace hf := (if_neg c3).symm.trans hf
    obtain rfl := Option.some.inj hf
    refine ok_ireturn (L := [some (.inr (.inr (.inl 63))), some (.inl v1), some (.inl v2), some (.inl q1.2)]) (M := mm (up q1.1 83 v2.toNat (q1.1 62 57)) h) (x := q1.2) rfl rfl ?_
    exact ⟨rfl, rfl⟩
def f_Mo_inClause (V : VV) (v1 : Int) (v2 : Int) : Option (VV × Int) := if v1 = 2 then f_Mo_inClause_2 V v1 v2 else if v1 = 3 then f_Mo_inClause_2 V v1 v2 else f_Mo_inClause_6 V v1 v2
set_option maxRecDepth 20000 in
set_option maxHeartbeats 4000000 in
theorem s_Mo_inClause {X : Xs} {d : Nat} {V : VV} {h : HP} {v1 : Int} {v2 : Int} {q : VV × Int} (hf : f_Mo_inClause V v1 v2 = some q) : Ok X (d + 5) 181 0 ([some (.inr (.inr (.inl 63))), some (.inl v1), some (.inl v2), none], [], mm V h) (fun M r => M = mm q.1 h ∧ r = some (.inl q.2)) := by
  let QQ : Mm → Option AV → Prop := fun M r => M = mm q.1 h ∧ r = some (.inl q.2)
  show Ok X (d + 5) 181 0 ([some (.inr (.inr (.inl 63))), some (.inl v1), some (.inl v2), none], [], mm V h) QQ
  refine ok_ic_eq (x := v1) (u := 2) (L := [some (.inr (.inr (.inl 63))), some (.inl v1), some (.inl v2), some (.inl 0)]) (S := []) (M := mm V h) rfl rfl (fun c1 => ?_) (fun c1 => ?_)
  ·
    replace hf := (if_pos c1).symm.trans hf
    exact s_Mo_inClause_2 hf
  ·
    replace hf := (if_neg c1).symm.trans hf
    refine ok_ic_ne (x := v1) (u := 3) (L := [some (.inr (.inr (.inl 63))), some (.inl v1), some (.inl v2), some (.inl 0)]) (S := []) (M := mm V h) rfl rfl (fun c2 => ?_) (fun c2 => ?_)
    ·
      replace hf := (if_neg c2).symm.trans hf
      exact s_Mo_inClause_6 hf
    ·
      replace hf := (if_pos c2).symm.trans hf
      exact s_Mo_inClause_2 hf
def f_Mo_clause_20 (V : VV) (v2 : Int) (v3 : Int) : Option (VV × Int) := if 0 ≤ v2 ∧ v2 < (80 : Int) then if v3 = 0 then if (V 62 45) = 59 then Option.bind (f_Mo_nextToken (up (up V 82 v2.toNat (w32 ((V 62 51) - 1))) 62 50 (w32 ((V 62 50) + 1)))) (fun q4 => some (q4, 0)) else some (up V 82 v2.toNat (w32 ((V 62 51) - 1)), 1) else some (up V 82 v2.toNat (w32 ((V 62 51) - 1)), v3) else none
set_option maxRecDepth 20000 in
set_option maxHeartbeats 4000000 in
theorem s_Mo_clause_20 {X : Xs} {d : Nat} {V : VV} {h : HP} {v2 : Int} {v3 : Int} {w1 : Int} {q : VV × Int} (hf : f_Mo_clause_20 V v2 v3 = some q) : Ok X (d + 6) 178 20 ([some (.inr (.inr (.inl 63))), some (.inl w1), some (.inl v2), some (.inl v3)], [], mm V h) (fun M r => M = mm q.1 h ∧ r = some (.inl q.2)) := by
  let QQ : Mm → Option AV → Prop := fun M r => M = mm q.1 h ∧ r = some (.inl q.2)
  show Ok X (d + 6) 178 20 ([some (.inr (.inr (.inl 63))), some (.inl w1), some (.inl v2), some (.inl v3)], [], mm V h) QQ
  by_cases c1 : 0 ≤ v2 ∧ v2 < (80 : Int)
  case neg => replace hf := (if_neg c1).symm.trans hf; cases hf
  replace hf := (if_pos c1).symm.trans hf
  refine ok_iast (i := v2) (v := w32 ((V 62 51) - 1)) (id := 82) (n := 80) (L := [some (.inr (.inr (.inl 63))), some (.inl w1), some (.inl v2), some (.inl v3)]) (S := []) (M := mm V h) rfl rfl rfl c1.1 c1.2 ?_
  refine ok_if_eq (x := v3) (L := [some (.inr (.inr (.inl 63))), some (.inl w1), some (.inl v2), some (.inl v3)]) (S := []) (M := mm (up V 82 v2.toNat (w32 ((V 62 51) - 1))) h) rfl rfl (fun c2 => ?_) (fun c2 => ?_)
  ·
    replace hf := (if_pos c2).symm.trans hf
    refine ok_ic_eq (x := V 62 45) (u := 59) (L := [some (.inr (.inr (.inl 63))), some (.inl w1), some (.inl v2), some (.inl v3)]) (S := []) (M := mm (up V 82 v2.toNat (w32 ((V 62 51) - 1))) h) rfl rfl (fun c3 => ?_) (fun c3 => ?_)
    ·
      replace hf := (if_pos c3).symm.trans hf
      obtain ⟨q4, e4, hf⟩ := obind hf
      refine ok_callA (L := [some (.inr (.inr (.inl 63))), some (.inl w1), some (.inl v2), some (.inl v3)]) (M := mm (up (up V 82 v2.toNat (w32 ((V 62 51) - 1))) 62 50 (w32 ((V 62 50) + 1))) h) (args := [.inr (.inr (.inl 63))]) (rest := []) (y2 := 174) rfl rfl rfl (Or.inl rfl) rfl rfl (Nat.le_of_ble_eq_true rfl) rfl rfl (Nat.le_of_ble_eq_true rfl) (Nat.le_of_ble_eq_true rfl) (s_Mo_nextToken e4) ?_
      rintro _ _ ⟨rfl, rfl⟩
      obtain rfl := Option.some.inj hf
      refine ok_ireturn (L := [some (.inr (.inr (.inl 63))), some (.inl w1), some (.inl v2), some (.inl v3)]) (M := mm q4 h) (x := 0) rfl rfl ?_
      exact ⟨rfl, rfl⟩
    ·
      replace hf := (if_neg c3).symm.trans hf
      obtain rfl := Option.some.inj hf
      refine ok_ireturn (L := [some (.inr (.inr (.inl 63))), some (.inl w1), some (.inl v2), some (.inl v3)]) (M := mm (up V 82 v2.toNat (w32 ((V 62 51) - 1))) h) (x := 1) rfl rfl ?_
      exact ⟨rfl, rfl⟩
  ·
    replace hf := (if_neg c2).symm.trans hf
    obtain rfl := Option.some.inj hf
    refine ok_ireturn (L := [some (.inr (.inr (.inl 63))), some (.inl w1), some (.inl v2), some (.inl v3)]) (M := mm (up V 82 v2.toNat (w32 ((V 62 51) - 1))) h) (x := v3) rfl rfl ?_
    exact ⟨rfl, rfl⟩
def f_Mo_clause (V : VV)  : Option (VV × Int) := if (f_Mo_wordOf V) < 1 then some (V, 1) else if 5 < (f_Mo_wordOf V) then some (V, 1) else if (V 62 50) = 40 then some (V, 3) else if 0 ≤ (w32 (40 + (V 62 50))) ∧ (w32 (40 + (V 62 50))) < (80 : Int) then Option.bind (f_Mo_nextToken (up V 81 ((w32 (40 + (V 62 50))).toNat) (f_Mo_wordOf V))) (fun q6 => if (f_Mo_wordOf V) = 1 then if (if (q6 62 45) = 1 then (if (q6 62 51) = 3 then 2 else (if (q6 62 46) = (q6 62 51) then 0 else 2 : Int) : Int) else 1 : Int) = 0 then Option.bind (f_Mo_nextToken (up q6 62 51 (w32 ((q6 62 51) + 1)))) (fun q11 => f_Mo_clause_20 q11 (w32 (40 + (V 62 50))) (if (q6 62 45) = 1 then (if (q6 62 51) = 3 then 2 else (if (q6 62 46) = (q6 62 51) then 0 else 2 : Int) : Int) else 1 : Int)) else f_Mo_clause_20 q6 (w32 (40 + (V 62 50))) (if (q6 62 45) = 1 then (if (q6 62 51) = 3 then 2 else (if (q6 62 46) = (q6 62 51) then 0 else 2 : Int) : Int) else 1 : Int) else Option.bind (f_Mo_inClause q6 (f_Mo_wordOf V) (w32 (40 + (V 62 50)))) (fun q8 => f_Mo_clause_20 q8.1 (w32 (40 + (V 62 50))) q8.2)) else none
set_option maxRecDepth 20000 in
set_option maxHeartbeats 4000000 in
theorem s_Mo_clause {X : Xs} {d : Nat} {V : VV} {h : HP} {q : VV × Int} (hf : f_Mo_clause V = some q) : Ok X (d + 6) 178 0 ([some (.inr (.inr (.inl 63))), none, none, none], [], mm V h) (fun M r => M = mm q.1 h ∧ r = some (.inl q.2)) := by
  let QQ : Mm → Option AV → Prop := fun M r => M = mm q.1 h ∧ r = some (.inl q.2)
  show Ok X (d + 6) 178 0 ([some (.inr (.inr (.inl 63))), none, none, none], [], mm V h) QQ
  refine ok_callA (L := [some (.inr (.inr (.inl 63))), none, none, none]) (M := mm V h) (args := [.inr (.inr (.inl 63))]) (rest := []) (y2 := 179) rfl rfl rfl (Or.inl rfl) rfl rfl (Nat.le_of_ble_eq_true rfl) rfl rfl (Nat.le_of_ble_eq_true rfl) (Nat.le_of_ble_eq_true rfl) (s_Mo_wordOf rfl) ?_
  rintro _ _ ⟨rfl, rfl⟩
  refine ok_ic_lt (x := f_Mo_wordOf V) (u := 1) (L := [some (.inr (.inr (.inl 63))), some (.inl (f_Mo_wordOf V)), none, none]) (S := []) (M := mm V h) rfl rfl (fun c2 => ?_) (fun c2 => ?_)
  ·
    replace hf := (if_pos c2).symm.trans hf
    obtain rfl := Option.some.inj hf
    refine ok_ireturn (L := [some (.inr (.inr (.inl 63))), some (.inl (f_Mo_wordOf V)), none, none]) (M := mm V h) (x := 1) rfl rfl ?_
    exact ⟨rfl, rfl⟩
  ·
    replace hf := (if_neg (Int.not_lt.mpr c2)).symm.trans hf
    refine ok_ic_le (x := f_Mo_wordOf V) (u := 5) (L := [some (.inr (.inr (.inl 63))), some (.inl (f_Mo_wordOf V)), none, none]) (S := []) (M := mm V h) rfl rfl (fun c3 => ?_) (fun c3 => ?_)
    ·
      replace hf := (if_neg (Int.not_lt.mpr c3)).symm.trans hf
      refine ok_ic_ne (x := V 62 50) (u := 40) (L := [some (.inr (.inr (.inl 63))), some (.inl (f_Mo_wordOf V)), none, none]) (S := []) (M := mm V h) rfl rfl (fun c4 => ?_) (fun c4 => ?_)
      ·
        replace hf := (if_neg c4).symm.trans hf
        by_cases c5 : 0 ≤ (w32 (40 + (V 62 50))) ∧ (w32 (40 + (V 62 50))) < (80 : Int)
        case neg => replace hf := (if_neg c5).symm.trans hf; cases hf
        replace hf := (if_pos c5).symm.trans hf
        refine ok_iast (i := w32 (40 + (V 62 50))) (v := f_Mo_wordOf V) (id := 81) (n := 80) (L := [some (.inr (.inr (.inl 63))), some (.inl (f_Mo_wordOf V)), some (.inl (w32 (40 + (V 62 50)))), none]) (S := []) (M := mm V h) rfl rfl rfl c5.1 c5.2 ?_
        obtain ⟨q6, e6, hf⟩ := obind hf
        refine ok_callA (L := [some (.inr (.inr (.inl 63))), some (.inl (f_Mo_wordOf V)), some (.inl (w32 (40 + (V 62 50)))), none]) (M := mm (up V 81 ((w32 (40 + (V 62 50))).toNat) (f_Mo_wordOf V)) h) (args := [.inr (.inr (.inl 63))]) (rest := []) (y2 := 174) rfl rfl rfl (Or.inl rfl) rfl rfl (Nat.le_of_ble_eq_true rfl) rfl rfl (Nat.le_of_ble_eq_true rfl) (Nat.le_of_ble_eq_true rfl) (s_Mo_nextToken e6) ?_
        rintro _ _ ⟨rfl, rfl⟩
        refine ok_ic_ne (x := f_Mo_wordOf V) (u := 1) (L := [some (.inr (.inr (.inl 63))), some (.inl (f_Mo_wordOf V)), some (.inl (w32 (40 + (V 62 50)))), none]) (S := []) (M := mm q6 h) rfl rfl (fun c7 => ?_) (fun c7 => ?_)
        ·
          replace hf := (if_neg c7).symm.trans hf
          obtain ⟨q8, e8, hf⟩ := obind hf
          refine ok_callA (L := [some (.inr (.inr (.inl 63))), some (.inl (f_Mo_wordOf V)), some (.inl (w32 (40 + (V 62 50)))), none]) (M := mm q6 h) (args := [.inr (.inr (.inl 63)), .inl (f_Mo_wordOf V), .inl (w32 (40 + (V 62 50)))]) (rest := []) (y2 := 181) rfl rfl rfl (Or.inl rfl) rfl rfl (Nat.le_of_ble_eq_true rfl) rfl rfl (Nat.le_of_ble_eq_true rfl) (Nat.le_of_ble_eq_true rfl) (s_Mo_inClause e8) ?_
          rintro _ _ ⟨rfl, rfl⟩
          refine ok_thru (L := [some (.inr (.inr (.inl 63))), some (.inl (f_Mo_wordOf V)), some (.inl (w32 (40 + (V 62 50)))), some (.inl q8.2)]) (S := []) (M := mm q8.1 h) rfl rfl ?_
          exact s_Mo_clause_20 hf
        ·
          replace hf := (if_pos c7).symm.trans hf
          have JN9 : Ok X (d + 6) 178 15 ([some (.inr (.inr (.inl 63))), some (.inl (f_Mo_wordOf V)), some (.inl (w32 (40 + (V 62 50)))), none], [.inl (if (q6 62 45) = 1 then (if (q6 62 51) = 3 then 2 else (if (q6 62 46) = (q6 62 51) then 0 else 2 : Int) : Int) else 1 : Int)], mm q6 h) QQ := by
            refine ok_if_ne (x := (if (q6 62 45) = 1 then (if (q6 62 51) = 3 then 2 else (if (q6 62 46) = (q6 62 51) then 0 else 2 : Int) : Int) else 1 : Int)) (L := [some (.inr (.inr (.inl 63))), some (.inl (f_Mo_wordOf V)), some (.inl (w32 (40 + (V 62 50)))), some (.inl (if (q6 62 45) = 1 then (if (q6 62 51) = 3 then 2 else (if (q6 62 46) = (q6 62 51) then 0 else 2 : Int) : Int) else 1 : Int))]) (S := []) (M := mm q6 h) rfl rfl (fun c10 => ?_) (fun c10 => ?_)
            ·
              replace hf := (if_neg c10).symm.trans hf
              exact s_Mo_clause_20 hf
            ·
              replace hf := (if_pos c10).symm.trans hf
              obtain ⟨q11, e11, hf⟩ := obind hf
              refine ok_callA (L := [some (.inr (.inr (.inl 63))), some (.inl (f_Mo_wordOf V)), some (.inl (w32 (40 + (V 62 50)))), some (.inl (if (q6 62 45) = 1 then (if (q6 62 51) = 3 then 2 else (if (q6 62 46) = (q6 62 51) then 0 else 2 : Int) : Int) else 1 : Int))]) (M := mm (up q6 62 51 (w32 ((q6 62 51) + 1))) h) (args := [.inr (.inr (.inl 63))]) (rest := []) (y2 := 174) rfl rfl rfl (Or.inl rfl) rfl rfl (Nat.le_of_ble_eq_true rfl) rfl rfl (Nat.le_of_ble_eq_true rfl) (Nat.le_of_ble_eq_true rfl) (s_Mo_nextToken e11) ?_
              rintro _ _ ⟨rfl, rfl⟩
              refine ok_goto (L := [some (.inr (.inr (.inl 63))), some (.inl (f_Mo_wordOf V)), some (.inl (w32 (40 + (V 62 50)))), some (.inl (if (q6 62 45) = 1 then (if (q6 62 51) = 3 then 2 else (if (q6 62 46) = (q6 62 51) then 0 else 2 : Int) : Int) else 1 : Int))]) (S := []) (M := mm q11 h) rfl rfl ?_
              exact s_Mo_clause_20 hf
          clear hf
          refine ok_ic_eq (x := q6 62 45) (u := 1) (L := [some (.inr (.inr (.inl 63))), some (.inl (f_Mo_wordOf V)), some (.inl (w32 (40 + (V 62 50)))), none]) (S := []) (M := mm q6 h) rfl rfl (fun c12 => ?_) (fun c12 => ?_)
          ·
            simp only [if_pos c12] at JN9
            refine ok_ic_eq (x := q6 62 51) (u := 3) (L := [some (.inr (.inr (.inl 63))), some (.inl (f_Mo_wordOf V)), some (.inl (w32 (40 + (V 62 50)))), none]) (S := []) (M := mm q6 h) rfl rfl (fun c13 => ?_) (fun c13 => ?_)
            ·
              simp only [if_pos c13] at JN9
              refine ok_goto (L := [some (.inr (.inr (.inl 63))), some (.inl (f_Mo_wordOf V)), some (.inl (w32 (40 + (V 62 50)))), none]) (S := [.inl 2]) (M := mm q6 h) rfl rfl ?_
              first | exact JN9 | (simp only [if_pos c12, if_pos c13]; exact JN9)
            ·
              simp only [if_neg c13] at JN9
              refine ok_ic_eq (x := q6 62 46) (u := q6 62 51) (L := [some (.inr (.inr (.inl 63))), some (.inl (f_Mo_wordOf V)), some (.inl (w32 (40 + (V 62 50)))), none]) (S := []) (M := mm q6 h) rfl rfl (fun c14 => ?_) (fun c14 => ?_)
              ·
                simp only [if_pos c14] at JN9
                refine ok_thru (L := [some (.inr (.inr (.inl 63))), some (.inl (f_Mo_wordOf V)), some (.inl (w32 (40 + (V 62 50)))), none]) (S := [.inl 0]) (M := mm q6 h) rfl rfl ?_
                first | exact JN9 | (simp only [if_pos c12, if_neg c13, if_pos c14]; exact JN9)
              ·
                simp only [if_neg c14] at JN9
                refine ok_goto (L := [some (.inr (.inr (.inl 63))), some (.inl (f_Mo_wordOf V)), some (.inl (w32 (40 + (V 62 50)))), none]) (S := [.inl 2]) (M := mm q6 h) rfl rfl ?_
                first | exact JN9 | (simp only [if_pos c12, if_neg c13, if_neg c14]; exact JN9)
          ·
            simp only [if_neg c12] at JN9
            refine ok_goto (L := [some (.inr (.inr (.inl 63))), some (.inl (f_Mo_wordOf V)), some (.inl (w32 (40 + (V 62 50)))), none]) (S := [.inl 1]) (M := mm q6 h) rfl rfl ?_
            first | exact JN9 | (simp only [if_neg c12]; exact JN9)
      ·
        replace hf := (if_pos c4).symm.trans hf
        obtain rfl := Option.some.inj hf
        refine ok_ireturn (L := [some (.inr (.inr (.inl 63))), some (.inl (f_Mo_wordOf V)), none, none]) (M := mm V h) (x := 3) rfl rfl ?_
        exact ⟨rfl, rfl⟩
    ·
      replace hf := (if_pos c3).symm.trans hf
      obtain rfl := Option.some.inj hf
      refine ok_ireturn (L := [some (.inr (.inr (.inl 63))), some (.inl (f_Mo_wordOf V)), none, none]) (M := mm V h) (x := 1) rfl rfl ?_
      exact ⟨rfl, rfl⟩
def f_Mo_readHours_1 : Nat → VV → (Option (VV × Int))
  | 0, _ => none
  | n + 1, V => if (V 62 45) = 0 then some (V, 0) else Option.bind (f_Mo_clause V) (fun q2 => if q2.2 = 0 then f_Mo_readHours_1 n q2.1 else some (q2.1, q2.2))
set_option maxRecDepth 20000 in
set_option maxHeartbeats 4000000 in
theorem s_Mo_readHours_1_n {X : Xs} {d : Nat} {h : HP} {q : VV × Int} : ∀ (n : Nat) (V : VV) (z1 : Option AV), f_Mo_readHours_1 n V = some q → Ok X (d + 7) 173 1 ([some (.inr (.inr (.inl 63))), z1], [], mm V h) (fun M r => M = mm q.1 h ∧ r = some (.inl q.2)) := by
  intro n
  induction n with
  | zero => intro V z1 hf; cases hf
  | succ n ih =>
    intro V z1 hf
    let QQ : Mm → Option AV → Prop := fun M r => M = mm q.1 h ∧ r = some (.inl q.2)
    show Ok X (d + 7) 173 1 ([some (.inr (.inr (.inl 63))), z1], [], mm V h) QQ
    refine ok_if_eq (x := V 62 45) (L := [some (.inr (.inr (.inl 63))), z1]) (S := []) (M := mm V h) rfl rfl (fun c1 => ?_) (fun c1 => ?_)
    ·
      replace hf := (if_pos c1).symm.trans hf
      obtain rfl := Option.some.inj hf
      refine ok_ireturn (L := [some (.inr (.inr (.inl 63))), z1]) (M := mm V h) (x := 0) rfl rfl ?_
      exact ⟨rfl, rfl⟩
    ·
      replace hf := (if_neg c1).symm.trans hf
      obtain ⟨q2, e2, hf⟩ := obind hf
      refine ok_callA (L := [some (.inr (.inr (.inl 63))), z1]) (M := mm V h) (args := [.inr (.inr (.inl 63))]) (rest := []) (y2 := 178) rfl rfl rfl (Or.inl rfl) rfl rfl (Nat.le_of_ble_eq_true rfl) rfl rfl (Nat.le_of_ble_eq_true rfl) (Nat.le_of_ble_eq_true rfl) (s_Mo_clause e2) ?_
      rintro _ _ ⟨rfl, rfl⟩
      refine ok_if_eq (x := q2.2) (L := [some (.inr (.inr (.inl 63))), some (.inl q2.2)]) (S := []) (M := mm q2.1 h) rfl rfl (fun c3 => ?_) (fun c3 => ?_)
      ·
        replace hf := (if_pos c3).symm.trans hf
        refine ok_goto (L := [some (.inr (.inr (.inl 63))), some (.inl q2.2)]) (S := []) (M := mm q2.1 h) rfl rfl ?_
        exact ih q2.1 (some (.inl q2.2)) hf
      ·
        replace hf := (if_neg c3).symm.trans hf
        obtain rfl := Option.some.inj hf
        refine ok_ireturn (L := [some (.inr (.inr (.inl 63))), some (.inl q2.2)]) (M := mm q2.1 h) (x := q2.2) rfl rfl ?_
        exact ⟨rfl, rfl⟩
theorem s_Mo_readHours_1 {X : Xs} {d : Nat} {h : HP} {V : VV} {z1 : Option AV} {n : Nat} {q : VV × Int} (hf : f_Mo_readHours_1 n V = some q) : Ok X (d + 7) 173 1 ([some (.inr (.inr (.inl 63))), z1], [], mm V h) (fun M r => M = mm q.1 h ∧ r = some (.inl q.2)) :=
  s_Mo_readHours_1_n n V z1 hf
def f_Mo_readHours (V : VV)  : Option (VV × Int) := Option.bind (f_Mo_nextToken (up (up (up V 62 50 0) 62 51 0) 62 43 0)) (fun q1 => f_Mo_readHours_1 FU q1)
set_option maxRecDepth 20000 in
set_option maxHeartbeats 4000000 in
theorem s_Mo_readHours {X : Xs} {d : Nat} {V : VV} {h : HP} {q : VV × Int} (hf : f_Mo_readHours V = some q) : Ok X (d + 7) 173 0 ([some (.inr (.inr (.inl 63))), none], [], mm V h) (fun M r => M = mm q.1 h ∧ r = some (.inl q.2)) := by
  let QQ : Mm → Option AV → Prop := fun M r => M = mm q.1 h ∧ r = some (.inl q.2)
  show Ok X (d + 7) 173 0 ([some (.inr (.inr (.inl 63))), none], [], mm V h) QQ
  obtain ⟨q1, e1, hf⟩ := obind hf
  refine ok_callA (L := [some (.inr (.inr (.inl 63))), none]) (M := mm (up (up (up V 62 50 0) 62 51 0) 62 43 0) h) (args := [.inr (.inr (.inl 63))]) (rest := []) (y2 := 174) rfl rfl rfl (Or.inl rfl) rfl rfl (Nat.le_of_ble_eq_true rfl) rfl rfl (Nat.le_of_ble_eq_true rfl) (Nat.le_of_ble_eq_true rfl) (s_Mo_nextToken e1) ?_
  rintro _ _ ⟨rfl, rfl⟩
  exact s_Mo_readHours_1 hf
def f_Mo_isTold (V : VV) (v1 : Int) : VV × Int := (up (up (up V 62 41 v1) 62 42 (if v1 = 0 then (-1) else V 62 44 : Int)) 62 40 0, (if v1 = 0 then 1 else 0 : Int))
set_option maxRecDepth 20000 in
set_option maxHeartbeats 4000000 in
theorem s_Mo_isTold {X : Xs} {d : Nat} {V : VV} {h : HP} {v1 : Int} {q : VV × Int} (hf : f_Mo_isTold V v1 = q) : Ok X (d + 1) 184 0 ([some (.inr (.inr (.inl 63))), some (.inl v1)], [], mm V h) (fun M r => M = mm q.1 h ∧ r = some (.inl q.2) ∧ (q.2 = 0 ∨ q.2 = 1)) := by
  let QQ : Mm → Option AV → Prop := fun M r => M = mm q.1 h ∧ r = some (.inl q.2) ∧ (q.2 = 0 ∨ q.2 = 1)
  show Ok X (d + 1) 184 0 ([some (.inr (.inr (.inl 63))), some (.inl v1)], [], mm V h) QQ
  have JN1 : Ok X (d + 1) 184 3 ([some (.inr (.inr (.inl 63))), some (.inl v1)], [.inl (if v1 = 0 then (-1) else V 62 44 : Int), .inr (.inr (.inl 63))], mm (up V 62 41 v1) h) QQ := by
    have JN2 : Ok X (d + 1) 184 6 ([some (.inr (.inr (.inl 63))), some (.inl v1)], [.inl (if v1 = 0 then 1 else 0 : Int)], mm (up (up (up V 62 41 v1) 62 42 (if v1 = 0 then (-1) else V 62 44 : Int)) 62 40 0) h) QQ := by
      have hq : ((up (up (up V 62 41 v1) 62 42 (if v1 = 0 then (-1) else V 62 44 : Int)) 62 40 0, (if v1 = 0 then 1 else 0 : Int))) = q := hf
      subst hq
      have hz : ((if v1 = 0 then 1 else 0 : Int) : Int) = 0 ∨ ((if v1 = 0 then 1 else 0 : Int) : Int) = 1 := by
        first | exact Or.inl rfl | exact Or.inr rfl | assumption | (repeat' split) <;> first | exact Or.inl rfl | exact Or.inr rfl | assumption
      refine ok_zreturn (L := [some (.inr (.inr (.inl 63))), some (.inl v1)]) (M := mm (up (up (up V 62 41 v1) 62 42 (if v1 = 0 then (-1) else V 62 44 : Int)) 62 40 0) h) (x := (if v1 = 0 then 1 else 0 : Int)) rfl rfl hz ?_
      exact ⟨rfl, rfl, hz⟩
    clear hf
    refine ok_if_ne (x := v1) (L := [some (.inr (.inr (.inl 63))), some (.inl v1)]) (S := []) (M := mm (up (up (up V 62 41 v1) 62 42 (if v1 = 0 then (-1) else V 62 44 : Int)) 62 40 0) h) rfl rfl (fun c3 => ?_) (fun c3 => ?_)
    ·
      simp only [if_neg c3] at JN2
      refine ok_thru (L := [some (.inr (.inr (.inl 63))), some (.inl v1)]) (S := [.inl 0]) (M := mm (up (up (up V 62 41 v1) 62 42 (if v1 = 0 then (-1) else V 62 44 : Int)) 62 40 0) h) rfl rfl ?_
      first | exact JN2 | (simp only [if_neg c3]; exact JN2)
    ·
      simp only [if_pos c3] at JN2
      refine ok_goto (L := [some (.inr (.inr (.inl 63))), some (.inl v1)]) (S := [.inl 1]) (M := mm (up (up (up V 62 41 v1) 62 42 (if v1 = 0 then (-1) else V 62 44 : Int)) 62 40 0) h) rfl rfl ?_
      first | exact JN2 | (simp only [if_pos c3]; exact JN2)
  clear hf
  refine ok_if_ne (x := v1) (L := [some (.inr (.inr (.inl 63))), some (.inl v1)]) (S := [.inr (.inr (.inl 63))]) (M := mm (up V 62 41 v1) h) rfl rfl (fun c4 => ?_) (fun c4 => ?_)
  ·
    simp only [if_neg c4] at JN1
    refine ok_thru (L := [some (.inr (.inr (.inl 63))), some (.inl v1)]) (S := [.inl (V 62 44), .inr (.inr (.inl 63))]) (M := mm (up V 62 41 v1) h) rfl rfl ?_
    first | exact JN1 | (simp only [if_neg c4]; exact JN1)
  ·
    simp only [if_pos c4] at JN1
    refine ok_goto (L := [some (.inr (.inr (.inl 63))), some (.inl v1)]) (S := [.inl (-1), .inr (.inr (.inl 63))]) (M := mm (up V 62 41 v1) h) rfl rfl ?_
    first | exact JN1 | (simp only [if_pos c4]; exact JN1)
def f_Mo_hours_5 : Nat → VV → Int → (Option (VV × Int))
  | 0, _, _ => none
  | n + 1, V, v1 => if v1 < (V 62 48) then if 0 ≤ (w32 (40 + v1)) ∧ (w32 (40 + v1)) < (80 : Int) then if 0 ≤ v1 ∧ v1 < (80 : Int) then if 0 ≤ (w32 (40 + v1)) ∧ (w32 (40 + v1)) < (80 : Int) then if 0 ≤ v1 ∧ v1 < (80 : Int) then if 0 ≤ (w32 (40 + v1)) ∧ (w32 (40 + v1)) < (80 : Int) then if 0 ≤ v1 ∧ v1 < (80 : Int) then if 0 ≤ (w32 (40 + v1)) ∧ (w32 (40 + v1)) < (80 : Int) then if 0 ≤ v1 ∧ v1 < (80 : Int) then if 0 ≤ (w32 (40 + v1)) ∧ (w32 (40 + v1)) < (80 : Int) then if 0 ≤ v1 ∧ v1 < (80 : Int) then f_Mo_hours_5 n (up (up (up (up (up V 81 v1.toNat (V 81 ((w32 (40 + v1)).toNat))) 82 v1.toNat (V 82 ((w32 (40 + v1)).toNat))) 83 v1.toNat (V 83 ((w32 (40 + v1)).toNat))) 84 v1.toNat (V 84 ((w32 (40 + v1)).toNat))) 85 v1.toNat (V 85 ((w32 (40 + v1)).toNat))) (w32 (v1 + 1)) else none else none else none else none else none else none else none else none else none else none else some (V, V 62 48)
set_option maxRecDepth 20000 in
set_option maxHeartbeats 4000000 in
theorem s_Mo_hours_5_n {X : Xs} {d : Nat} {h : HP} {q : VV × Int} : ∀ (n : Nat) (V : VV) (v1 : Int), f_Mo_hours_5 n V v1 = some q → Ok X (d + 8) 172 5 ([some (.inr (.inr (.inl 63))), some (.inl v1)], [], mm V h) (fun M r => M = mm q.1 h ∧ r = some (.inl q.2)) := by
  intro n
  induction n with
  | zero => intro V v1 hf; cases hf
  | succ n ih =>
    intro V v1 hf
    let QQ : Mm → Option AV → Prop := fun M r => M = mm q.1 h ∧ r = some (.inl q.2)
    show Ok X (d + 8) 172 5 ([some (.inr (.inr (.inl 63))), some (.inl v1)], [], mm V h) QQ
    refine ok_ic_ge (x := v1) (u := V 62 48) (L := [some (.inr (.inr (.inl 63))), some (.inl v1)]) (S := []) (M := mm V h) rfl rfl (fun c1 => ?_) (fun c1 => ?_)
    ·
      replace hf := (if_neg (Int.not_lt.mpr c1)).symm.trans hf
      obtain rfl := Option.some.inj hf
      refine ok_ireturn (L := [some (.inr (.inr (.inl 63))), some (.inl v1)]) (M := mm V h) (x := V 62 48) rfl rfl ?_
      exact ⟨rfl, rfl⟩
    ·
      replace hf := (if_pos c1).symm.trans hf
      by_cases c2 : 0 ≤ (w32 (40 + v1)) ∧ (w32 (40 + v1)) < (80 : Int)
      case neg => replace hf := (if_neg c2).symm.trans hf; cases hf
      replace hf := (if_pos c2).symm.trans hf
      refine ok_iald (i := w32 (40 + v1)) (id := 81) (n := 80) (L := [some (.inr (.inr (.inl 63))), some (.inl v1)]) (S := [.inl v1, .inr (.inr (.inl 82))]) (M := mm V h) rfl rfl rfl c2.1 c2.2 ?_
      by_cases c3 : 0 ≤ v1 ∧ v1 < (80 : Int)
      case neg => replace hf := (if_neg c3).symm.trans hf; cases hf
      replace hf := (if_pos c3).symm.trans hf
      refine ok_iast (i := v1) (v := V 81 ((w32 (40 + v1)).toNat)) (id := 81) (n := 80) (L := [some (.inr (.inr (.inl 63))), some (.inl v1)]) (S := []) (M := mm V h) rfl rfl rfl c3.1 c3.2 ?_
      by_cases c4 : 0 ≤ (w32 (40 + v1)) ∧ (w32 (40 + v1)) < (80 : Int)
      case neg => replace hf := (if_neg c4).symm.trans hf; cases hf
      replace hf := (if_pos c4).symm.trans hf
      refine ok_iald (i := w32 (40 + v1)) (id := 82) (n := 80) (L := [some (.inr (.inr (.inl 63))), some (.inl v1)]) (S := [.inl v1, .inr (.inr (.inl 83))]) (M := mm (up V 81 v1.toNat (V 81 ((w32 (40 + v1)).toNat))) h) rfl rfl rfl c4.1 c4.2 ?_
      by_cases c5 : 0 ≤ v1 ∧ v1 < (80 : Int)
      case neg => replace hf := (if_neg c5).symm.trans hf; cases hf
      replace hf := (if_pos c5).symm.trans hf
      refine ok_iast (i := v1) (v := V 82 ((w32 (40 + v1)).toNat)) (id := 82) (n := 80) (L := [some (.inr (.inr (.inl 63))), some (.inl v1)]) (S := []) (M := mm (up V 81 v1.toNat (V 81 ((w32 (40 + v1)).toNat))) h) rfl rfl rfl c5.1 c5.2 ?_
      by_cases c6 : 0 ≤ (w32 (40 + v1)) ∧ (w32 (40 + v1)) < (80 : Int)
      case neg => replace hf := (if_neg c6).symm.trans hf; cases hf
      replace hf := (if_pos c6).symm.trans hf
      refine ok_iald (i := w32 (40 + v1)) (id := 83) (n := 80) (L := [some (.inr (.inr (.inl 63))), some (.inl v1)]) (S := [.inl v1, .inr (.inr (.inl 84))]) (M := mm (up (up V 81 v1.toNat (V 81 ((w32 (40 + v1)).toNat))) 82 v1.toNat (V 82 ((w32 (40 + v1)).toNat))) h) rfl rfl rfl c6.1 c6.2 ?_
      by_cases c7 : 0 ≤ v1 ∧ v1 < (80 : Int)
      case neg => replace hf := (if_neg c7).symm.trans hf; cases hf
      replace hf := (if_pos c7).symm.trans hf
      refine ok_iast (i := v1) (v := V 83 ((w32 (40 + v1)).toNat)) (id := 83) (n := 80) (L := [some (.inr (.inr (.inl 63))), some (.inl v1)]) (S := []) (M := mm (up (up V 81 v1.toNat (V 81 ((w32 (40 + v1)).toNat))) 82 v1.toNat (V 82 ((w32 (40 + v1)).toNat))) h) rfl rfl rfl c7.1 c7.2 ?_
      by_cases c8 : 0 ≤ (w32 (40 + v1)) ∧ (w32 (40 + v1)) < (80 : Int)
      case neg => replace hf := (if_neg c8).symm.trans hf; cases hf
      replace hf := (if_pos c8).symm.trans hf
      refine ok_iald (i := w32 (40 + v1)) (id := 84) (n := 80) (L := [some (.inr (.inr (.inl 63))), some (.inl v1)]) (S := [.inl v1, .inr (.inr (.inl 85))]) (M := mm (up (up (up V 81 v1.toNat (V 81 ((w32 (40 + v1)).toNat))) 82 v1.toNat (V 82 ((w32 (40 + v1)).toNat))) 83 v1.toNat (V 83 ((w32 (40 + v1)).toNat))) h) rfl rfl rfl c8.1 c8.2 ?_
      by_cases c9 : 0 ≤ v1 ∧ v1 < (80 : Int)
      case neg => replace hf := (if_neg c9).symm.trans hf; cases hf
      replace hf := (if_pos c9).symm.trans hf
      refine ok_iast (i := v1) (v := V 84 ((w32 (40 + v1)).toNat)) (id := 84) (n := 80) (L := [some (.inr (.inr (.inl 63))), some (.inl v1)]) (S := []) (M := mm (up (up (up V 81 v1.toNat (V 81 ((w32 (40 + v1)).toNat))) 82 v1.toNat (V 82 ((w32 (40 + v1)).toNat))) 83 v1.toNat (V 83 ((w32 (40 + v1)).toNat))) h) rfl rfl rfl c9.1 c9.2 ?_
      by_cases c10 : 0 ≤ (w32 (40 + v1)) ∧ (w32 (40 + v1)) < (80 : Int)
      case neg => replace hf := (if_neg c10).symm.trans hf; cases hf
      replace hf := (if_pos c10).symm.trans hf
      refine ok_iald (i := w32 (40 + v1)) (id := 85) (n := 80) (L := [some (.inr (.inr (.inl 63))), some (.inl v1)]) (S := [.inl v1, .inr (.inr (.inl 86))]) (M := mm (up (up (up (up V 81 v1.toNat (V 81 ((w32 (40 + v1)).toNat))) 82 v1.toNat (V 82 ((w32 (40 + v1)).toNat))) 83 v1.toNat (V 83 ((w32 (40 + v1)).toNat))) 84 v1.toNat (V 84 ((w32 (40 + v1)).toNat))) h) rfl rfl rfl c10.1 c10.2 ?_
      by_cases c11 : 0 ≤ v1 ∧ v1 < (80 : Int)
      case neg => replace hf := (if_neg c11).symm.trans hf; cases hf
      replace hf := (if_pos c11).symm.trans hf
      refine ok_iast (i := v1) (v := V 85 ((w32 (40 + v1)).toNat)) (id := 85) (n := 80) (L := [some (.inr (.inr (.inl 63))), some (.inl v1)]) (S := []) (M := mm (up (up (up (up V 81 v1.toNat (V 81 ((w32 (40 + v1)).toNat))) 82 v1.toNat (V 82 ((w32 (40 + v1)).toNat))) 83 v1.toNat (V 83 ((w32 (40 + v1)).toNat))) 84 v1.toNat (V 84 ((w32 (40 + v1)).toNat))) h) rfl rfl rfl c11.1 c11.2 ?_
      refine ok_goto (L := [some (.inr (.inr (.inl 63))), some (.inl (w32 (v1 + 1)))]) (S := []) (M := mm (up (up (up (up (up V 81 v1.toNat (V 81 ((w32 (40 + v1)).toNat))) 82 v1.toNat (V 82 ((w32 (40 + v1)).toNat))) 83 v1.toNat (V 83 ((w32 (40 + v1)).toNat))) 84 v1.toNat (V 84 ((w32 (40 + v1)).toNat))) 85 v1.toNat (V 85 ((w32 (40 + v1)).toNat))) h) rfl rfl ?_
      exact ih (up (up (up (up (up V 81 v1.toNat (V 81 ((w32 (40 + v1)).toNat))) 82 v1.toNat (V 82 ((w32 (40 + v1)).toNat))) 83 v1.toNat (V 83 ((w32 (40 + v1)).toNat))) 84 v1.toNat (V 84 ((w32 (40 + v1)).toNat))) 85 v1.toNat (V 85 ((w32 (40 + v1)).toNat))) (w32 (v1 + 1)) hf
theorem s_Mo_hours_5 {X : Xs} {d : Nat} {h : HP} {V : VV} {v1 : Int} {n : Nat} {q : VV × Int} (hf : f_Mo_hours_5 n V v1 = some q) : Ok X (d + 8) 172 5 ([some (.inr (.inr (.inl 63))), some (.inl v1)], [], mm V h) (fun M r => M = mm q.1 h ∧ r = some (.inl q.2)) :=
  s_Mo_hours_5_n n V v1 hf
def f_Mo_hours (V : VV)  : Option (VV × Int) := Option.bind (f_Mo_readHours V) (fun q1 => lt_ (f_Mo_isTold q1.1 q1.2) (fun q2 => if q2.2 = 0 then some (q2.1, (-1)) else f_Mo_hours_5 FU (up (up q2.1 62 48 (q2.1 62 50)) 62 49 (q2.1 62 51)) 0))
set_option maxRecDepth 20000 in
set_option maxHeartbeats 4000000 in
theorem s_Mo_hours {X : Xs} {d : Nat} {V : VV} {h : HP} {q : VV × Int} (hf : f_Mo_hours V = some q) : Ok X (d + 8) 172 0 ([some (.inr (.inr (.inl 63))), none], [], mm V h) (fun M r => M = mm q.1 h ∧ r = some (.inl q.2)) := by
  let QQ : Mm → Option AV → Prop := fun M r => M = mm q.1 h ∧ r = some (.inl q.2)
  show Ok X (d + 8) 172 0 ([some (.inr (.inr (.inl 63))), none], [], mm V h) QQ
  obtain ⟨q1, e1, hf⟩ := obind hf
  refine ok_callA (L := [some (.inr (.inr (.inl 63))), none]) (M := mm V h) (args := [.inr (.inr (.inl 63))]) (rest := [.inr (.inr (.inl 63))]) (y2 := 173) rfl rfl rfl (Or.inl rfl) rfl rfl (Nat.le_of_ble_eq_true rfl) rfl rfl (Nat.le_of_ble_eq_true rfl) (Nat.le_of_ble_eq_true rfl) (s_Mo_readHours e1) ?_
  rintro _ _ ⟨rfl, rfl⟩
  obtain ⟨q2, e2, hf⟩ := lt_x hf
  refine ok_callA (L := [some (.inr (.inr (.inl 63))), none]) (M := mm q1.1 h) (args := [.inr (.inr (.inl 63)), .inl q1.2]) (rest := []) (y2 := 184) rfl rfl rfl (Or.inl rfl) rfl rfl (Nat.le_of_ble_eq_true rfl) rfl rfl (Nat.le_of_ble_eq_true rfl) (Nat.le_of_ble_eq_true rfl) (s_Mo_isTold e2) ?_
  rintro _ _ ⟨rfl, rfl, hz2⟩
  refine ok_if_ne (x := q2.2) (L := [some (.inr (.inr (.inl 63))), none]) (S := []) (M := mm q2.1 h) rfl rfl (fun c3 => ?_) (fun c3 => ?_)
  ·
    replace hf := (if_neg c3).symm.trans hf
    refine ok_thru (L := [some (.inr (.inr (.inl 63))), some (.inl 0)]) (S := []) (M := mm (up (up q2.1 62 48 (q2.1 62 50)) 62 49 (q2.1 62 51)) h) rfl rfl ?_
    exact s_Mo_hours_5 hf
  ·
    replace hf := (if_pos c3).symm.trans hf
    obtain rfl := Option.some.inj hf
    refine ok_ireturn (L := [some (.inr (.inr (.inl 63))), none]) (M := mm q2.1 h) (x := (-1)) rfl rfl ?_
    exact ⟨rfl, rfl⟩
def f_Mo_fault (V : VV) (v1 : Int) : Int := (if v1 = 0 then V 62 41 else (if v1 = 1 then V 62 42 else (-1) : Int) : Int)
set_option maxRecDepth 20000 in
set_option maxHeartbeats 4000000 in
theorem s_Mo_fault {X : Xs} {d : Nat} {V : VV} {h : HP} {v1 : Int} {q : Int} (hf : f_Mo_fault V v1 = q) : Ok X (d + 1) 185 0 ([some (.inr (.inr (.inl 63))), some (.inl v1)], [], mm V h) (fun M r => M = mm V h ∧ r = some (.inl q)) := by
  let QQ : Mm → Option AV → Prop := fun M r => M = mm V h ∧ r = some (.inl q)
  show Ok X (d + 1) 185 0 ([some (.inr (.inr (.inl 63))), some (.inl v1)], [], mm V h) QQ
  have JN1 : Ok X (d + 1) 185 5 ([some (.inr (.inr (.inl 63))), some (.inl v1)], [.inl (if v1 = 0 then V 62 41 else (if v1 = 1 then V 62 42 else (-1) : Int) : Int)], mm V h) QQ := by
    have hq : ((if v1 = 0 then V 62 41 else (if v1 = 1 then V 62 42 else (-1) : Int) : Int)) = q := hf
    subst hq
    refine ok_ireturn (L := [some (.inr (.inr (.inl 63))), some (.inl v1)]) (M := mm V h) (x := (if v1 = 0 then V 62 41 else (if v1 = 1 then V 62 42 else (-1) : Int) : Int)) rfl rfl ?_
    exact ⟨rfl, rfl⟩
  clear hf
  refine ok_if_ne (x := v1) (L := [some (.inr (.inr (.inl 63))), some (.inl v1)]) (S := []) (M := mm V h) rfl rfl (fun c2 => ?_) (fun c2 => ?_)
  ·
    simp only [if_neg c2] at JN1
    refine ok_ic_ne (x := v1) (u := 1) (L := [some (.inr (.inr (.inl 63))), some (.inl v1)]) (S := []) (M := mm V h) rfl rfl (fun c3 => ?_) (fun c3 => ?_)
    ·
      simp only [if_neg c3] at JN1
      refine ok_thru (L := [some (.inr (.inr (.inl 63))), some (.inl v1)]) (S := [.inl (-1)]) (M := mm V h) rfl rfl ?_
      first | exact JN1 | (simp only [if_neg c2, if_neg c3]; exact JN1)
    ·
      simp only [if_pos c3] at JN1
      refine ok_goto (L := [some (.inr (.inr (.inl 63))), some (.inl v1)]) (S := [.inl (V 62 42)]) (M := mm V h) rfl rfl ?_
      first | exact JN1 | (simp only [if_neg c2, if_pos c3]; exact JN1)
  ·
    simp only [if_pos c2] at JN1
    refine ok_goto (L := [some (.inr (.inr (.inl 63))), some (.inl v1)]) (S := [.inl (V 62 41)]) (M := mm V h) rfl rfl ?_
    first | exact JN1 | (simp only [if_pos c2]; exact JN1)
