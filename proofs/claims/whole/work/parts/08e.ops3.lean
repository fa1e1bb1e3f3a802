/-! rows that are made, what lies outside, and all instructions together -/
section OPS
variable {p : Program} {l : Launch} {e : Env} {R : Room} {s : State} {m : MethodId} {args : Array Value} {below : List Frame} {meth : Method} {c : Code} {H : Heap} {locs : List Loc} {cells slots : Nat} {Q : State → Prop} {g : GP} {X : Xs} {y k0 z0 : Nat} {pc : Nat} {ls : Array Slot} {L : List (Option AV)} {S : List AV} {M : Mm}
theorem arr_w : Cond.arrayClass .int ∈ gT ∧ Cond.arrayClass .long ∈ gT ∧ Cond.arrayClass .short ∈ gT ∧ Cond.arrayClass .boolean ∈ gT :=
  ⟨in_gT (at_tb (i := 101) (by decide +kernel)) rfl, in_gT (at_tb (i := 1592) (by decide +kernel)) rfl, in_gT (at_tb (i := 1591) (by decide +kernel)) rfl, in_gT (at_tb (i := 1590) (by decide +kernel)) rfl⟩
theorem o_newa0 {atype : ArrayType} {ty : FieldType} {ka : Nat} (C : CTX g X y p s m args meth c) (hd : decode (yc y) pc = .ok (.newarray atype, 2)) (hty : newarray.typeOf atype = ty) (hka : atK atype = ka) (hk1 : 100 ≤ ka) (hk2 : ka ≤ 103) (hw0 : Cond.arrayClass ty ∈ gT) {rest : List Value} (I : INV g s k0 z0 M H locs cells slots) {n : Int} (h0 : 0 ≤ n) (h1 : n ≤ 1000000)
    (hcell : ∀ cA : ClassId, s.vm.findClass ("[" ++ ty.toString) = some cA → ∀ (V : Nat → Nat → Int) (G : Nat → Nat → Nat) (K : List (Nat × Nat)), (∀ k, V M.2.2.length k = 0) → ∃ x, ent g (V, G, K) M.2.2.length (ka, n.toNat) = .inl x ∧ vp_cell x.1 x.2 = arrV cA n.toNat (fun _ => defaultValue ty)) (hb8 : componentBytes ty ≤ 8)
    (hr1 : (newA ka n.toNat M).2.2.length ≤ k0 + R.cells) (hr2 : ksz (newA ka n.toNat M).2.2 ≤ z0 + R.slots)
    (kk : ∀ H2, INV g s k0 z0 (newA ka n.toNat M) H2 locs (cells + 1) (slots + n.toNat) → W p l e R s m args below meth c H2 locs (cells + 1) (slots + n.toNat) Q (F0 m (pc + 2) ls (.ref (g.1 + M.2.2.length) :: rest))) : W p l e R s m args below meth c H locs cells slots Q (F0 m pc ls (.int (Int32.ofInt n) :: rest)) := by
  obtain ⟨hx, hb, -, hown, hts, -, hE, hA0, -⟩ := C
  refine W_size (fun hsz => ?_)
  have hH := inv_size I hsz
  obtain ⟨hP, hD, hS, hw, hn0, hn1, hn2⟩ := I
  have hin : inI n := ⟨by omega, by omega⟩
  have hlen : (newA ka n.toNat M).2.2.length = M.2.2.length + 1 := by show (M.2.2 ++ [(ka, n.toNat)]).length = _; simp
  have hks : ksz (newA ka n.toNat M).2.2 = ksz M.2.2 + n.toNat := by show ksz (M.2.2 ++ [(ka, n.toNat)]) = _; rw [ksz_app, if_neg (show ¬ ka < 100 by omega)]
  subst hty
  refine va_newaK hx hb (hts _ hw0) rfl hd rfl (by rw [show (0 : Int32) = Int32.ofInt 0 from rfl, i_lt hin in0]; omega) (i_cl hin) (by
    have h2 : n.toNat ≤ 1000000 := by omega
    exact Nat.le_trans (Nat.mul_le_mul h2 hb8) (by decide)) (by omega) (by omega) rfl fun H1 cA e1 z1 o1 hAr hNm => ?_
  have hk : ∀ (k : Nat) (x : Nat × va_E), (wld g M)[k]? = some x → H1[x.1]? = H[x.1]? := fun k x hx => o1 x.1 ((hP k x hx).lt)
  rw [hH] at e1 z1 o1 ⊢
  refine kk H1 ⟨?_, ?_, ⟨Nat.le_trans hS.1 (by omega), fun x h1 h2 => (o1 x (by have := hS.1; omega)).trans (hS.2.1 x h1 h2), hS.2.2⟩, wfM_new hw _ ⟨Or.inr ⟨hk1, hk2⟩, by show n.toNat ≤ 1000000; omega⟩, hn0, by omega, by omega⟩
  · unfold newA
    rw [wld_new]
    refine (hP.kept hk).app (fun k x hx => ?_)
    have hz : k < 1 := (List.getElem?_eq_some_iff.mp hx).1
    rw [show k = 0 by omega] at hx
    cases hx
    obtain ⟨x, e2, e3⟩ := hcell cA hNm (zr M.1 M.2.2.length) (zrG M.2.1 M.2.2.length) (M.2.2 ++ [(ka, n.toNat)]) (fun k => by unfold zr; rw [if_pos rfl])
    rw [e2]
    show H1[g.1 + M.2.2.length]? = some (vp_cell x.1 x.2)
    rw [e3]
    exact e1
  · unfold newA
    rw [wld_new]
    exact hD.push hP hH.symm (by show g.1 ≤ g.1 + _; omega)
theorem o_newa {i : Instr} {len : Nat} {t : ArrayType} (C : CTX g X y p s m args meth c) (hd : decode (yc y) pc = .ok (i, len)) (hl : len = lenOf i) (hok : opOk (yo y) (yin y) (ml y) (.newarray t) i = true) (ht : 100 ≤ atK t) {rest : List Value} (I : INV g s k0 z0 M H locs cells slots) {n : Int} (h0 : 0 ≤ n) (h1 : n ≤ 1000000)
    (hr1 : (newA (atK t) n.toNat M).2.2.length ≤ k0 + R.cells) (hr2 : ksz (newA (atK t) n.toNat M).2.2 ≤ z0 + R.slots)
    (kk : ∀ H2, INV g s k0 z0 (newA (atK t) n.toNat M) H2 locs (cells + 1) (slots + n.toNat) → W p l e R s m args below meth c H2 locs (cells + 1) (slots + n.toNat) Q (F0 m (pc + len) ls (.ref (g.1 + M.2.2.length) :: rest))) : W p l e R s m args below meth c H locs cells slots Q (F0 m pc ls (.int (Int32.ofInt n) :: rest)) := by
  have hE := C.2.2.2.2.2.2.1
  subst hl
  unfold opOk at hok
  dsimp only at hok
  split at hok
  · next t2 =>
    have e1 := of_decide_eq_true hok
    subst e1
    have hK := hE.1.2
    have r0 := (hK 0 _ rfl).2
    have r1 := (hK 1 _ rfl).2
    have r2 := (hK 2 _ rfl).2
    have r3 := (hK 3 _ rfl).2
    have zI : Int32.ofInt 0 = 0 := rfl
    have zJ : Int64.ofInt 0 = 0 := rfl
    cases t with
    | int =>
      refine o_newa0 (ty := .int) (ka := 100) C hd rfl rfl (by decide) (by decide) arr_w.1 I h0 h1 (fun cA hc V G K hV => ?_) (by decide) hr1 hr2 kk
      have : cA = gA g 0 := Option.some.inj (hc.symm.trans r0)
      subst this
      refine ⟨_, ent_int, ?_⟩
      show arrV _ _ (fun j => .int (Int32.ofInt (V _ j))) = _
      simp only [hV, zI]; rfl
    | long =>
      refine o_newa0 (ty := .long) (ka := 101) C hd rfl rfl (by decide) (by decide) arr_w.2.1 I h0 h1 (fun cA hc V G K hV => ?_) (by decide) hr1 hr2 kk
      have : cA = gA g 1 := Option.some.inj (hc.symm.trans r1)
      subst this
      refine ⟨_, ent_long, ?_⟩
      show arrV _ _ (fun j => .long (Int64.ofInt (V _ j))) = _
      simp only [hV, zJ]; rfl
    | short =>
      refine o_newa0 (ty := .short) (ka := 102) C hd rfl rfl (by decide) (by decide) arr_w.2.2.1 I h0 h1 (fun cA hc V G K hV => ?_) (by decide) hr1 hr2 kk
      have : cA = gA g 2 := Option.some.inj (hc.symm.trans r2)
      subst this
      refine ⟨_, ent_short, ?_⟩
      show arrV _ _ (fun j => .int (Int32.ofInt (V _ j))) = _
      simp only [hV, zI]; rfl
    | boolean =>
      refine o_newa0 (ty := .boolean) (ka := 103) C hd rfl rfl (by decide) (by decide) arr_w.2.2.2 I h0 h1 (fun cA hc V G K hV => ?_) (by decide) hr1 hr2 kk
      have : cA = gA g 3 := Option.some.inj (hc.symm.trans r3)
      subst this
      refine ⟨_, ent_bool, ?_⟩
      show arrV _ _ (fun j => .int (Int32.ofInt (V _ j))) = _
      simp only [hV, zI]; rfl
    | _ => exact absurd ht (by decide)
  · cases hok
theorem str_w : Cond.fieldLink "java/lang/String" 9 "java/lang/String" "value" "[B" ∈ gT ∧ Cond.fieldLink "java/lang/String" 15 "java/lang/String" "coder" "B" ∈ gT ∧ Cond.fieldLink "java/lang/String" 38 "java/lang/String" "COMPACT_STRINGS" "Z" ∈ gT ∧ Cond.fieldLink "java/lang/String" 1053 "jdk/internal/util/Preconditions" "SIOOBE_FORMATTER" "Ljava/util/function/BiFunction;" ∈ gT :=
  ⟨in_gT (at_tb (i := 1961) (by decide +kernel)) rfl, in_gT (at_tb (i := 1962) (by decide +kernel)) rfl, in_gT (at_tb (i := 772) (by decide +kernel)) rfl, in_gT (at_tb (i := 788) (by decide +kernel)) rfl⟩
theorem cn16 : cn 16 = "java/lang/String" := by decide +kernel
theorem o_gets {i : Instr} {len k : Nat} (C : CTX g X y p s m args meth c) (hd : decode (yc y) pc = .ok (i, len)) (hl : len = lenOf i) (hok : opOk (yo y) (yin y) (ml y) (.getstatic k) i = true) {rest : List Value} (hS : va_S (Afn g) s.heap H locs)
    (kk : W p l e R s m args below meth c H locs cells slots Q (F0 m (pc + len) ls ((if k = 0 then .int 1 else xv g 1) :: rest))) : W p l e R s m args below meth c H locs cells slots Q (F0 m pc ls rest) := by
  obtain ⟨hx, hb, -, hown, hts, -, hE, hA0, -⟩ := C
  subst hl
  unfold opOk at hok
  dsimp only at hok
  split at hok
  · rw [Bool.and_eq_true, Bool.or_eq_true] at hok
    obtain ⟨e0, hok⟩ := hok
    have e0 := Nat.eq_of_beq_eq_true e0
    rw [e0, cn16] at hown
    rcases hok with h | h
    · obtain ⟨e1, e2⟩ := beq2 h
      subst e1; subst e2
      exact va_gets hx hb hE.2.2.2.2.1 hS hown (hts _ str_w.2.2.1) (fun _ h => h) hd kk
    · obtain ⟨e1, e2⟩ := beq2 h
      subst e1; subst e2
      exact va_gets hx hb hE.2.2.2.2.2.1 hS hown (hts _ str_w.2.2.2) (fun _ h => h) hd kk
  · cases hok
theorem o_strf {i : Instr} {len k j : Nat} (C : CTX g X y p s m args meth c) (hd : decode (yc y) pc = .ok (i, len)) (hl : len = lenOf i) (hok : opOk (yo y) (yin y) (ml y) (.instanceof k) i = true) (hj : j < 13) {rest : List Value} (hS : va_S (Afn g) s.heap H locs)
    (kk : W p l e R s m args below meth c H locs cells slots Q (F0 m (pc + len) ls ((if k = 0 then xv g (40 + j) else .int 0) :: rest))) : W p l e R s m args below meth c H locs cells slots Q (F0 m pc ls (xv g (10 + j) :: rest)) := by
  obtain ⟨hx, hb, -, hown, hts, -, hE, hA0, -⟩ := C
  rw [xv_ref g (by omega)]
  rw [xv_ref g (show 40 + j ≠ 1 by omega)] at kk
  obtain ⟨-, hco, hva, -⟩ := hE.2.2.2.1.1 j hj
  subst hl
  unfold opOk at hok
  dsimp only at hok
  split at hok
  · rw [Bool.and_eq_true, Bool.or_eq_true] at hok
    obtain ⟨e0, hok⟩ := hok
    have e0 := Nat.eq_of_beq_eq_true e0
    rw [e0, cn16] at hown
    rcases hok with h | h
    · obtain ⟨e1, e2⟩ := beq2 h
      subst e1; subst e2
      exact vk_getf hx hb hva hS hown (hts _ str_w.1) (fun _ h => h) hd kk
    · obtain ⟨e1, e2⟩ := beq2 h
      subst e1; subst e2
      exact vk_getf hx hb hco hS hown (hts _ str_w.2.1) (fun _ h => h) hd kk
  · cases hok
theorem sby_all : ∀ j, j < 13 → ∃ l, gl SBY j = some l ∧ (SBY.map List.length).getD j 0 = l.length ∧ (SBY.map (List.map Int32.ofInt)).getD j [] = l.map Int32.ofInt ∧ l.length < 100 ∧ l.all (fun v => decide (0 ≤ v) && decide (v < 128)) = true := by
  intro j h
  have h2 : j = 0 ∨ j = 1 ∨ j = 2 ∨ j = 3 ∨ j = 4 ∨ j = 5 ∨ j = 6 ∨ j = 7 ∨ j = 8 ∨ j = 9 ∨ j = 10 ∨ j = 11 ∨ j = 12 := by omega
  rcases h2 with rfl | rfl | rfl | rfl | rfl | rfl | rfl | rfl | rfl | rfl | rfl | rfl | rfl <;> exact ⟨_, rfl, rfl, rfl, by decide, by decide⟩
theorem sby_lt {j : Nat} {l : List Int} (h : gl SBY j = some l) : j < 13 := gl_lt h
theorem o_alenS {j : Nat} {l2 : List Int} (C : CTX g X y p s m args meth c) (hd : decode (yc y) pc = .ok (.arraylength, 1)) (hj : gl SBY j = some l2) {rest : List Value} (hS : va_S (Afn g) s.heap H locs)
    (kk : W p l e R s m args below meth c H locs cells slots Q (F0 m (pc + 1) ls (.int (Int32.ofInt l2.length) :: rest))) : W p l e R s m args below meth c H locs cells slots Q (F0 m pc ls (xv g (40 + j) :: rest)) := by
  obtain ⟨hx, hb, -, hown, hts, -, hE, hA0, -⟩ := C
  rw [xv_ref g (by omega)]
  obtain ⟨-, -, -, hT⟩ := hE.2.2.2.1.1 j (sby_lt hj)
  obtain ⟨l3, e1, e2, -, -⟩ := sby_all j (sby_lt hj)
  rw [hj] at e1; cases e1
  exact va_tlen hx hb hT hS (v := Int32.ofInt l2.length) (by rw [e2, i_ofNat]) hd kk
theorem o_alenX (C : CTX g X y p s m args meth c) (hd : decode (yc y) pc = .ok (.arraylength, 1)) {rest : List Value} (hS : va_S (Afn g) s.heap H locs)
    (kk : W p l e R s m args below meth c H locs cells slots Q (F0 m (pc + 1) ls (.int (Int32.ofInt X.1) :: rest))) : W p l e R s m args below meth c H locs cells slots Q (F0 m pc ls (xv g 0 :: rest)) := by
  obtain ⟨hx, hb, -, hown, hts, -, hE, hA0, -⟩ := C
  have hXX := hE.2.2.2.2.2.2
  refine va_slen hx hb hXX.1 hXX.2.1 (Nat.not_le.mpr hXX.2.2) hS hd ?_
  rw [i_ofNat]; exact kk
theorem o_obj {i : Instr} {len : Nat} {k : Nat} (C : CTX g X y p s m args meth c) (hd : decode (yc y) pc = .ok (i, len)) (hl : len = lenOf i) (hok : opOk (yo y) (yin y) (ml y) .nop i = true) (hs : ls.size = ml y) (rf : 1 ≤ R.frames) (rl : 64 ≤ R.locals)
    (kk : W p l e R s m args below meth c H locs cells slots Q (F0 m (pc + len) ls [])) : W p l e R s m args below meth c H locs cells slots Q (F0 m pc ls [.ref (g.1 + k)]) := by
  obtain ⟨hx, hb, hml, hown, hts, -, hE, hA0, -⟩ := C
  subst hl
  unfold opOk at hok
  dsimp only at hok
  split at hok
  · exact W.objInit hx hb hown (hts _ (objT_w hok)) (hts _ (in_gT (at_tb (i := 27) (by decide +kernel)) rfl)) (hts _ (in_gT (at_tb (i := 28) (by decide +kernel)) rfl)) rfl (by show ls.size = _; rw [hs, hml]) rfl hd rf (by show 2 * 0 + 0 + 12 ≤ _; omega) kk
  · cases hok
theorem plain_i {r i : Instr} (h : (plain r && decide (r = i)) = true) : i = r := by
  rw [Bool.and_eq_true] at h
  exact (of_decide_eq_true h.2).symm
set_option maxHeartbeats 4000000 in
theorem op_snd {r i : Instr} {len : Nat} {L2 : List (Option AV)} {S2 : List AV} {M2 : Mm} (C : CTX g X y p s m args meth c) (hd : decode (yc y) pc = .ok (i, len)) (hl : len = lenOf i) (hok : opOk (yo y) (yin y) (ml y) r i = true) (h : op1 X r L S M = some (L2, S2, M2)) (hr : lrel g L ls) (hL : L.length = ml y) (wL : wfL L) (wS : wfS S) (I : INV g s k0 z0 M H locs cells slots) (rc : M2.2.2.length ≤ k0 + R.cells) (rs : ksz M2.2.2 ≤ z0 + R.slots) (rf : 1 ≤ R.frames) (rl : 64 ≤ R.locals)
    (kk : ∀ ls2 H2 locs2 cells2 slots2, lrel g L2 ls2 → L2.length = L.length → wfL L2 → wfS S2 → INV g s k0 z0 M2 H2 locs2 cells2 slots2 → W p l e R s m args below meth c H2 locs2 cells2 slots2 Q (F0 m (pc + len) ls2 (S2.map (vv g)))) :
    W p l e R s m args below meth c H locs cells slots Q (F0 m pc ls (S.map (vv g))) := by
  have hx := C.1
  have hb := C.2.1
  have stL : ∀ {k : Nat} {v : AV} {L3 : List (Option AV)}, st1 L k v = some L3 → wfV v → L3.length = L.length ∧ wfL L3 := by
    intro k v L3 h3 hv
    have e3 : L3 = sl L k (some v) := by
      cases k with
      | zero => cases h3; rfl
      | succ j =>
        unfold st1 at h3
        dsimp only at h3
        cases hj : isLo (gl L j) with
        | true => rw [hj] at h3; cases h3
        | false => rw [hj] at h3; cases h3; rfl
    subst e3
    refine ⟨by rw [sl_set, List.length_set], fun j w hw => ?_⟩
    rw [sl_set, gl_get, List.getElem?_set] at hw
    by_cases hjk : k = j
    · rw [if_pos hjk] at hw
      split at hw
      · cases hw; exact hv
      · cases hw
    · rw [if_neg hjk, ← gl_get] at hw; exact wL j w hw
  have stL2 : ∀ {k : Nat} {v : AV} {L3 : List (Option AV)}, st2 L k v = some L3 → wfV v → L3.length = L.length ∧ wfL L3 := by
    intro k v L3 h3 hv
    have e3 : L3 = sl (sl L k (some v)) (k + 1) none := by
      cases k with
      | zero => cases h3; rfl
      | succ j =>
        unfold st2 at h3
        dsimp only at h3
        cases hj : isLo (gl L j) with
        | true => rw [hj] at h3; cases h3
        | false => rw [hj] at h3; cases h3; rfl
    subst e3
    refine ⟨by rw [sl_set, sl_set, List.length_set, List.length_set], fun j w hw => ?_⟩
    rw [sl_set, sl_set, gl_get, List.getElem?_set] at hw
    by_cases hj2 : k + 1 = j
    · rw [if_pos hj2] at hw
      split at hw <;> cases hw
    · rw [if_neg hj2, List.getElem?_set] at hw
      by_cases hjk : k = j
      · rw [if_pos hjk] at hw
        split at hw
        · cases hw; exact hv
        · cases hw
      · rw [if_neg hjk, ← gl_get] at hw; exact wL j w hw
  unfold op1 at h
  split at h
  · rename_i v9
    cases h
    have hv : inI v9 := by
      unfold opOk at hok
      dsimp only at hok
      rw [Bool.and_eq_true] at hok
      have := hok.1
      unfold inIb at this
      rw [Bool.and_eq_true] at this
      exact ⟨of_decide_eq_true this.1, of_decide_eq_true this.2⟩
    exact o_const C hd hl hok (kk _ _ _ _ _ hr rfl wL (wfS_i hv wS) I)
  · rename_i v9
    cases h
    have hv : inJ v9 := by
      unfold opOk at hok
      dsimp only at hok
      rw [Bool.and_eq_true] at hok
      have := hok.1
      unfold inJb at this
      rw [Bool.and_eq_true] at this
      exact ⟨of_decide_eq_true this.1, of_decide_eq_true this.2⟩
    exact o_lconst C hd hl hok (kk _ _ _ _ _ hr rfl wL (wfS_i hv wS) I)
  · cases h
    exact o_ldcS C hd hl hok (kk _ _ _ _ _ hr rfl wL (wfS_i trivial wS) I)
  · split at h
    · cases h
      exact o_gets C hd hl hok I.2.2.1 (kk _ _ _ _ _ hr rfl wL (wfS_i (by show inI 1; unfold inI; omega) wS) I)
    · next hk0 =>
      cases h
      refine o_gets C hd hl hok I.2.2.1 ?_
      rw [if_neg (by intro q; exact hk0 q)]
      exact kk _ _ _ _ _ hr rfl wL (wfS_i trivial wS) I
  · split at h
    · next hg =>
      cases h
      exact o_iload C hd hl hok (hr.2.2 _ _ hg) (kk _ _ _ _ _ hr rfl wL (wfS_i (wL _ _ hg) wS) I)
    · cases h
  · split at h
    · next hg =>
      cases h
      exact o_lload C hd hl hok (hr.2.2 _ _ hg) (kk _ _ _ _ _ hr rfl wL (wfS_i (wL _ _ hg) wS) I)
    · cases h
  · split at h
    · next r hg =>
      cases h
      refine o_aload C hd hl hok (v := vv g (.inr (.inr r))) ?_ (hr.2.2 _ _ hg) (kk _ _ _ _ _ hr rfl wL (wfS_i (wL _ _ hg) wS) I)
      rcases r with r | r
      · cases r with
        | zero => exact Or.inl rfl
        | succ r => exact Or.inr ⟨_, rfl⟩
      · exact xv_or g _
    · cases h
  · split at h
    · split at h
      · next hs =>
        cases h
        have w2 := wfS_c wS
        have e3 := stL hs w2.1
        exact o_istore C hd hl hok hr hL hs (fun ls2 h2 => kk _ _ _ _ _ h2 e3.1 e3.2 w2.2 I)
      · cases h
    · cases h
  · split at h
    · split at h
      · next hs =>
        cases h
        have w2 := wfS_c wS
        have e3 := stL hs w2.1
        exact o_astore C hd hl hok hr hL hs (fun ls2 h2 => kk _ _ _ _ _ h2 e3.1 e3.2 w2.2 I)
      · cases h
    · cases h
  · split at h
    · split at h
      · next hs =>
        cases h
        have w2 := wfS_c wS
        have e3 := stL2 hs w2.1
        exact o_lstore C hd hl hok hr hL hs (fun ls2 h2 => kk _ _ _ _ _ h2 e3.1 e3.2 w2.2 I)
      · cases h
    · cases h
  · split at h
    · next hg =>
      split at h
      · next hs =>
        cases h
        have e3 := stL hs (w32_in _)
        exact o_iinc C hd hl hok hr hL hg hs (fun ls2 h2 => kk _ _ _ _ _ h2 e3.1 e3.2 wS I)
      · cases h
    · cases h
  · have hi := plain_i (show (plain .iadd && decide (Instr.iadd = i)) = true from hok)
    subst hi; subst hl
    split at h
    · cases h
      have w1 := wfS_c wS
      have w2 := wfS_c w1.2
      refine lv_iadd hx hb hd ?_
      have kk2 := kk _ _ _ _ _ hr rfl wL (wfS_i (w32_in _) w2.2) I
      rw [← Int32.ofInt_add, ← i_w32]; exact kk2
    · cases h
  · have hi := plain_i (show (plain .isub && decide (Instr.isub = i)) = true from hok)
    subst hi; subst hl
    split at h
    · cases h
      have w1 := wfS_c wS
      have w2 := wfS_c w1.2
      refine lv_isub hx hb hd ?_
      have kk2 := kk _ _ _ _ _ hr rfl wL (wfS_i (w32_in _) w2.2) I
      rw [← Int32.ofInt_sub, ← i_w32]; exact kk2
    · cases h
  · have hi := plain_i (show (plain .imul && decide (Instr.imul = i)) = true from hok)
    subst hi; subst hl
    split at h
    · cases h
      have w1 := wfS_c wS
      have w2 := wfS_c w1.2
      refine lv_imul hx hb hd ?_
      have kk2 := kk _ _ _ _ _ hr rfl wL (wfS_i (w32_in _) w2.2) I
      rw [← Int32.ofInt_mul, ← i_w32]; exact kk2
    · cases h
  · have hi := plain_i (show (plain .ineg && decide (Instr.ineg = i)) = true from hok)
    subst hi; subst hl
    split at h
    · cases h
      have w1 := wfS_c wS
      refine lv_ineg hx hb hd ?_
      have kk2 := kk _ _ _ _ _ hr rfl wL (wfS_i (w32_in _) w1.2) I
      rw [← Int32.ofInt_neg, ← i_w32]; exact kk2
    · cases h
  · have hi := plain_i (show (plain .iand && decide (Instr.iand = i)) = true from hok)
    subst hi; subst hl
    split at h
    · cases h
      have w1 := wfS_c wS
      have w2 := wfS_c w1.2
      refine lv_iand hx hb hd ?_
      have kk2 := kk _ _ _ _ _ hr rfl wL (wfS_i (i_in _) w2.2) I
      rw [← Int32.ofInt_toInt (_ &&& _)]; exact kk2
    · cases h
  · have hi := plain_i (show (plain .ior && decide (Instr.ior = i)) = true from hok)
    subst hi; subst hl
    split at h
    · cases h
      have w1 := wfS_c wS
      have w2 := wfS_c w1.2
      refine lv_ior hx hb hd ?_
      have kk2 := kk _ _ _ _ _ hr rfl wL (wfS_i (i_in _) w2.2) I
      rw [← Int32.ofInt_toInt (_ ||| _)]; exact kk2
    · cases h
  · have hi := plain_i (show (plain .ishl && decide (Instr.ishl = i)) = true from hok)
    subst hi; subst hl
    split at h
    · cases h
      have w1 := wfS_c wS
      have w2 := wfS_c w1.2
      refine lv_ishl hx hb hd ?_
      have kk2 := kk _ _ _ _ _ hr rfl wL (wfS_i (i_in _) w2.2) I
      rw [← Int32.ofInt_toInt (_ <<< _)]; exact kk2
    · cases h
  · have hi := plain_i (show (plain .ishr && decide (Instr.ishr = i)) = true from hok)
    subst hi; subst hl
    split at h
    · cases h
      have w1 := wfS_c wS
      have w2 := wfS_c w1.2
      refine lv_ishr hx hb hd ?_
      have kk2 := kk _ _ _ _ _ hr rfl wL (wfS_i (i_in _) w2.2) I
      rw [← Int32.ofInt_toInt (_ >>> _)]; exact kk2
    · cases h
  · have hi := plain_i (show (plain .iushr && decide (Instr.iushr = i)) = true from hok)
    subst hi; subst hl
    split at h
    · cases h
      have w1 := wfS_c wS
      have w2 := wfS_c w1.2
      refine lv_iushr hx hb hd rfl ?_
      have kk2 := kk _ _ _ _ _ hr rfl wL (wfS_i (i_in _) w2.2) I
      rw [← Int32.ofInt_toInt (UInt32.toInt32 _)]; exact kk2
    · cases h
  · have hi := plain_i (show (plain .ladd && decide (Instr.ladd = i)) = true from hok)
    subst hi; subst hl
    split at h
    · cases h
      have w1 := wfS_c wS
      have w2 := wfS_c w1.2
      refine lv_ladd hx hb hd ?_
      have kk2 := kk _ _ _ _ _ hr rfl wL (wfS_i (w64_in _) w2.2) I
      rw [← Int64.ofInt_add, ← j_w64]; exact kk2
    · cases h
  · have hi := plain_i (show (plain .lsub && decide (Instr.lsub = i)) = true from hok)
    subst hi; subst hl
    split at h
    · cases h
      have w1 := wfS_c wS
      have w2 := wfS_c w1.2
      refine lv_lsub hx hb hd ?_
      have kk2 := kk _ _ _ _ _ hr rfl wL (wfS_i (w64_in _) w2.2) I
      rw [← Int64.ofInt_sub, ← j_w64]; exact kk2
    · cases h
  · have hi := plain_i (show (plain .lmul && decide (Instr.lmul = i)) = true from hok)
    subst hi; subst hl
    split at h
    · cases h
      have w1 := wfS_c wS
      have w2 := wfS_c w1.2
      refine lv_lmul hx hb hd ?_
      have kk2 := kk _ _ _ _ _ hr rfl wL (wfS_i (w64_in _) w2.2) I
      rw [← Int64.ofInt_mul, ← j_w64]; exact kk2
    · cases h
  · have hi := plain_i (show (plain .lneg && decide (Instr.lneg = i)) = true from hok)
    subst hi; subst hl
    split at h
    · cases h
      have w1 := wfS_c wS
      refine lv_lneg hx hb hd ?_
      have kk2 := kk _ _ _ _ _ hr rfl wL (wfS_i (w64_in _) w1.2) I
      rw [← Int64.ofInt_neg, ← j_w64]; exact kk2
    · cases h
  · have hi := plain_i (show (plain .lshl && decide (Instr.lshl = i)) = true from hok)
    subst hi; subst hl
    split at h
    · cases h
      have w1 := wfS_c wS
      have w2 := wfS_c w1.2
      refine lv_lshl hx hb hd rfl ?_
      have kk2 := kk _ _ _ _ _ hr rfl wL (wfS_i (j_in _) w2.2) I
      rw [← Int64.ofInt_toInt (_ <<< _)]; exact kk2
    · cases h
  · have hi := plain_i (show (plain .lor && decide (Instr.lor = i)) = true from hok)
    subst hi; subst hl
    split at h
    · cases h
      have w1 := wfS_c wS
      have w2 := wfS_c w1.2
      refine lv_lor hx hb hd ?_
      have kk2 := kk _ _ _ _ _ hr rfl wL (wfS_i (j_in _) w2.2) I
      rw [← Int64.ofInt_toInt (_ ||| _)]; exact kk2
    · cases h
  · have hi := plain_i (show (plain .lcmp && decide (Instr.lcmp = i)) = true from hok)
    subst hi; subst hl
    split at h
    · cases h
      have w1 := wfS_c wS
      have w2 := wfS_c w1.2
      refine W.lcmp hx hb hd ?_
      rw [i_cmp w2.1 w1.1]
      refine kk _ _ _ _ _ hr rfl wL (wfS_i ?_ w2.2) I
      show inI (lcmpI _ _)
      unfold lcmpI inI
      split
      · omega
      · split <;> omega
    · cases h
  · have hi := plain_i (show (plain .i2l && decide (Instr.i2l = i)) = true from hok)
    subst hi; subst hl
    split at h
    · cases h
      have w1 := wfS_c wS
      refine lv_i2l hx hb hd rfl ?_
      have kk2 := kk _ _ _ _ _ hr rfl wL (wfS_i (⟨by have := w1.1.1; omega, by have := w1.1.2; omega⟩ : inJ _) w1.2) I
      rw [i_toJ w1.1]; exact kk2
    · cases h
  · have hi := plain_i (show (plain .l2i && decide (Instr.l2i = i)) = true from hok)
    subst hi; subst hl
    split at h
    · cases h
      have w1 := wfS_c wS
      refine lv_l2i hx hb hd rfl ?_
      have kk2 := kk _ _ _ _ _ hr rfl wL (wfS_i (w32_in _) w1.2) I
      rw [j_toI]; exact kk2
    · cases h
  · have hi := plain_i (show (plain .i2s && decide (Instr.i2s = i)) = true from hok)
    subst hi; subst hl
    split at h
    · cases h
      have w1 := wfS_c wS
      refine lv_i2s hx hb hd rfl ?_
      have kk2 := kk _ _ _ _ _ hr rfl wL (wfS_i (w16_in _) w1.2) I
      rw [i_i16]; exact kk2
    · cases h
  · have hi := plain_i (show (plain .i2c && decide (Instr.i2c = i)) = true from hok)
    subst hi; subst hl
    split at h
    · cases h
      have w1 := wfS_c wS
      refine lv_i2c hx hb hd rfl ?_
      have kk2 := kk _ _ _ _ _ hr rfl wL (wfS_i (by show inI _; unfold inI; omega) w1.2) I
      rw [i_c16]; exact kk2
    · cases h
  · have hi := plain_i (show (plain .dup && decide (Instr.dup = i)) = true from hok)
    subst hi; subst hl
    split at h
    · cases h
      have w1 := wfS_c wS
      exact lv_dup hx hb hd rfl (kk _ _ _ _ _ hr rfl wL (wfS_i w1.1 (wfS_i w1.1 w1.2)) I)
    · cases h
      have w1 := wfS_c wS
      exact lv_dup hx hb hd (by rw [vv_cat]; rfl) (kk _ _ _ _ _ hr rfl wL (wfS_i w1.1 (wfS_i w1.1 w1.2)) I)
    · cases h
  · have hi := plain_i (show (plain .dup2 && decide (Instr.dup2 = i)) = true from hok)
    subst hi; subst hl
    split at h
    · cases h
      have w1 := wfS_c wS
      have w2 := wfS_c w1.2
      exact lv_dup2_11 hx hb hd rfl (by rw [vv_cat]; rfl) (kk _ _ _ _ _ hr rfl wL (wfS_i w1.1 (wfS_i w2.1 (wfS_i w1.1 (wfS_i w2.1 w2.2)))) I)
    · cases h
  · have hi := plain_i (show (plain .pop && decide (Instr.pop = i)) = true from hok)
    subst hi; subst hl
    split at h
    · cases h
      exact lv_pop hx hb hd rfl (kk _ _ _ _ _ hr rfl wL (wfS_c wS).2 I)
    · cases h
      exact lv_pop hx hb hd (by rw [vv_cat]; rfl) (kk _ _ _ _ _ hr rfl wL (wfS_c wS).2 I)
    · cases h
  · have hi := plain_i (show (plain .pop2 && decide (Instr.pop2 = i)) = true from hok)
    subst hi; subst hl
    split at h
    · cases h
      exact lv_pop2_2 hx hb hd rfl (kk _ _ _ _ _ hr rfl wL (wfS_c wS).2 I)
    · cases h
  · split at h
    · cases h
      exact o_obj C hd hl hok (by rw [hr.1, hL]) rf rl (kk _ _ _ _ _ hr rfl wL (wfS_c wS).2 I)
    · cases h
  · split at h
    · split at h
      · next hg =>
        cases h
        exact o_getf C hd hl hok I hg (fun hv => kk _ _ _ _ _ hr rfl wL (wfS_i hv (wfS_c wS).2) I)
      · cases h
    · cases h
  · split at h
    · split at h
      · next hg =>
        cases h
        have w1 := wfS_c wS
        exact o_putf C hd hl hok I w1.1 hg (fun H2 locs2 I2 => kk _ _ _ _ _ hr rfl wL (wfS_c w1.2).2 I2)
      · cases h
    · cases h
  · split at h
    · next a S1 =>
      split at h
      · next hb2 =>
        rw [Bool.and_eq_true] at hb2
        have h10 : 10 ≤ a := Nat.le_of_ble_eq_true hb2.1
        have h23 : a < 23 := Nat.le_of_ble_eq_true hb2.2
        have ea : a = 10 + (a - 10) := by omega
        have kk3 := o_strf (m := m) (l := l) (e := e) (R := R) (below := below) (cells := cells) (slots := slots) (Q := Q) (ls := ls) (j := a - 10) C hd hl hok (by omega) (rest := S1.map (vv g)) I.2.2.1
        rw [← ea] at kk3
        refine kk3 ?_
        split at h
        · cases h
          rw [if_pos rfl, show 40 + (a - 10) = a + 30 by omega]
          exact kk _ _ _ _ _ hr rfl wL (wfS_i trivial (wfS_c wS).2) I
        · next hk0 =>
          cases h
          rw [if_neg (by intro q; exact hk0 q)]
          exact kk _ _ _ _ _ hr rfl wL (wfS_i in0 (wfS_c wS).2) I
      · cases h
    · cases h
  · split at h
    · cases h
      subst hl
      unfold opOk at hok
      dsimp only at hok
      split at hok
      · refine o_alenX C hd I.2.2.1 (kk _ _ _ _ _ hr rfl wL (wfS_i ?_ (wfS_c wS).2) I)
        have := C.2.2.2.2.2.2.2.2.1
        show inI _; unfold inI; omega
      · cases hok
    · cases h
  · split at h
    · next a S1 =>
      split at h
      · next hb2 =>
        split at h
        · next l2 hj =>
          cases h
          have h40 : 40 ≤ a := Nat.le_of_ble_eq_true hb2
          subst hl
          unfold opOk at hok
          dsimp only at hok
          split at hok
          · have kk3 := o_alenS (m := m) (l := l) (e := e) (R := R) (below := below) (cells := cells) (slots := slots) (Q := Q) (ls := ls) C hd hj (rest := S1.map (vv g)) I.2.2.1
            rw [show 40 + (a - 40) = a by omega] at kk3
            refine kk3 (kk _ _ _ _ _ hr rfl wL (wfS_i ?_ (wfS_c wS).2) I)
            obtain ⟨l3, e1, -, -, e4, -⟩ := sby_all _ (sby_lt hj)
            rw [hj] at e1; cases e1
            show inI _; unfold inI; omega
          · cases hok
        · cases h
      · cases h
    · cases h
  · split at h
    · next hc =>
      cases h
      have hc : _ < 13 := Nat.le_of_ble_eq_true hc
      exact o_new C hd hl hok hc I rc rs (fun H2 I2 => kk _ _ _ _ _ hr rfl wL (wfS_i trivial wS) I2)
    · cases h
  · split at h
    · split at h
      · next hb2 =>
        cases h
        rw [Bool.and_eq_true, Bool.and_eq_true] at hb2
        exact o_newa C hd hl hok (Nat.le_of_ble_eq_true hb2.1) I (of_decide_eq_true hb2.2.1) (of_decide_eq_true hb2.2.2) rc rs (fun H2 I2 => kk _ _ _ _ _ hr rfl wL (wfS_i trivial (wfS_c wS).2) I2)
      · cases h
    · cases h
  · cases h
end OPS
