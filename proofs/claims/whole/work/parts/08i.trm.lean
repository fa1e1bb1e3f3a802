/-! how a block ends, in the real machine; the whole run -/
theorem luk_x {pcs : List Nat} {pc : Nat} (x : Int) (d : Int) (td : Nat) (hd : ∃ q, gl pcs td = some q ∧ (pc : Int) + d = (q : Int)) : ∀ (ps : List (Int × Int)) (ts : List Nat) (ps2 : List (Int × Int)), lswOk pcs pc ps ts ps2 = true → ∃ q, gl pcs (luk ps ts td x) = some q ∧ (pc : Int) + Op.lookupswitch.offset ps2 d x = (q : Int) := by
  intro ps
  induction ps with
  | nil =>
    intro ts ps2 h
    cases ts with
    | cons _ _ => cases ps2 <;> cases h
    | nil => cases ps2 with
      | cons _ _ => cases h
      | nil => exact hd
  | cons a ps ih =>
    intro ts ps2 h
    cases ts with
    | nil => cases ps2 <;> cases h
    | cons t ts => cases ps2 with
      | nil => cases h
      | cons b ps2 =>
        obtain ⟨k, z⟩ := a
        obtain ⟨k2, off⟩ := b
        have h2 : (decide (k = k2) && (goesTo pcs [t] 0 pc off && lswOk pcs pc ps ts ps2)) = true := h
        rw [Bool.and_eq_true, Bool.and_eq_true] at h2
        obtain ⟨e1, e2, e3⟩ := h2
        have e1 := of_decide_eq_true e1
        subst e1
        obtain ⟨q, q1, q2⟩ := goTo_x e2
        by_cases hx : x = k
        · refine ⟨q, ?_, ?_⟩
          · show gl pcs (if x = k then t else luk ps ts td x) = _
            rw [if_pos hx]; exact q1
          · have : Op.lookupswitch.offset ((k, off) :: ps2) d x = off := by
              rw [Op.lookupswitch.offset]; simp [hx]
            rw [this]; exact q2
        · obtain ⟨q', r1, r2⟩ := ih ts ps2 e3
          refine ⟨q', ?_, ?_⟩
          · show gl pcs (if x = k then t else luk ps ts td x) = _
            rw [if_neg hx]; exact r1
          · have : Op.lookupswitch.offset ((k, off) :: ps2) d x = Op.lookupswitch.offset ps2 d x := by
              rw [Op.lookupswitch.offset, if_neg (fun e => hx (Eq.symm e))]
            rw [this]; exact r2
def nlT : Instr → Bool
  | .invokevirtual y => !Nat.beq y NM
  | .invokestatic y => !Nat.beq y NM
  | .invokespecial y => !Nat.beq y NM
  | _ => true
theorem nl_ok : PG.all (fun l => l.all (fun q => nlT q.2.1)) = true := by decide +kernel
theorem nl_of {y b : Nat} {q : Blk} (h : blkOf y b = some q) : nlT q.2.1 = true := by
  unfold blkOf at h
  split at h
  · next l hl =>
    rw [gl_get] at hl h
    exact all_of (all_of nl_ok (List.mem_of_getElem? hl)) (List.mem_of_getElem? h)
  · cases h
theorem pg_len : PG.length = NM + 1 := by decide +kernel
theorem run_none {X : Xs} {n d y b : Nat} {s : Fr} {r : Mm × Option AV} {P : Prop} (hy : NM < y) (h : run X n d y b s = some r) : P := by
  cases n with
  | zero => cases h
  | succ n =>
    have h2 : stp X (run X n) d y b s = some r := h
    unfold stp blkOf at h2
    rw [gl_none_of (by rw [pg_len]; omega)] at h2
    cases h2
theorem call_x {o y2 idx : Nat} {v : Bool} (h : callOk o y2 idx v = true) : ∃ kd, mthT o idx = some (y2, kd) := by
  unfold callOk at h
  split at h
  · next y3 kd hm =>
    rw [Bool.and_eq_true] at h
    exact ⟨kd, by rw [hm, Nat.eq_of_beq_eq_true h.1]⟩
  · cases h
theorem arc_w : Cond.native arraycopyName ∈ gT ∧ Cond.static arraycopyName ∈ gT ∧ Cond.initialized "java/lang/System" ∈ gT :=
  ⟨in_gT (at_tb (i := 1058) (by decide +kernel)) rfl, in_gT (at_tb (i := 1057) (by decide +kernel)) rfl, in_gT (at_tb (i := 20) (by decide +kernel)) rfl⟩
section BODY
variable {p : Program} {l : Launch} {e : Env} {R : Room} {s : State} {m : MethodId} {args : Array Value} {below : List Frame} {meth : Method} {c : Code} {H : Heap} {locs : List Loc} {cells slots : Nat} {Q : State → Prop} {g : GP} {X : Xs} {y k0 z0 : Nat} {pc : Nat} {ls : Array Slot} {L : List (Option AV)} {S : List AV} {M : Mm}
/-- a jump that is decided -/
theorem o_if {cd : ClassFile.Cond} {off : Int} {x : Int} {rest : List Value} (hx : p.tables.exec = Jvm.exec) (hb : c.code = yc y) (hd : decode (yc y) pc = .ok (.ifCond cd off, 3)) (hxi : inI x) {q1 q2 : Nat} (h1 : (pc : Int) + off = (q1 : Int)) (h2 : (pc : Int) + 3 = (q2 : Int))
    (k1 : cnd cd x 0 = true → W p l e R s m args below meth c H locs cells slots Q (F0 m q1 ls rest)) (k2 : ¬ cnd cd x 0 = true → W p l e R s m args below meth c H locs cells slots Q (F0 m q2 ls rest)) : W p l e R s m args below meth c H locs cells slots Q (F0 m pc ls (.int (Int32.ofInt x) :: rest)) := by
  have e2 : q2 = pc + 3 := by omega
  subst e2
  have z0 : (0 : Int32) = Int32.ofInt 0 := rfl
  have elt := i_lt hxi in0
  have egt := i_lt in0 hxi
  have ele := i_le hxi in0
  have ege := i_le in0 hxi
  have eeq := i_eq hxi in0
  rw [← z0] at elt egt ele ege eeq
  cases cd with
  | eq => exact lv_if_eq hx hb hd h1 (fun z => k1 (by simp only [cnd, decide_eq_true_eq]; exact eeq.mp z)) (fun z => k2 (by simp only [cnd, decide_eq_true_eq]; exact fun w => z (eeq.mpr w)))
  | ne => exact lv_if_ne hx hb hd h1 (fun z => k1 (by simp only [cnd, Bool.not_eq_true', decide_eq_false_iff_not]; exact fun w => z (eeq.mpr w))) (fun z => k2 (by simp only [cnd, Bool.not_eq_true', decide_eq_false_iff_not]; exact fun w => w (eeq.mp z)))
  | lt => exact lv_if_lt hx hb hd h1 (fun z => k1 (by simp only [cnd, decide_eq_true_eq]; exact elt.mp z)) (fun z => k2 (by simp only [cnd, decide_eq_true_eq]; exact fun w => z (elt.mpr w)))
  | ge => exact lv_if_ge hx hb hd h1 (fun z => k1 (by simp only [cnd, decide_eq_true_eq]; exact ege.mp z)) (fun z => k2 (by simp only [cnd, decide_eq_true_eq]; exact fun w => z (ege.mpr w)))
  | gt => exact lv_if_gt hx hb hd h1 (fun z => k1 (by simp only [cnd, decide_eq_true_eq]; exact egt.mp z)) (fun z => k2 (by simp only [cnd, decide_eq_true_eq]; exact fun w => z (egt.mpr w)))
  | le => exact lv_if_le hx hb hd h1 (fun z => k1 (by simp only [cnd, decide_eq_true_eq]; exact ele.mp z)) (fun z => k2 (by simp only [cnd, decide_eq_true_eq]; exact fun w => z (ele.mpr w)))
theorem o_ic {cd : ClassFile.Cond} {off : Int} {x u : Int} {rest : List Value} (hx : p.tables.exec = Jvm.exec) (hb : c.code = yc y) (hd : decode (yc y) pc = .ok (.if_icmp cd off, 3)) (hxi : inI x) (hui : inI u) {q1 q2 : Nat} (h1 : (pc : Int) + off = (q1 : Int)) (h2 : (pc : Int) + 3 = (q2 : Int))
    (k1 : cnd cd x u = true → W p l e R s m args below meth c H locs cells slots Q (F0 m q1 ls rest)) (k2 : ¬ cnd cd x u = true → W p l e R s m args below meth c H locs cells slots Q (F0 m q2 ls rest)) : W p l e R s m args below meth c H locs cells slots Q (F0 m pc ls (.int (Int32.ofInt u) :: .int (Int32.ofInt x) :: rest)) := by
  have e2 : q2 = pc + 3 := by omega
  subst e2
  have elt := i_lt hxi hui
  have egt := i_lt hui hxi
  have ele := i_le hxi hui
  have ege := i_le hui hxi
  have eeq := i_eq hxi hui
  cases cd with
  | eq => exact lv_icmp_eq hx hb hd h1 (fun z => k1 (by simp only [cnd, decide_eq_true_eq]; exact eeq.mp z)) (fun z => k2 (by simp only [cnd, decide_eq_true_eq]; exact fun w => z (eeq.mpr w)))
  | ne => exact lv_icmp_ne hx hb hd h1 (fun z => k1 (by simp only [cnd, Bool.not_eq_true', decide_eq_false_iff_not]; exact fun w => z (eeq.mpr w))) (fun z => k2 (by simp only [cnd, Bool.not_eq_true', decide_eq_false_iff_not]; exact fun w => w (eeq.mp z)))
  | lt => exact lv_icmp_lt hx hb hd h1 (fun z => k1 (by simp only [cnd, decide_eq_true_eq]; exact elt.mp z)) (fun z => k2 (by simp only [cnd, decide_eq_true_eq]; exact fun w => z (elt.mpr w)))
  | ge => exact lv_icmp_ge hx hb hd h1 (fun z => k1 (by simp only [cnd, decide_eq_true_eq]; exact ege.mp z)) (fun z => k2 (by simp only [cnd, decide_eq_true_eq]; exact fun w => z (ege.mpr w)))
  | gt => exact lv_icmp_gt hx hb hd h1 (fun z => k1 (by simp only [cnd, decide_eq_true_eq]; exact egt.mp z)) (fun z => k2 (by simp only [cnd, decide_eq_true_eq]; exact fun w => z (egt.mpr w)))
  | le => exact lv_icmp_le hx hb hd h1 (fun z => k1 (by simp only [cnd, decide_eq_true_eq]; exact ele.mp z)) (fun z => k2 (by simp only [cnd, decide_eq_true_eq]; exact fun w => z (ele.mpr w)))
set_option maxRecDepth 20000 in
set_option maxHeartbeats 8000000 in
theorem trm_snd {n d : Nat} {t i : Instr} {tg : List Nat} {len : Nat} {M2 : Mm} {r : Option AV} (ih : BodyOK l g X n) (hcl : nlT t = true) (h : trm X (run X n) d y t tg L S M = some (M2, r)) (hy : y ≤ NM) (hd : decode (yc y) pc = .ok (i, len)) (hok : trOk (yo y) y (pcs y) pc t tg i len = true)
    (C : CTX g X y p s m args meth c) (hr : lrel g L ls) (hL : L.length = ml y) (wL : wfL L) (wS : wfS S) (I : INV g s k0 z0 M H locs cells slots) (rc : M2.2.2.length ≤ k0 + R.cells) (rs : ksz M2.2.2 ≤ z0 + R.slots) (rf : d + 1 ≤ R.frames) (rl : 64 * (d + 1) ≤ R.locals)
    (hret : ∀ (pc2 : Nat) (ls2 : Array Slot) (H2 : Heap) (locs2 : List Loc) (cells2 slots2 : Nat) (i : Instr), decode (yc y) pc2 = .ok (i, 1) → retI (rty y) i → ROk (rty y) r → wfO r → INV g s k0 z0 M2 H2 locs2 cells2 slots2 → W p l e R s m args below meth c H2 locs2 cells2 slots2 Q (F0 m pc2 ls2 ((r.map (vv g)).toList))) :
    W p l e R s m args below meth c H locs cells slots Q (F0 m pc ls (S.map (vv g))) := by
  have hx := C.1
  have hb := C.2.1
  have hE := C.2.2.2.2.2.2.1
  have hXX := C.2.2.2.2.2.2.2.2
  have hs : ls.size = ml y := by rw [hr.1, hL]
  have hP := I.1
  have hD := I.2.1
  have hS := I.2.2.1
  have hw := I.2.2.2.1
  have go : ∀ {b q : Nat} {L2 : List (Option AV)} {S2 : List AV} {M3 : Mm} {H3 : Heap} {locs3 : List Loc} {ls3 : Array Slot} {cells3 slots3 : Nat}, run X n d y b (L2, S2, M3) = some (M2, r) → gl (pcs y) b = some q → lrel g L2 ls3 → L2.length = ml y → wfL L2 → wfS S2 → INV g s k0 z0 M3 H3 locs3 cells3 slots3 → W p l e R s m args below meth c H3 locs3 cells3 slots3 Q (F0 m q ls3 (S2.map (vv g))) :=
    fun h1 h2 h3 h4 h5 h6 h7 => ih d y _ _ _ _ M2 r h1 hy _ h2 C h3 h4 h5 h6 h7 rc rs rf rl hret
  have invU : ∀ {id nn ka : Nat} {k : Nat} {v : Int} {H3 : Heap} {locs3 : List Loc}, gl M.2.2 id = some (ka, nn) → (ka = 100 ∨ ka = 102 ∨ ka = 103) → inI v → va_P (gD g) vwCl ((wld g M).set id (g.1 + id, ent g (up M.1 id k v, M.2.1, M.2.2) id (ka, nn))) H3 → va_S (Afn g) s.heap H3 locs3 → INV g s k0 z0 (up M.1 id k v, M.2.1, M.2.2) H3 locs3 cells slots :=
    fun h1 h2 h3 h4 h5 => inv_set (M2 := (up M.1 _ _ _, M.2.1, M.2.2)) I h1 rfl (fun i k hi => up_off k hi) rfl (wfM_up2 hw h1 h2 h3) h4 h5
  unfold trm at h
  split at h
  · unfold trOk at hok
    dsimp only at hok
    split at hok
    · rw [Bool.and_eq_true] at hok
      obtain ⟨q, q1, q2⟩ := goTo_x hok.2
      have := Nat.eq_of_beq_eq_true hok.1
      subst this
      exact lv_goto hx hb hd q2 (go h q1 hr hL wL wS I)
    · cases hok
  · unfold trOk at hok
    dsimp only at hok
    cases hok
  · split at h
    · unfold trOk at hok
      dsimp only at hok
      split at hok
      · rw [Bool.and_eq_true, Bool.and_eq_true, Bool.and_eq_true] at hok
        obtain ⟨⟨e1, e2⟩, e3, e4⟩ := hok
        have e1 := Nat.eq_of_beq_eq_true e1
        have e2 := of_decide_eq_true e2
        subst e1; subst e2
        obtain ⟨q, q1, q2⟩ := goTo_x e3
        obtain ⟨r2, r3, r4⟩ := goTo_x e4
        have w1 := wfS_c wS
        exact o_if hx hb hd w1.1 q2 r4 (fun z => by rw [if_pos z] at h; exact go h q1 hr hL wL w1.2 I) (fun z => by rw [if_neg z] at h; exact go h r3 hr hL wL w1.2 I)
      · cases hok
    · cases h
  · split at h
    · unfold trOk at hok
      dsimp only at hok
      split at hok
      · rw [Bool.and_eq_true, Bool.and_eq_true, Bool.and_eq_true] at hok
        obtain ⟨⟨e1, e2⟩, e3, e4⟩ := hok
        have e1 := Nat.eq_of_beq_eq_true e1
        have e2 := of_decide_eq_true e2
        subst e1; subst e2
        obtain ⟨q, q1, q2⟩ := goTo_x e3
        obtain ⟨r2, r3, r4⟩ := goTo_x e4
        have w1 := wfS_c wS
        have w2 := wfS_c w1.2
        exact o_ic hx hb hd w2.1 w1.1 q2 r4 (fun z => by rw [if_pos z] at h; exact go h q1 hr hL wL w2.2 I) (fun z => by rw [if_neg z] at h; exact go h r3 hr hL wL w2.2 I)
      · cases hok
    · cases h
  · rename_i lo9 hi9 os9
    split at h
    · next x S1 =>
      unfold trOk at hok
      dsimp only at hok
      split at hok
      · next dd lo2 hi2 offs =>
        rw [Bool.and_eq_true, Bool.and_eq_true, Bool.and_eq_true, decide_eq_true_eq, decide_eq_true_eq] at hok
        obtain ⟨⟨e1, e2⟩, e3, e4⟩ := hok
        rw [← e1, ← e2] at hd
        have w1 := wfS_c wS
        by_cases hout : x < lo9 ∨ hi9 < x
        · rw [if_pos hout] at h
          obtain ⟨q, q1, q2⟩ := goTo_x e3
          exact lv_tableOut hx hb hd (by rw [i_toInt w1.1]; exact hout) q2 (go h q1 hr hL wL w1.2 I)
        · rw [if_neg hout] at h
          have e5 := all_of e4 (a := (x - lo9).toNat) (List.mem_range.mpr (by omega))
          split at e5
          · next off ho =>
            obtain ⟨q, q1, q2⟩ := goTo_x e5
            exact lv_tableIn hx hb hd (by rw [i_toInt w1.1]; omega) (by rw [i_toInt w1.1]; omega) (by rw [i_toInt w1.1]; exact ho) q2 (go h q1 hr hL wL w1.2 I)
          · cases e5
      · cases hok
    · cases h
  · split at h
    · next x S1 =>
      unfold trOk at hok
      dsimp only at hok
      split at hok
      · next dd ps2 =>
        rw [Bool.and_eq_true, Bool.and_eq_true] at hok
        obtain ⟨e3, e4, e5⟩ := hok
        have w1 := wfS_c wS
        obtain ⟨q, q1, q2⟩ := luk_x (pcs := pcs y) x dd (tb tg 0) (goTo_x e3) _ _ _ e4
        refine lv_lookup hx hb hd (by simpa using e5) rfl ?_ (go h q1 hr hL wL w1.2 I)
        rw [i_toInt w1.1]; exact q2
      · cases hok
    · cases h
  · split at h
    · cases h
      unfold trOk at hok
      dsimp only at hok
      rw [Bool.and_eq_true, Bool.and_eq_true, decide_eq_true_eq] at hok
      obtain ⟨e1, e2, e3⟩ := hok
      have e1 := Nat.eq_of_beq_eq_true e1
      have e2 := Nat.eq_of_beq_eq_true e2
      subst e2; subst e3
      exact hret _ _ _ _ _ _ _ hd (by rw [e1]; rfl) (by rw [e1]; exact trivial) (fun v hv => by cases hv; exact (wfS_c wS).1) I
    · cases h
  · split at h
    · next x =>
      split at h
      · next hb1 =>
        cases h
        unfold trOk at hok
        dsimp only at hok
        rw [Bool.and_eq_true, Bool.and_eq_true, decide_eq_true_eq] at hok
        obtain ⟨e1, e2, e3⟩ := hok
        have e1 := Nat.eq_of_beq_eq_true e1
        have e2 := Nat.eq_of_beq_eq_true e2
        subst e2; subst e3
        have hx01 : x = 0 ∨ x = 1 := by
          unfold isB at hb1
          rw [Bool.or_eq_true] at hb1
          exact hb1.imp (fun z => eq_of_beq z) (fun z => eq_of_beq z)
        exact hret _ _ _ _ _ _ _ hd (by rw [e1]; rfl) (by rw [e1]; exact hx01) (fun v hv => by cases hv; exact (wfS_c wS).1) I
      · cases h
    · cases h
  · split at h
    · next x =>
      split at h
      · next hb1 =>
        cases h
        unfold trOk at hok
        dsimp only at hok
        rw [Bool.and_eq_true, Bool.and_eq_true, decide_eq_true_eq] at hok
        obtain ⟨e1, e2, e3⟩ := hok
        have e1 := Nat.eq_of_beq_eq_true e1
        have e2 := Nat.eq_of_beq_eq_true e2
        subst e2; subst e3
        exact hret _ _ _ _ _ _ _ hd (by rw [e1]; rfl) (by rw [e1]; exact hb1) (fun v hv => by cases hv; exact (wfS_c wS).1) I
      · cases h
    · cases h
  · split at h
    · cases h
      unfold trOk at hok
      dsimp only at hok
      rw [Bool.and_eq_true, Bool.and_eq_true, decide_eq_true_eq] at hok
      obtain ⟨e1, e2, e3⟩ := hok
      have e1 := Nat.eq_of_beq_eq_true e1
      have e2 := Nat.eq_of_beq_eq_true e2
      subst e2; subst e3
      exact hret _ _ _ _ _ _ _ hd (by rw [e1]; rfl) (by rw [e1]; exact trivial) (fun v hv => by cases hv; exact (wfS_c wS).1) I
    · cases h
  · split at h
    · cases h
      unfold trOk at hok
      dsimp only at hok
      rw [Bool.and_eq_true, Bool.and_eq_true, decide_eq_true_eq] at hok
      obtain ⟨e1, e2, e3⟩ := hok
      have e1 := Nat.eq_of_beq_eq_true e1
      have e2 := Nat.eq_of_beq_eq_true e2
      subst e2; subst e3
      exact hret _ _ _ _ _ _ _ hd (by rw [e1]; rfl) (by rw [e1]; exact trivial) (fun v hv => by cases hv; exact (wfS_c wS).1) I
    · cases h
  · split at h
    · cases h
      unfold trOk at hok
      dsimp only at hok
      rw [Bool.and_eq_true, Bool.and_eq_true, decide_eq_true_eq] at hok
      obtain ⟨e1, e2, e3⟩ := hok
      have e1 := Nat.eq_of_beq_eq_true e1
      have e2 := Nat.eq_of_beq_eq_true e2
      subst e2; subst e3
      exact hret _ _ _ _ _ _ _ hd (by rw [e1]; rfl) (by rw [e1]; exact trivial) (fun v hv => by cases hv) I
    · cases h
  · split at h
    · next ii a S1 =>
      split at h
      · next ha =>
        obtain ⟨id, nn, rfl, hk, i0, i1⟩ := aidx_x ha
        unfold trOk at hok
        dsimp only at hok
        rw [Bool.and_eq_true, Bool.and_eq_true, decide_eq_true_eq] at hok
        obtain ⟨⟨e1, e2⟩, e3⟩ := hok
        have e1 := Nat.eq_of_beq_eq_true e1
        subst e1; subst e3
        obtain ⟨q, q1, q2⟩ := goTo_x e2
        have q2 : q = pc + 1 := by omega
        subst q2
        have w1 := wfS_c wS
        have hat := wld_at (g := g) hk
        rw [ent_int] at hat
        refine va_iald hx hb hE.1 hP id 0 hat rfl (vpin w1.1 i0 i1) hd ?_
        have hrng := ((hw id _ hk).2 ii.toNat)
        have kk := go h q1 hr hL wL (wfS_i (v := .inl (M.1 id ii.toNat)) (hrng.2 (by unfold cellL; dsimp only; omega)) (wfS_c w1.2).2) I
        try dsimp only
        rw [i_cl w1.1]
        exact kk
      · cases h
    · cases h
  · split at h
    · next ii a S1 =>
      split at h
      · next ha =>
        obtain ⟨id, nn, rfl, hk, i0, i1⟩ := aidx_x ha
        unfold trOk at hok
        dsimp only at hok
        rw [Bool.and_eq_true, Bool.and_eq_true, decide_eq_true_eq] at hok
        obtain ⟨⟨e1, e2⟩, e3⟩ := hok
        have e1 := Nat.eq_of_beq_eq_true e1
        subst e1; subst e3
        obtain ⟨q, q1, q2⟩ := goTo_x e2
        have q2 : q = pc + 1 := by omega
        subst q2
        have w1 := wfS_c wS
        have hat := wld_at (g := g) hk
        rw [ent_long] at hat
        refine va_lald hx hb hE.1 hP id 1 hat rfl (vpin w1.1 i0 i1) hd ?_
        have hrng := ((hw id _ hk).2 ii.toNat)
        have kk := go h q1 hr hL wL (wfS_i (v := .inr (.inl (M.1 id ii.toNat))) (hrng.1 (Or.inl rfl)) (wfS_c w1.2).2) I
        try dsimp only
        rw [i_cl w1.1]
        exact kk
      · cases h
    · cases h
  · split at h
    · next ii a S1 =>
      split at h
      · next ha =>
        obtain ⟨id, nn, rfl, hk, i0, i1⟩ := aidx_x ha
        unfold trOk at hok
        dsimp only at hok
        rw [Bool.and_eq_true, Bool.and_eq_true, decide_eq_true_eq] at hok
        obtain ⟨⟨e1, e2⟩, e3⟩ := hok
        have e1 := Nat.eq_of_beq_eq_true e1
        subst e1; subst e3
        obtain ⟨q, q1, q2⟩ := goTo_x e2
        have q2 : q = pc + 1 := by omega
        subst q2
        have w1 := wfS_c wS
        have hat := wld_at (g := g) hk
        rw [ent_short] at hat
        refine va_sald hx hb hE.1 hP id 2 hat rfl (vpin w1.1 i0 i1) hd ?_
        have hrng := ((hw id _ hk).2 ii.toNat)
        have kk := go h q1 hr hL wL (wfS_i (v := .inl (M.1 id ii.toNat)) (hrng.2 (by unfold cellL; dsimp only; omega)) (wfS_c w1.2).2) I
        try dsimp only
        rw [i_cl w1.1]
        exact kk
      · cases h
    · cases h
  · split at h
    · next ii a S1 =>
      split at h
      · next v hv =>
        split at h
        · next hc =>
          unfold trOk at hok
          dsimp only at hok
          rw [Bool.and_eq_true, Bool.and_eq_true, decide_eq_true_eq] at hok
          obtain ⟨⟨e1, e2⟩, e3⟩ := hok
          have e1 := Nat.eq_of_beq_eq_true e1
          subst e1; subst e3
          obtain ⟨q, q1, q2⟩ := goTo_x e2
          have q2 : q = pc + 1 := by omega
          subst q2
          have w1 := wfS_c wS
          have hj : a - 40 < 13 := by
            rcases Nat.lt_or_ge (a - 40) 13 with z | z
            · exact z
            · have : SBY.getD (a - 40) [] = [] := by rw [List.getD_eq_getElem?_getD, List.getElem?_eq_none (by exact z)]; rfl
              rw [this] at hv; cases hv
          obtain ⟨l3, f1, f2, f3, f4, f5⟩ := sby_all (a - 40) hj
          obtain ⟨-, -, -, hT⟩ := hE.2.2.2.1.1 (a - 40) hj
          have hl3 : SBY.getD (a - 40) [] = l3 := by rw [List.getD_eq_getElem?_getD, ← gl_get, f1]; rfl
          rw [hl3] at hv
          dsimp only at hT
          rw [f2, f3, show 40 + (a - 40) = a by omega] at hT
          have hlt := gl_lt hv
          have hvin : inI v := by
            have := all_of f5 (a := v) (by rw [gl_get] at hv; exact List.mem_of_getElem? hv)
            rw [Bool.and_eq_true, decide_eq_true_eq, decide_eq_true_eq] at this
            unfold inI; omega
          have ex9 : vv g (.inr (.inr (.inr a))) = .ref (g.2.1 a) := xv_ref g (by omega)
          rw [List.map_cons, List.map_cons, ex9]
          refine va_tb (i := Int32.ofInt ii) hx hb hT hS (vpin w1.1 hc.2 (by omega)) (v := .int (Int32.ofInt v)) ?_ hd (go h q1 hr hL wL (wfS_i (v := .inl v) hvin (wfS_c w1.2).2) I)
          rw [i_cl w1.1, List.getD_eq_getElem?_getD, List.getElem?_map, ← gl_get, hv]; rfl
        · cases h
      · cases h
    · next ii a S1 =>
      split at h
      · next ha =>
        obtain ⟨id, nn, rfl, hk, i0, i1⟩ := aidx_x ha
        unfold trOk at hok
        dsimp only at hok
        rw [Bool.and_eq_true, Bool.and_eq_true, decide_eq_true_eq] at hok
        obtain ⟨⟨e1, e2⟩, e3⟩ := hok
        have e1 := Nat.eq_of_beq_eq_true e1
        subst e1; subst e3
        obtain ⟨q, q1, q2⟩ := goTo_x e2
        have q2 : q = pc + 1 := by omega
        subst q2
        have w1 := wfS_c wS
        have hat := wld_at (g := g) hk
        rw [ent_bool] at hat
        refine va_zald hx hb hE.1 hP id 3 hat rfl (vpin w1.1 i0 i1) hd ?_
        have hrng := ((hw id _ hk).2 ii.toNat)
        have kk := go h q1 hr hL wL (wfS_i (v := .inl (M.1 id ii.toNat)) (hrng.2 (by unfold cellL; dsimp only; omega)) (wfS_c w1.2).2) I
        try dsimp only
        rw [i_cl w1.1]
        exact kk
      · cases h
    · cases h
  · split at h
    · next ii S1 =>
      split at h
      · next hc =>
        unfold trOk at hok
        dsimp only at hok
        rw [Bool.and_eq_true, Bool.and_eq_true, decide_eq_true_eq] at hok
        obtain ⟨⟨e1, e2⟩, e3⟩ := hok
        have e1 := Nat.eq_of_beq_eq_true e1
        subst e1; subst e3
        obtain ⟨q, q1, q2⟩ := goTo_x e2
        have q2 : q = pc + 1 := by omega
        subst q2
        have w1 := wfS_c wS
        have hX3 := hE.2.2.2.2.2.2
        refine va_sld hx hb hX3.1 hX3.2.1 (Nat.not_le.mpr hX3.2.2) hS (vpin w1.1 hc.1 hc.2) hd ?_
        have kk := go h q1 hr hL wL (wfS_i (v := .inl (X.2 ii.toNat)) (hXX.2 _) (wfS_c w1.2).2) I
        try dsimp only
        rw [i_cl w1.1]
        exact kk
      · cases h
    · cases h
  · split at h
    · next v ii a S1 =>
      split at h
      · next ha =>
        obtain ⟨id, nn, rfl, hk, i0, i1⟩ := aidx_x ha
        unfold trOk at hok
        dsimp only at hok
        rw [Bool.and_eq_true, Bool.and_eq_true, decide_eq_true_eq] at hok
        obtain ⟨⟨e1, e2⟩, e3⟩ := hok
        have e1 := Nat.eq_of_beq_eq_true e1
        subst e1; subst e3
        obtain ⟨q, q1, q2⟩ := goTo_x e2
        have q2 : q = pc + 1 := by omega
        subst q2
        have w1 := wfS_c wS
        have w2 := wfS_c w1.2
        have hat := wld_at (g := g) hk
        rw [ent_int] at hat
        refine va_iast hx hb hE.1 hP hD hS id 0 hat rfl (vpin w2.1 i0 i1) hd (fun H1 locs1 g1 g2 g3 => ?_)
        refine go h q1 hr hL wL (wfS_c w2.2).2 ?_
        refine invU hk (by omega) w1.1 ?_ g3
        rw [ent_int]
        have ef : (fun z => Int32.ofInt (up M.1 id ii.toNat v id z)) = upd (fun z => Int32.ofInt (M.1 id z)) (Int32.ofInt ii).toNatClampNeg (Int32.ofInt v) := by
          funext z
          unfold upd
          rw [i_cl w2.1, up_on]
          by_cases hz : z = ii.toNat
          · rw [if_pos hz, if_pos hz]
          · rw [if_neg hz, if_neg hz]
        have g1' := g1
        rw [← ef] at g1'
        exact g1'
      · cases h
    · cases h
  · split at h
    · next v ii a S1 =>
      split at h
      · next ha =>
        obtain ⟨id, nn, rfl, hk, i0, i1⟩ := aidx_x ha
        unfold trOk at hok
        dsimp only at hok
        rw [Bool.and_eq_true, Bool.and_eq_true, decide_eq_true_eq] at hok
        obtain ⟨⟨e1, e2⟩, e3⟩ := hok
        have e1 := Nat.eq_of_beq_eq_true e1
        subst e1; subst e3
        obtain ⟨q, q1, q2⟩ := goTo_x e2
        have q2 : q = pc + 1 := by omega
        subst q2
        have w1 := wfS_c wS
        have w2 := wfS_c w1.2
        have hat := wld_at (g := g) hk
        rw [ent_long] at hat
        refine va_last hx hb hE.1 hP hD hS id 1 hat rfl (vpin w2.1 i0 i1) hd (fun H1 locs1 g1 g2 g3 => ?_)
        refine go h q1 hr hL wL (wfS_c w2.2).2 ?_
        refine inv_set (M2 := (up M.1 id ii.toNat v, M.2.1, M.2.2)) I hk rfl (fun i k hi => up_off k hi) rfl (wfM_up hw hk ⟨fun _ => w1.1, fun z => absurd (Or.inl rfl) z⟩) ?_ g3
        rw [ent_long]
        have ef : (fun z => Int64.ofInt (up M.1 id ii.toNat v id z)) = vp_updL (fun z => Int64.ofInt (M.1 id z)) (Int32.ofInt ii).toNatClampNeg (Int64.ofInt v) := by
          funext z
          unfold vp_updL
          rw [i_cl w2.1, up_on]
          by_cases hz : z = ii.toNat
          · rw [if_pos hz, if_pos hz]
          · rw [if_neg hz, if_neg hz]
        have g1' := g1
        rw [← ef] at g1'
        exact g1'
      · cases h
    · cases h
  · split at h
    · next v ii a S1 =>
      split at h
      · next ha =>
        obtain ⟨id, nn, rfl, hk, i0, i1⟩ := aidx_x ha
        unfold trOk at hok
        dsimp only at hok
        rw [Bool.and_eq_true, Bool.and_eq_true, decide_eq_true_eq] at hok
        obtain ⟨⟨e1, e2⟩, e3⟩ := hok
        have e1 := Nat.eq_of_beq_eq_true e1
        subst e1; subst e3
        obtain ⟨q, q1, q2⟩ := goTo_x e2
        have q2 : q = pc + 1 := by omega
        subst q2
        have w1 := wfS_c wS
        have w2 := wfS_c w1.2
        have hat := wld_at (g := g) hk
        rw [ent_short] at hat
        refine va_sast hx hb hE.1 hP hD hS id 2 hat rfl (vpin w2.1 i0 i1) hd (fun H1 locs1 g1 g2 g3 => ?_)
        refine go h q1 hr hL wL (wfS_c w2.2).2 ?_
        refine invU hk (by omega) (w16_in v) ?_ g3
        rw [ent_short]
        have ef : (fun z => Int32.ofInt (up M.1 id ii.toNat (w16 v) id z)) = upd (fun z => Int32.ofInt (M.1 id z)) (Int32.ofInt ii).toNatClampNeg (vp_nar .short (Int32.ofInt v)) := by
          funext z
          unfold upd
          rw [i_cl w2.1, up_on]
          by_cases hz : z = ii.toNat
          · rw [if_pos hz, if_pos hz]; rw [vp_nar_short, i_i16]
          · rw [if_neg hz, if_neg hz]
        have g1' := g1
        rw [← ef] at g1'
        exact g1'
      · cases h
    · cases h
  · split at h
    · next v ii a S1 =>
      split at h
      · next ha =>
        obtain ⟨ha, hbv⟩ := ha
        obtain ⟨id, nn, rfl, hk, i0, i1⟩ := aidx_x ha
        unfold trOk at hok
        dsimp only at hok
        rw [Bool.and_eq_true, Bool.and_eq_true, decide_eq_true_eq] at hok
        obtain ⟨⟨e1, e2⟩, e3⟩ := hok
        have e1 := Nat.eq_of_beq_eq_true e1
        subst e1; subst e3
        obtain ⟨q, q1, q2⟩ := goTo_x e2
        have q2 : q = pc + 1 := by omega
        subst q2
        have w1 := wfS_c wS
        have w2 := wfS_c w1.2
        have hat := wld_at (g := g) hk
        rw [ent_bool] at hat
        refine va_zast hx hb hE.1 hP hD hS id 3 hat rfl (vpin w2.1 i0 i1) hd (fun H1 locs1 g1 g2 g3 => ?_)
        refine go h q1 hr hL wL (wfS_c w2.2).2 ?_
        have hx01 : v = 0 ∨ v = 1 := by
          unfold isB at hbv
          rw [Bool.or_eq_true] at hbv
          exact hbv.imp (fun z => eq_of_beq z) (fun z => eq_of_beq z)
        refine invU hk (by omega) w1.1 ?_ g3
        rw [ent_bool]
        have ef : (fun z => Int32.ofInt (up M.1 id ii.toNat v id z)) = upd (fun z => Int32.ofInt (M.1 id z)) (Int32.ofInt ii).toNatClampNeg (vp_nar .boolean (Int32.ofInt v)) := by
          funext z
          unfold upd
          rw [i_cl w2.1, up_on]
          by_cases hz : z = ii.toNat
          · rw [if_pos hz, if_pos hz]; rcases hx01 with rfl | rfl <;> rfl
          · rw [if_neg hz, if_neg hz]
        have g1' := g1
        rw [← ef] at g1'
        exact g1'
      · cases h
    · cases h
  · split at h
    · next a S1 =>
      split at h
      · next v hv =>
        obtain ⟨id, q9, rfl, hk, hk1, rfl⟩ := alen_x hv
        unfold trOk at hok
        dsimp only at hok
        rw [Bool.and_eq_true, Bool.and_eq_true, decide_eq_true_eq] at hok
        obtain ⟨⟨e1, e2⟩, e3⟩ := hok
        have e1 := Nat.eq_of_beq_eq_true e1
        subst e1; subst e3
        obtain ⟨q, q1, q2⟩ := goTo_x e2
        have q2 : q = pc + 1 := by omega
        subst q2
        have w1 := wfS_c wS
        have hat := wld_at (g := g) hk
        have hw9 := (hw id q9 hk).1
        have hin : inI (q9.2 : Int) := ⟨by omega, by omega⟩
        have kk := go h q1 hr hL wL (wfS_i (v := .inl (q9.2 : Int)) hin w1.2) I
        have hkd : q9.1 = 100 ∨ q9.1 = 101 ∨ q9.1 = 102 ∨ q9.1 = 103 := by omega
        obtain ⟨qk, qn⟩ := q9
        dsimp only at hkd hat kk
        rcases hkd with rfl | rfl | rfl | rfl
        · rw [ent_int] at hat; exact va_alen hx hb hE.1 hP id 0 hat rfl (i_ofNat _) hd kk
        · rw [ent_long] at hat; exact va_alen hx hb hE.1 hP id 1 hat rfl (i_ofNat _) hd kk
        · rw [ent_short] at hat; exact va_alen hx hb hE.1 hP id 2 hat rfl (i_ofNat _) hd kk
        · rw [ent_bool] at hat; exact va_alen hx hb hE.1 hP id 3 hat rfl (i_ofNat _) hd kk
      · cases h
    · cases h
  · split at h
    · split at h
      · cases h
      · next hne =>
        unfold trOk at hok
        dsimp only at hok
        rw [Bool.and_eq_true, Bool.and_eq_true, decide_eq_true_eq] at hok
        obtain ⟨⟨e1, e2⟩, e3⟩ := hok
        have e1 := Nat.eq_of_beq_eq_true e1
        subst e1; subst e3
        obtain ⟨q, q1, q2⟩ := goTo_x e2
        have q2 : q = pc + 1 := by omega
        subst q2
        have w1 := wfS_c wS
        have w2 := wfS_c w1.2
        refine lv_idiv hx hb hd (fun z => hne ((i_eq w1.1 in0).mp z)) ?_
        rw [i_div w2.1 w1.1]
        exact go h q1 hr hL wL (wfS_i (v := .inl _) (w32_in _) w2.2) I
    · cases h
  · split at h
    · split at h
      · cases h
      · next hne =>
        unfold trOk at hok
        dsimp only at hok
        rw [Bool.and_eq_true, Bool.and_eq_true, decide_eq_true_eq] at hok
        obtain ⟨⟨e1, e2⟩, e3⟩ := hok
        have e1 := Nat.eq_of_beq_eq_true e1
        subst e1; subst e3
        obtain ⟨q, q1, q2⟩ := goTo_x e2
        have q2 : q = pc + 1 := by omega
        subst q2
        have w1 := wfS_c wS
        have w2 := wfS_c w1.2
        refine lv_irem hx hb hd (fun z => hne ((i_eq w1.1 in0).mp z)) ?_
        rw [i_rem w2.1 w1.1]
        exact go h q1 hr hL wL (wfS_i (v := .inl _) (tmod_in w2.1) w2.2) I
    · cases h
  · split at h
    · split at h
      · cases h
      · next hne =>
        unfold trOk at hok
        dsimp only at hok
        rw [Bool.and_eq_true, Bool.and_eq_true, decide_eq_true_eq] at hok
        obtain ⟨⟨e1, e2⟩, e3⟩ := hok
        have e1 := Nat.eq_of_beq_eq_true e1
        subst e1; subst e3
        obtain ⟨q, q1, q2⟩ := goTo_x e2
        have q2 : q = pc + 1 := by omega
        subst q2
        have w1 := wfS_c wS
        have w2 := wfS_c w1.2
        refine lv_ldiv hx hb hd (fun z => hne ((j_eq w1.1 (by unfold inJ; omega)).mp z)) ?_
        rw [j_div w2.1 w1.1]
        exact go h q1 hr hL wL (wfS_i (v := .inr (.inl _)) (w64_in _) w2.2) I
    · cases h
  · split at h
    · split at h
      · split at h
        · next hc =>
          unfold trOk at hok
          dsimp only at hok
          split at hok
          · next idx =>
            rw [Bool.and_eq_true, Bool.and_eq_true] at hok
            obtain ⟨⟨e1, e2⟩, e3⟩ := hok
            have e1 := Nat.eq_of_beq_eq_true e1
            subst e1
            obtain ⟨q, q1, q2⟩ := goTo_x e2
            have q2 : q = pc + 3 := by omega
            subst q2
            have w1 := wfS_c wS
            have w2 := wfS_c w1.2
            have hgr := (run_Gr X _ _ _ _ _ _ h).len
            dsimp only at hgr
            have hn1 := I.2.2.2.2.2.1
            have hn2 := I.2.2.2.2.2.2
            refine o_math (k := 1) (g := g) C hd e3 hs (by rw [cat_sum]; exact hc.2) (by omega) (by omega) (by omega) (by omega) (Or.inl ⟨rfl, _, _, rfl, rfl, w2.1, w1.1, rfl⟩) (go h q1 hr hL wL (wfS_i (v := .inl (max _ _)) (by have a1 := w1.1; have a2 := w2.1; show inI _; unfold wfV inI at *; omega) w2.2) I)
          · cases hok
        · cases h
      · cases h
    · split at h
      · split at h
        · next hc =>
          unfold trOk at hok
          dsimp only at hok
          split at hok
          · next idx =>
            rw [Bool.and_eq_true, Bool.and_eq_true] at hok
            obtain ⟨⟨e1, e2⟩, e3⟩ := hok
            have e1 := Nat.eq_of_beq_eq_true e1
            subst e1
            obtain ⟨q, q1, q2⟩ := goTo_x e2
            have q2 : q = pc + 3 := by omega
            subst q2
            have w1 := wfS_c wS
            have w2 := wfS_c w1.2
            have hgr := (run_Gr X _ _ _ _ _ _ h).len
            dsimp only at hgr
            have hn1 := I.2.2.2.2.2.1
            have hn2 := I.2.2.2.2.2.2
            refine o_math (k := 2) (g := g) C hd e3 hs (by rw [cat_sum]; exact hc.2) (by omega) (by omega) (by omega) (by omega) (Or.inr (Or.inl ⟨rfl, _, _, rfl, rfl, w2.1, w1.1, rfl⟩)) (go h q1 hr hL wL (wfS_i (v := .inl (min _ _)) (by have a1 := w1.1; have a2 := w2.1; show inI _; unfold wfV inI at *; omega) w2.2) I)
          · cases hok
        · cases h
      · cases h
    · split at h
      · split at h
        · next hc =>
          unfold trOk at hok
          dsimp only at hok
          split at hok
          · next idx =>
            rw [Bool.and_eq_true, Bool.and_eq_true] at hok
            obtain ⟨⟨e1, e2⟩, e3⟩ := hok
            have e1 := Nat.eq_of_beq_eq_true e1
            subst e1
            obtain ⟨q, q1, q2⟩ := goTo_x e2
            have q2 : q = pc + 3 := by omega
            subst q2
            have w1 := wfS_c wS
            have w2 := wfS_c w1.2
            have hgr := (run_Gr X _ _ _ _ _ _ h).len
            dsimp only at hgr
            have hn1 := I.2.2.2.2.2.1
            have hn2 := I.2.2.2.2.2.2
            refine o_math (k := 3) (g := g) C hd e3 hs (by rw [cat_sum]; exact hc.2) (by omega) (by omega) (by omega) (by omega) (Or.inr (Or.inr (Or.inl ⟨rfl, _, _, rfl, rfl, w2.1, w1.1, rfl⟩))) (go h q1 hr hL wL (wfS_i (v := .inr (.inl (max _ _))) (by have a1 := w1.1; have a2 := w2.1; show inJ _; unfold wfV inJ at *; omega) w2.2) I)
          · cases hok
        · cases h
      · cases h
    · split at h
      · split at h
        · next hc =>
          unfold trOk at hok
          dsimp only at hok
          split at hok
          · next idx =>
            rw [Bool.and_eq_true, Bool.and_eq_true] at hok
            obtain ⟨⟨e1, e2⟩, e3⟩ := hok
            have e1 := Nat.eq_of_beq_eq_true e1
            subst e1
            obtain ⟨q, q1, q2⟩ := goTo_x e2
            have q2 : q = pc + 3 := by omega
            subst q2
            have w1 := wfS_c wS
            have w2 := wfS_c w1.2
            have hgr := (run_Gr X _ _ _ _ _ _ h).len
            dsimp only at hgr
            have hn1 := I.2.2.2.2.2.1
            have hn2 := I.2.2.2.2.2.2
            refine o_math (k := 4) (g := g) C hd e3 hs (by rw [cat_sum]; exact hc.2) (by omega) (by omega) (by omega) (by omega) (Or.inr (Or.inr (Or.inr ⟨rfl, _, _, rfl, rfl, w2.1, w1.1, rfl⟩))) (go h q1 hr hL wL (wfS_i (v := .inr (.inl (min _ _))) (by have a1 := w1.1; have a2 := w2.1; show inJ _; unfold wfV inJ at *; omega) w2.2) I)
          · cases hok
        · cases h
      · cases h
    · split at h
      · next kk9 dp qq sp pp S1 =>
        split at h
        · next hc =>
          obtain ⟨c1, c2, c3, c4, c5, c6, c8, c9⟩ := hc
          unfold trOk at hok
          dsimp only at hok
          split at hok
          · next idx =>
            rw [Bool.and_eq_true, Bool.and_eq_true] at hok
            obtain ⟨⟨e1, e2⟩, e3⟩ := hok
            have e1 := Nat.eq_of_beq_eq_true e1
            subst e1
            obtain ⟨q, q1, q2⟩ := goTo_x e2
            have q2 : q = pc + 3 := by omega
            subst q2
            have w1 := wfS_c wS
            have w2 := wfS_c w1.2
            have w3 := wfS_c w2.2
            have w4 := wfS_c w3.2
            have w5 := wfS_c w4.2
            obtain ⟨id0, n0, rfl, hk0, i0, i1⟩ := aidx_x c8
            obtain ⟨id1, n1, rfl, hk1, j0, j1⟩ := aidx_x c9
            have hat0 := wld_at (g := g) hk0
            have hat1 := wld_at (g := g) hk1
            rw [ent_int] at hat0 hat1
            have rk : inI kk9 := w1.1
            have rdp : inI dp := w2.1
            have rsp : inI sp := w4.1
            have hml := C.2.2.1
            have hown := C.2.2.2.1
            have hts := C.2.2.2.2.1
            have z0 : (0 : Int32) = Int32.ofInt 0 := rfl
            refine va_copyi (a := g.1 + id1) (a0 := g.1 + id0) hx hb (by rw [hml, hs]) hown (hts _ (arcT_w e3)) (hts _ arc_w.1) (hts _ arc_w.2.1) (hts _ arc_w.2.2) hE.1 hP hD hS id0 id1 0 0 hat0 hat1 rfl rfl rfl (by rw [z0, i_lt rsp in0]; omega) (by rw [z0, i_lt rdp in0]; omega) (by rw [z0, i_lt rk in0]; omega) (by rw [i_cl rsp, i_cl rk]; omega) (by rw [i_cl rdp, i_cl rk]; omega) (fun _ _ => rfl) (by omega) ?_ hd (fun H1 locs1 g1 g2 g3 => ?_)
            · have h40 : nativeFrameWords "java/lang/System" "arraycopy" 5 + 11 ≤ 100 := by decide +kernel
              rw [cat_sum]
              omega
            · refine go h q1 hr hL wL w5.2 ?_
              rw [i_cl rsp, i_cl rdp, i_cl rk] at g1
              have hw3 : wfM (upR M.1 (id1 + 1 - 1) (cpy (M.1 (id0 + 1 - 1)) (M.1 (id1 + 1 - 1)) sp.toNat dp.toNat kk9.toNat), M.2.1, M.2.2) := by
                intro i9 r9 hr9
                refine ⟨(hw i9 r9 hr9).1, fun j9 => ?_⟩
                show (_ → inJ (upR M.1 id1 (cpy (M.1 id0) (M.1 id1) sp.toNat dp.toNat kk9.toNat) i9 j9)) ∧ (_ → inI (upR M.1 id1 (cpy (M.1 id0) (M.1 id1) sp.toNat dp.toNat kk9.toNat) i9 j9))
                unfold upR
                by_cases e9 : i9 = id1
                · subst e9
                  have hr9' : gl M.2.2 i9 = some r9 := hr9
                  rw [hk1] at hr9'; cases hr9'
                  rw [if_pos rfl]
                  refine ⟨fun z => by unfold cellL at z; dsimp only at z; omega, fun _ => ?_⟩
                  unfold cpy
                  split
                  · exact ((hw id0 _ hk0).2 _).2 (by unfold cellL; dsimp only; omega)
                  · exact ((hw i9 _ hk1).2 _).2 (by unfold cellL; dsimp only; omega)
                · rw [if_neg e9]; exact (hw i9 r9 hr9).2 j9
              refine inv_set (M2 := (upR M.1 (id1 + 1 - 1) (cpy (M.1 (id0 + 1 - 1)) (M.1 (id1 + 1 - 1)) sp.toNat dp.toNat kk9.toNat), M.2.1, M.2.2)) (id := id1) I hk1 rfl (fun i k hi => by show upR M.1 id1 _ i k = _; unfold upR; rw [if_neg hi]) rfl hw3 ?_ g3
              rw [ent_int]
              have ef : (fun z => Int32.ofInt (upR M.1 id1 (cpy (M.1 id0) (M.1 id1) sp.toNat dp.toNat kk9.toNat) id1 z)) = va_cpy (fun z => Int32.ofInt (M.1 id0 z)) (fun z => Int32.ofInt (M.1 id1 z)) sp.toNat dp.toNat kk9.toNat := by
                funext z
                unfold va_cpy upR cpy
                rw [if_pos rfl]
                split <;> rfl
              have g1' := g1
              rw [← ef] at g1'
              exact g1'
          · cases hok
        · cases h
      · cases h
    · cases h
  · rename_i y2
    split at h
    · cases h
    · next d1 =>
      split at h
      · next hc =>
        obtain ⟨c1, c2, c3, c4⟩ := hc
        split at h
        · next M1 r1 h1 =>
          have hy2 : y2 < NM := by
            rcases Nat.lt_or_ge y2 NM with z | z
            · exact z
            · exfalso
              have z2 : y2 ≠ NM := fun z3 => by
                have hcl : (!Nat.beq y2 NM) = true := hcl
                rw [z3] at hcl
                exact absurd hcl (by decide)
              exact run_none (by omega) h1
          unfold trOk at hok
          dsimp only at hok
          rw [Bool.or_eq_true] at hok
          rcases hok with hok | hok
          · have := Nat.le_of_ble_eq_true hok
            exact absurd hy2 (by unfold NM; omega)
          split at hok
          · next idx =>
            simp only [Bool.and_eq_true, Bool.not_eq_true'] at hok
            obtain ⟨⟨e1, e2⟩, e3, e4⟩ := hok
            have e1 := Nat.eq_of_beq_eq_true e1
            subst e1
            obtain ⟨q, q1, q2⟩ := goTo_x e2
            have q2 : q = pc + 3 := by omega
            subst q2
            obtain ⟨kd, hm⟩ := call_x e3
            have hgr := run_Gr X _ _ _ _ _ _ h1
            have hgr2 := (run_Gr X _ _ _ _ _ _ h).len
            dsimp only at hgr2
            have was : wfS (S.take (na y2)).reverse := fun v hv => wS v (List.mem_of_mem_take (List.mem_reverse.mp hv))
            refine do_call (d := d1) (idx := idx) C hd hy2 (Or.inl ⟨rfl, e4.1, e4.2⟩) ⟨kd, hm⟩ (met_of (n := n) ih hy2 h1 was c4 hw hXX) c1 c2 c3 hs I hgr (by omega) (by omega) (by omega) (by omega) (fun H1 locs1 cells1 slots1 I1 hwr => ?_)
            have kk := go h q1 hr hL wL (S2 := r1.toList ++ S.drop (na y2)) (fun v hv => by
              rcases List.mem_append.mp hv with z | z
              · exact hwr v (by cases r1 with
                  | none => cases z
                  | some w => rw [List.mem_singleton.mp z])
              · exact wS v (List.mem_of_mem_drop z)) I1
            have e9 : (r1.map (vv g)).toList ++ (S.drop (na y2)).map (vv g) = (r1.toList ++ S.drop (na y2)).map (vv g) := by
              rw [List.map_append]; cases r1 <;> rfl
            rw [e9]
            exact kk
          · cases hok
        · cases h
      · cases h
  · rename_i y2
    split at h
    · cases h
    · next d1 =>
      split at h
      · next hc =>
        obtain ⟨c1, c2, c3, c4⟩ := hc
        split at h
        · next M1 r1 h1 =>
          have hy2 : y2 < NM := by
            rcases Nat.lt_or_ge y2 NM with z | z
            · exact z
            · exfalso
              have z2 : y2 ≠ NM := fun z3 => by
                have hcl : (!Nat.beq y2 NM) = true := hcl
                rw [z3] at hcl
                exact absurd hcl (by decide)
              exact run_none (by omega) h1
          unfold trOk at hok
          dsimp only at hok
          rw [Bool.or_eq_true] at hok
          rcases hok with hok | hok
          · have := Nat.le_of_ble_eq_true hok
            exact absurd hy2 (by unfold NM; omega)
          split at hok
          · next idx =>
            simp only [Bool.and_eq_true, Bool.not_eq_true'] at hok
            obtain ⟨⟨e1, e2⟩, e3, e4⟩ := hok
            have e1 := Nat.eq_of_beq_eq_true e1
            subst e1
            obtain ⟨q, q1, q2⟩ := goTo_x e2
            have q2 : q = pc + 3 := by omega
            subst q2
            obtain ⟨kd, hm⟩ := call_x e3
            have hgr := run_Gr X _ _ _ _ _ _ h1
            have hgr2 := (run_Gr X _ _ _ _ _ _ h).len
            dsimp only at hgr2
            have was : wfS (S.take (na y2)).reverse := fun v hv => wS v (List.mem_of_mem_take (List.mem_reverse.mp hv))
            refine do_call (d := d1) (idx := idx) C hd hy2 (Or.inr (Or.inl ⟨rfl, e4⟩)) ⟨kd, hm⟩ (met_of (n := n) ih hy2 h1 was c4 hw hXX) c1 c2 c3 hs I hgr (by omega) (by omega) (by omega) (by omega) (fun H1 locs1 cells1 slots1 I1 hwr => ?_)
            have kk := go h q1 hr hL wL (S2 := r1.toList ++ S.drop (na y2)) (fun v hv => by
              rcases List.mem_append.mp hv with z | z
              · exact hwr v (by cases r1 with
                  | none => cases z
                  | some w => rw [List.mem_singleton.mp z])
              · exact wS v (List.mem_of_mem_drop z)) I1
            have e9 : (r1.map (vv g)).toList ++ (S.drop (na y2)).map (vv g) = (r1.toList ++ S.drop (na y2)).map (vv g) := by
              rw [List.map_append]; cases r1 <;> rfl
            rw [e9]
            exact kk
          · cases hok
        · cases h
      · cases h
  · rename_i y2
    split at h
    · cases h
    · next d1 =>
      split at h
      · next hc =>
        obtain ⟨c1, c2, c3, c4⟩ := hc
        split at h
        · next M1 r1 h1 =>
          have hy2 : y2 < NM := by
            rcases Nat.lt_or_ge y2 NM with z | z
            · exact z
            · exfalso
              have z2 : y2 ≠ NM := fun z3 => by
                have hcl : (!Nat.beq y2 NM) = true := hcl
                rw [z3] at hcl
                exact absurd hcl (by decide)
              exact run_none (by omega) h1
          unfold trOk at hok
          dsimp only at hok
          rw [Bool.or_eq_true] at hok
          rcases hok with hok | hok
          · have := Nat.le_of_ble_eq_true hok
            exact absurd hy2 (by unfold NM; omega)
          split at hok
          · next idx =>
            simp only [Bool.and_eq_true, Bool.not_eq_true'] at hok
            obtain ⟨⟨e1, e2⟩, e3, e4⟩ := hok
            have e1 := Nat.eq_of_beq_eq_true e1
            subst e1
            obtain ⟨q, q1, q2⟩ := goTo_x e2
            have q2 : q = pc + 3 := by omega
            subst q2
            obtain ⟨kd, hm⟩ := call_x e3
            have hgr := run_Gr X _ _ _ _ _ _ h1
            have hgr2 := (run_Gr X _ _ _ _ _ _ h).len
            dsimp only at hgr2
            have was : wfS (S.take (na y2)).reverse := fun v hv => wS v (List.mem_of_mem_take (List.mem_reverse.mp hv))
            refine do_call (d := d1) (idx := idx) C hd hy2 (Or.inr (Or.inr ⟨rfl, e4.1, e4.2⟩)) ⟨kd, hm⟩ (met_of (n := n) ih hy2 h1 was c4 hw hXX) c1 c2 c3 hs I hgr (by omega) (by omega) (by omega) (by omega) (fun H1 locs1 cells1 slots1 I1 hwr => ?_)
            have kk := go h q1 hr hL wL (S2 := r1.toList ++ S.drop (na y2)) (fun v hv => by
              rcases List.mem_append.mp hv with z | z
              · exact hwr v (by cases r1 with
                  | none => cases z
                  | some w => rw [List.mem_singleton.mp z])
              · exact wS v (List.mem_of_mem_drop z)) I1
            have e9 : (r1.map (vv g)).toList ++ (S.drop (na y2)).map (vv g) = (r1.toList ++ S.drop (na y2)).map (vv g) := by
              rw [List.map_append]; cases r1 <;> rfl
            rw [e9]
            exact kk
          · cases hok
        · cases h
      · cases h
  · cases h
end BODY
