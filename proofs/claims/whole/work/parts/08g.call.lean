/-! a method's contract, and how it is called -/
theorem EXT.same {g : GP} {X : Xs} {u U : State} (hv : U.vm = u.vm) (hh : U.heap = u.heap) (h : EXT g X u u.heap) : EXT g X U U.heap := by
  obtain ⟨a1, a2, a3, a4, a5, a6, a7, a8, a9⟩ := h
  have hA : u.vm.Alike U.vm := by rw [hv]; exact Vm.Alike.refl _
  rw [hh]
  exact ⟨va_K.moved hA a1, fun q hq hk => va_Nw.same rfl hv.symm (a2 q hq hk), fun q hq => (a3 q hq).imp (fun tx h => vk_R.same hv h), vk_S.moved hA a4, va_Z.moved hA a5, va_Z.moved hA a6, va_X.moved hA a7, a8, a9⟩
theorem EXT.warm {g : GP} {X : Xs} {s U : State} {H : Heap} {locs : List Loc} (hW : s.WarmedH U.vm) (hh : U.heap = H) (hS : va_S (Afn g) s.heap H locs) (h : EXT g X s s.heap) : EXT g X U U.heap := by
  obtain ⟨a1, a2, a3, a4, a5, a6, a7, a8, a9⟩ := h
  have hA := hW.alike
  have hk : ∀ a : Nat, a < s.heap.size → ¬ Afn g a → H[a]? = s.heap[a]? := fun a h1 h2 => hS.2.1 a h1 h2
  rw [hh]
  exact ⟨va_K.moved hA a1, fun q hq hk => va_Nw.warmM hW (a2 q hq hk), fun q hq => (a3 q hq).imp (fun tx h => vk_R.warm hW h), vk_S.moved hA (vk_S.kept a4 hk), va_Z.moved hA (va_Z.kept a5 hk), va_Z.moved hA (va_Z.kept a6 hk), va_X.moved hA (va_X.kept a7 (hk _ a8 (Nat.not_le.mpr a9))), Nat.lt_of_lt_of_le a8 hS.1, a9⟩
def wfO (r : Option AV) : Prop := ∀ v, r = some v → wfV v
def ROk (k : Nat) (r : Option AV) : Prop := match k, r with
  | 0, some (.inl _) => True
  | 1, some (.inl x) => x = 0 ∨ x = 1
  | 2, some (.inl x) => 0 ≤ x ∧ x < 128
  | 3, some (.inr (.inl _)) => True
  | 4, none => True
  | 5, some (.inr (.inr (.inl (_ + 1)))) => True
  | _, _ => False
def retI (k : Nat) (i : Instr) : Prop := match k with
  | 0 => i = .ireturn
  | 1 => i = .ireturn
  | 2 => i = .ireturn
  | 3 => i = .lreturn
  | 4 => i = .return_
  | 5 => i = .areturn
  | _ => False
/-- the contract of a method of which a run is known -/
abbrev mPc (g : GP) (X : Xs) (as : List AV) (M : Mm) : Array Value → State → Prop := va_Pc (as.map (vv g)) (fun U => U.heap.size = g.1 + M.2.2.length ∧ va_P (gD g) vwCl (wld g M) U.heap ∧ EXT g X U U.heap)
def mQc (g : GP) (M : Mm) (r : Option AV) : Array Value → State → Outcome → State → Prop := fun _ st o t => (o = .returned (r.map (vv g)) ∧ va_P (gD g) vwCl (wld g M) t.heap ∧ va_D (Afn g) (wld g M) ∧ wfM M ∧ wfO r) ∧ va_F (Afn g) st t
abbrev mRm (d : Nat) (M M2 : Mm) : Room := { frames := d + 1, cells := M2.2.2.length - M.2.2.length, slots := ksz M2.2.2 - ksz M.2.2, locals := 64 * (d + 1) }
abbrev mWs (y : Nat) : List Cond := Cond.code (yn y) (yc y) (ml y) (yr y) :: gT
theorem wld_D (g : GP) (M : Mm) : va_D (Afn g) (wld g M) := by
  refine ⟨fun i j a b ha hb hab => ?_, fun k a ha => ?_⟩
  · rw [wld_get] at ha hb
    obtain ⟨q1, -, rfl⟩ := Option.map_eq_some_iff.mp ha
    obtain ⟨q2, -, rfl⟩ := Option.map_eq_some_iff.mp hb
    have : g.1 + i = g.1 + j := hab
    omega
  · rw [wld_get] at ha
    obtain ⟨q1, -, rfl⟩ := Option.map_eq_some_iff.mp ha
    show g.1 ≤ g.1 + k
    omega
theorem mPc_blind {g : GP} {X : Xs} {as : List AV} {M : Mm} : FrameBlind (mPc g X as M) := fun a U gg zk h => ⟨h.1, h.2.1, h.2.2.1, EXT.same (u := U) (U := U.calling gg zk a) rfl rfl h.2.2.2⟩
theorem goodIn_mWs {y : Nat} (hy : y < NM) : GoodIn gT (mWs y) := by
  intro w hw
  have h1 : w ∈ gT := by
    rcases List.mem_cons.mp hw with rfl | h
    · exact ycd_w hy
    · exact h
  exact ⟨h1, good_of_word (List.mem_filter.mp h1).2⟩
theorem yfx {y : Nat} (hy : y < NM) : plainName (yn y).cls = true ∧ ((yn y).cls ≠ "java/lang/invoke/MethodHandle" ∧ (yn y).cls ≠ "java/lang/invoke/VarHandle") ∧ (parseMethodDescriptor (yn y).desc).map (fun d => d.parameters.length) = some (na y - (if (gl YST y).getD true then 0 else 1)) ∧ (yn y).cls = cn (yo y) ∧ rcvN y = true ∧ ml y ≤ 13 ∧ (yin y = true ↔ (yn y).name = "<init>") ∧ (yin y = true → yr y = none) ∧ ((gl YST y).getD true = false → 1 ≤ na y) := by
  have h := all_of yfx_ok (List.mem_range.mpr hy)
  simp only [Bool.and_eq_true, decide_eq_true_eq, Bool.or_eq_true, Bool.not_eq_true'] at h
  obtain ⟨⟨h1, h2, h3⟩, ⟨h4, h5, h6, h7⟩, h8, h9, h10⟩ := h
  refine ⟨h1, ⟨h2, h3⟩, h4, h5, h6, Nat.le_of_ble_eq_true h7, ?_, fun z => ?_, fun z => ?_⟩
  · rw [h8]; exact decide_eq_true_iff
  · rcases h9 with q | q
    · rw [z] at q; cases q
    · exact q
  · rcases h10 with q | q
    · rw [z] at q; cases q
    · exact Nat.le_of_ble_eq_true q
section CALLS
variable {p : Program} {l : Launch} {e : Env} {R : Room} {s : State} {m : MethodId} {args : Array Value} {below : List Frame} {meth : Method} {c : Code} {H : Heap} {locs : List Loc} {cells slots : Nat} {Q : State → Prop} {g : GP} {X : Xs} {y k0 z0 : Nat} {pc : Nat} {ls : Array Slot} {M : Mm}
/-- behind a call -/
theorem call_on {st0 rest : List Value} {mc ms : Nat} {a : Array Value} {M1 : Mm} {r : Option AV} (hr : va_Run p l e R s m args below meth c H locs cells slots mc ms (F0 m pc ls st0) rest (mQc g M1 r a) (Afn g)) (I : INV g s k0 z0 M H locs cells slots) (hmc : M.2.2.length + mc = M1.2.2.length) (hms : ksz M.2.2 + ms = ksz M1.2.2)
    (kk : ∀ H1 locs1, INV g s k0 z0 M1 H1 locs1 (cells + mc) (slots + ms) → wfO r → W p l e R s m args below meth c H1 locs1 (cells + mc) (slots + ms) Q (F0 m (pc + 3) ls ((r.map (vv g)).toList ++ rest))) : W p l e R s m args below meth c H locs cells slots Q (F0 m pc ls st0) := by
  intro T hT X
  obtain ⟨hP, hD, hS, hw, hn0, hn1, hn2⟩ := I
  obtain ⟨v, st₀, t, T', LL, h0, X', hL, e1, e2, ⟨⟨hv, hP1, hD1, hw1, hwr⟩, hz, hk⟩, st⟩ := hr T hT X
  cases hv
  rw [h0] at hz hk
  have hS1 : va_S (Afn g) s.heap T'.heap (locs ++ LL) := ⟨Nat.le_trans hS.1 (by rw [e1]; exact hz), fun q h1 h2 => by rw [e1, hk q (Nat.lt_of_lt_of_le h1 hS.1) h2]; exact hS.2.1 q h1 h2, fun q hq => by
      rcases List.mem_append.mp hq with h | h
      · exact hS.2.2 q h
      · exact hL q h⟩
  obtain ⟨t2, a1, b1⟩ := kk T'.heap (locs ++ LL) ⟨by rw [e1]; exact hP1, hD1, hS1, hw1, hn0, by omega, by omega⟩ hwr T' rfl X'
  exact ⟨t2, st t2 a1, b1⟩
theorem goTo_x {pcs tg : List Nat} {k pc : Nat} {off : Int} (h : goesTo pcs tg k pc off = true) : ∃ q, gl pcs (tb tg k) = some q ∧ (pc : Int) + off = (q : Int) := by
  unfold goesTo at h
  split at h
  · next q hq => exact ⟨q, hq, of_decide_eq_true h⟩
  · cases h
theorem map_split {S : List AV} {n : Nat} (hl : n ≤ S.length) (f : AV → Value) : S.map f = ((S.take n).reverse.map f).reverse ++ (S.drop n).map f := by
  rw [← List.map_reverse, List.reverse_reverse, ← List.map_append, List.take_append_drop]
theorem cat_sum (g : GP) (S : List AV) : ((S.map (vv g)).map fun v => v.category).sum = catS S := by
  induction S with
  | nil => rfl
  | cons v S ih =>
    simp only [List.map_cons, List.sum_cons, ih]
    rcases v with x | x | r
    · show 1 + catS S = 1 + catS S; rfl
    · show 2 + catS S = 2 + catS S; rfl
    · rw [vv_cat]; rfl
/-- the three kinds of call -/
theorem do_call {S : List AV} {d y2 idx : Nat} {i : Instr} {M1 : Mm} {r : Option AV} (C : CTX g X y p s m args meth c) (hd : decode (yc y) pc = .ok (i, 3)) (hy2 : y2 < NM)
    (hi : (i = .invokevirtual idx ∧ (gl YST y2).getD true = false ∧ yin y2 = false) ∨ (i = .invokestatic idx ∧ (gl YST y2).getD true = true) ∨ (i = .invokespecial idx ∧ (gl YST y2).getD true = false ∧ yin y2 = true)) (hck : ∃ kd, mthT (yo y) idx = some (y2, kd))
    (hM : Met l (yn y2) (mWs y2) (mRm d M M1) (mPc g X (S.take (na y2)).reverse M) (mQc g M1 r) (M1.2.2.length - M.2.2.length) (ksz M1.2.2 - ksz M.2.2) (Afn g))
    (hrc : rcvOk y2 (S.take (na y2)).reverse M = true) (hcat : catS (S.drop (na y2)) ≤ 8) (hln : na y2 ≤ S.length) (hs : ls.size = ml y) (I : INV g s k0 z0 M H locs cells slots) (hG : Gr M M1) (rc : M1.2.2.length ≤ k0 + R.cells) (rs : ksz M1.2.2 ≤ z0 + R.slots) (rf : d + 2 ≤ R.frames) (rl : 64 * (d + 2) ≤ R.locals)
    (kk : ∀ H1 locs1 cells1 slots1, INV g s k0 z0 M1 H1 locs1 cells1 slots1 → wfO r → W p l e R s m args below meth c H1 locs1 cells1 slots1 Q (F0 m (pc + 3) ls ((r.map (vv g)).toList ++ (S.drop (na y2)).map (vv g)))) :
    W p l e R s m args below meth c H locs cells slots Q (F0 m pc ls (S.map (vv g))) := by
  refine W_size (fun hsz => ?_)
  have hH := inv_size I hsz
  have I0 := I
  obtain ⟨hx, hb, hml, hown, hts, -, hE, hA0, -⟩ := C
  obtain ⟨hP, hD, hS, hw, hn0, hn1, hn2⟩ := I
  obtain ⟨y1, y2a, y3, y4, y5, y6, y7, y8, y9⟩ := yfx hy2
  have hgr := hG.len
  obtain ⟨kd, hm1⟩ := hck
  obtain ⟨hlk0, hlk1⟩ := mthT_w hm1
  obtain ⟨hst, hini⟩ := yp_w hy2
  have hpre : ∀ U : State, U.heap = H → s.WarmedH U.vm → mPc g X (S.take (na y2)).reverse M ((S.take (na y2)).reverse.map (vv g)).toArray U := fun U hU hW => ⟨rfl, by rw [hU]; exact hH, by rw [hU]; exact hP, EXT.warm hW hU hS hE⟩
  have hroom : (mRm d M M1).frames + 1 ≤ R.frames ∧ 8 + (ml y2 + 11) + (mRm d M M1).locals ≤ R.locals := ⟨by show d + 1 + 1 ≤ _; omega, by show 8 + (ml y2 + 11) + 64 * (d + 1) ≤ _; omega⟩
  have hsum : 2 * (F0 m pc ls (S.map (vv g))).monitorRoom + (((S.drop (na y2)).map (vv g)).map fun v => v.category).sum ≤ 8 := by
    show 2 * 0 + _ ≤ 8
    rw [cat_sum]; omega
  have hf : cells + (M1.2.2.length - M.2.2.length) ≤ R.cells ∧ slots + (ksz M1.2.2 - ksz M.2.2) ≤ R.slots := ⟨by omega, by omega⟩
  have hfix : CallFix p m c (yc y) (ml y) s args gT (cn (yo y)) := ⟨hx, hb, hml, hown, hts⟩
  have hsplit := map_split hln (vv g)
  have hlen : ((S.take (na y2)).reverse.map (vv g)).length = na y2 := by
    rw [List.length_map, List.length_reverse, List.length_take]; omega
  have fin : va_Run p l e R s m args below meth c H locs cells slots (M1.2.2.length - M.2.2.length) (ksz M1.2.2 - ksz M.2.2) (F0 m pc ls (S.map (vv g))) ((S.drop (na y2)).map (vv g)) (mQc g M1 r ((S.take (na y2)).reverse.map (vv g)).toArray) (Afn g) → W p l e R s m args below meth c H locs cells slots Q (F0 m pc ls (S.map (vv g))) :=
    fun hr => call_on hr I0 (by omega) (by omega) (fun H1 locs1 I1 hwr => kk H1 locs1 _ _ I1 hwr)
  have hcB : kd = 0 → ∀ n, (parseMethodDescriptor (yn y2).desc).map (fun d => d.parameters.length) = some n → CallB R s args (cn (yo y)) idx (yn y2) (yc y2) (ml y2) (yr y2) (mWs y2) (mRm d M M1) (M1.2.2.length - M.2.2.length) (ksz M1.2.2 - ksz M.2.2) n :=
    fun hk n hn => callB_of n hts (goodIn_mWs hy2) rfl rfl rfl (hts _ hini) (hts _ (hlk0 hk)) ⟨y2a.1, y2a.2, hn⟩ hroom
  have hcN : kd ≠ 0 → ∀ n, (parseMethodDescriptor (yn y2).desc).map (fun d => d.parameters.length) = some n → va_CN R s args (cn (yo y)) idx (yn y2) "BlackRoad" (yc y2) (ml y2) (yr y2) (mWs y2) (mRm d M M1) (M1.2.2.length - M.2.2.length) (ksz M1.2.2 - ksz M.2.2) n :=
    fun hk n hn => by
      obtain ⟨-, q, hq, q1, q2, q3, q4⟩ := hlk1 hk
      have h9 := hE.2.1 q hq (by rw [q4]; exact hk)
      rw [q1, q2, q3] at h9
      exact va_cnB n hts (goodIn_mWs hy2) rfl rfl rfl h9 (hts _ hini) ⟨y2a.1, y2a.2, hn⟩ hroom
  rcases hi with ⟨rfl, h1, h2⟩ | ⟨rfl, h1⟩ | ⟨rfl, h1, h2⟩
  · rw [h1] at hst y3
    have hst2 : Cond.instanceMethod (yn y2) ∈ gT := hst
    have hn1 := y9 h1
    cases hS1 : (S.take (na y2)).reverse with
    | nil => rw [hS1] at hlen; simp at hlen; omega
    | cons a0 as =>
      rw [hS1] at hrc hpre hlen hsplit hM fin
      have hlen2 : (as.map (vv g)).length = na y2 - 1 := by simp at hlen ⊢; omega
      -- the receiver
      have hrecv : ∃ b, vv g a0 = .ref b ∧ ∃ cellB : Cell, H[b]? = some cellB ∧ cellB.vm.isStatics = false ∧ s.vm.findClass (yn y2).cls = some cellB.cls := by
        unfold rcvOk at hrc
        unfold rcvN at y5
        split at hrc
        · next h99 =>
          have := all_of yst_rcv (List.mem_range.mpr hy2)
          rw [decide_eq_true_iff] at this
          rw [h1, h99] at this
          exact absurd this (by decide)
        · next cc hne =>
          split at hrc
          · next id tl hq0 =>
            cases hq0
            cases hq : gl M.2.2 id with
            | none => rw [hq] at hrc; cases hrc
            | some q =>
              rw [hq] at hrc
              have hqc := Nat.eq_of_beq_eq_true hrc
              refine ⟨g.1 + id, rfl, ?_⟩
              have hw9 := (hw id q hq).1.1
              split at y5
              · next z => exact absurd z hne
              · next z =>
                rw [z] at hqc
                omega
              · next z1 z2 z3 =>
                rw [Bool.and_eq_true] at y5
                have hc13 : (gl RCV y2).getD 99 < 13 := Nat.le_of_ble_eq_true y5.1
                have hat := wld_at (g := g) hq
                rw [ent_obj (by omega)] at hat
                have := va_recv hE.1 hP (ci := q.1) (q0 := id) (cls_hc q.1 (by omega)) hat
                rw [of_decide_eq_true y5.2, ← hqc]
                exact this
          · next ax tl hq0 =>
            cases hq0
            rw [Bool.and_eq_true, Bool.and_eq_true] at hrc
            have hc50 := Nat.eq_of_beq_eq_true hrc.1
            have h10 : 10 ≤ ax := Nat.le_of_ble_eq_true hrc.2.1
            have h23 : ax < 23 := Nat.le_of_ble_eq_true hrc.2.2
            refine ⟨g.2.1 ax, xv_ref g (by omega), ?_⟩
            split at y5
            · next z => exact absurd z hne
            · next z =>
              have := vk_recv hE.2.2.2.1 (i := ax - 10) (by omega) hS
              rw [show 10 + (ax - 10) = ax by omega] at this
              rw [of_decide_eq_true y5]
              exact this
            · next z1 z2 z3 => first | exact absurd hc50 z3 | exact absurd hc50 z2
          · cases hrc
      obtain ⟨b, hb1, hcell⟩ := hrecv
      refine fin ?_
      have hstk : S.map (vv g) = (as.map (vv g)).reverse ++ .ref b :: (S.drop (na y2)).map (vv g) := by
        rw [hsplit, List.map_cons, List.reverse_cons, hb1, List.append_assoc]; rfl
      have e9 : ((a0 :: as).map (vv g)).toArray = (Value.ref b :: as.map (vv g)).toArray := by rw [List.map_cons, hb1]
      rw [e9] at hpre ⊢
      by_cases hk : kd = 0
      · exact va_runV (C := (yn y2).cls) hfix hM ⟨hcB hk _ y3, hts _ hst2, hts _ (sel_w hy2 h1 h2)⟩ ⟨mPc_blind, hcell, hpre⟩ rfl hlen2 hs hstk hsum hd hf
      · exact va_runVN (C := (yn y2).cls) hfix hM ⟨hcN hk _ y3, hts _ hst2, hts _ (sel_w hy2 h1 h2)⟩ ⟨mPc_blind, hcell, hpre⟩ rfl hlen2 hs hstk hsum hd hf
  · rw [h1] at hst y3
    have hst2 : Cond.static (yn y2) ∈ gT := hst
    refine fin ?_
    by_cases hk : kd = 0
    · exact va_runS hfix hM ⟨hcB hk _ y3, hts _ hst2⟩ ⟨mPc_blind, hpre⟩ rfl hlen hs hsplit hsum hd hf
    · exact va_runSN hfix hM ⟨hcN hk _ y3, hts _ hst2, trivial⟩ ⟨mPc_blind, hpre⟩ rfl hlen hs hsplit hsum hd hf
  · rw [h1] at hst y3
    have hst2 : Cond.instanceMethod (yn y2) ∈ gT := hst
    have hn1 := y9 h1
    have hret := y8 h2
    have hnm := y7.mp h2
    cases hS1 : (S.take (na y2)).reverse with
    | nil => rw [hS1] at hlen; simp at hlen; omega
    | cons a0 as =>
      rw [hS1] at hrc hpre hlen hsplit hM fin
      have hlen2 : (as.map (vv g)).length = na y2 - 1 := by simp at hlen ⊢; omega
      have hrecv : ∃ b, vv g a0 = .ref b := by
        unfold rcvOk at hrc
        split at hrc
        · next h99 =>
          have := all_of yst_rcv (List.mem_range.mpr hy2)
          rw [decide_eq_true_iff] at this
          rw [h1, h99] at this
          exact absurd this (by decide)
        · split at hrc
          · next hq0 => cases hq0; exact ⟨_, rfl⟩
          · next hq0 =>
            cases hq0
            rw [Bool.and_eq_true, Bool.and_eq_true] at hrc
            exact ⟨_, xv_ref g (by have := Nat.le_of_ble_eq_true hrc.2.1; omega)⟩
          · cases hrc
      obtain ⟨b, hb1⟩ := hrecv
      refine fin ?_
      have hstk : S.map (vv g) = (as.map (vv g)).reverse ++ .ref b :: (S.drop (na y2)).map (vv g) := by
        rw [hsplit, List.map_cons, List.reverse_cons, hb1, List.append_assoc]; rfl
      have e9 : ((a0 :: as).map (vv g)).toArray = (Value.ref b :: as.map (vv g)).toArray := by rw [List.map_cons, hb1]
      rw [e9] at hpre ⊢
      by_cases hk : kd = 0
      · have h7 := hcB hk _ y3
        rw [hret] at h7
        exact va_runI hfix hM ⟨h7, hnm, hts _ hst2⟩ ⟨mPc_blind, hpre⟩ rfl hlen2 hs hstk hsum hd hf
      · have h7 := hcN hk _ y3
        rw [hret] at h7
        exact va_runIN hfix hM ⟨h7, hnm, hts _ hst2⟩ ⟨mPc_blind, hpre⟩ rfl hlen2 hs hstk hsum hd hf
end CALLS
