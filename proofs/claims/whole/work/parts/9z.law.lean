/-! THE CLAIM OUT OF ONE WALK OF THE LAW'S BODY. Your part is whole_start (and what it stands on); all else here is the same for every law, but numbers. -/
def R_law : String := "BlackRoadLaw"
def lw_P (b : Addr) (xs : List Int32) (args : Array Value) (s : State) : Prop := args = #[.ref b] ∧ s.IntsAt b xs ∧ xs.length ≤ 3072 ∧ (Jvm.Cond.and given_1 narrow_1).before args s = true
def lw_Q (_ : Array Value) (s : State) (o : Outcome) (t : State) : Prop := o = .returned (some (.int 1)) ∧ Framed s o t [] 600000 7302250
def lw_Z (below : List Frame) (a : Array Value) (s : State) : State → Prop := fun t => ∃ o, t.status = .running ∧ Ended t below o ∧ lw_Q a s o t
/-- the law's own end, with 1 on the stack, nothing written that was there before, its room as the claim has it -/
theorem lw_ret {p : Program} {l : Launch} {e : Env} {s : State} {m : MethodId} {below : List Frame} {meth : Method} {c : Code} {b : Nat} (hx : p.tables.exec = Jvm.exec) (hb : c.code = code) (hr : meth.sig.returnType = ret) (hlocks : meth.locks = false) {pc : Nat} {H : Heap} {ls : Array Slot} (hdg : decode code pc = .ok (.ireturn, 1)) : W p l e room_1 s m #[Value.ref b] below meth c H [] 600000 7302250 (lw_Z below #[Value.ref b] s) (F0 m pc ls [.int 1]) := by
  intro T hT X
  obtain ⟨fs, hret, hrun, hended, hW, hframe⟩ := X.leave (v := some (.int 1)) (hlocks := hlocks) (fun h => by rw [hr] at h; cases h)
  have hmeth' : T.vm.method? m = some meth := X.method'
  refine ⟨T.setFrames fs, ?_, .returned (some (.int 1)), hrun, hended, rfl, ⟨_, rfl⟩, hW, hframe⟩
  jvm_step X.here [X.here.top, hx, hb, hdg, hmeth', hr, ret, narrow_b1]
  (try refine ⟨rfl, ?_⟩); (try refine ⟨rfl, ?_⟩)
  first | (intro acts; rw [hret _ acts rfl rfl rfl]) | rw [hret _ _ rfl rfl rfl]
  exact Steps.refl _
/-- what holds at the law's entry: the machine, the code, the tables' words (any of lw_tbl by 'hts w (by decide +kernel)'), the script of L ints xs at the cell b, what the Statement gives of the start (any of its parts by flat_of_before) -/
def lw_At (p : Program) (s : State) (m : MethodId) (meth : Method) (c : Code) (b L : Nat) (xs : Nat → Int32) : Prop :=
  p.tables.exec = Jvm.exec ∧ c.code = code ∧ meth.sig.returnType = ret ∧ c.maxLocals = 4 ∧ s.vm.findClass R_law = some m.cls ∧ (∀ w ∈ lw_tbl, w.before #[Value.ref b] s = true) ∧ va_X b L xs s s.heap ∧ b < s.heap.size ∧ meth.locks = false ∧ (Jvm.Cond.and given_1 narrow_1).before #[Value.ref b] s = true
-- ===== YOUR PART BEGINS =====
def strTm (i : Nat) : Term := match STL[i]? with
  | some q => .string (cn q.1) q.2.1
  | none => .string "" 0
def inFlat (w : Cond) : Bool := (flatC (Jvm.Cond.and given_1 narrow_1)).any (fun z => decide (z = w))
theorem of_inFlat {w : Cond} (h : inFlat w = true) : w ∈ flatC (Jvm.Cond.and given_1 narrow_1) := by
  obtain ⟨z, h1, h2⟩ := List.any_eq_true.mp h
  rw [← of_decide_eq_true h2]; exact h1
def lenS (i : Nat) : Nat := (SBY.map List.length).getD i 0
def bytS (i j : Nat) : Int32 := ((SBY.map (List.map Int32.ofInt)).getD i []).getD j 0
theorem st_ok1 : (List.range 13).all (fun i => inFlat (Cond.exactly (strTm i) "java/lang/String") && (inFlat (Cond.eq (.field (strTm i) "java/lang/String" "coder" "B") (.int 0)) && (inFlat (Cond.arrayOf (.field (strTm i) "java/lang/String" "value" "[B") .byte) && inFlat (Cond.eq (.length (.field (strTm i) "java/lang/String" "value" "[B")) (.int (Int32.ofNat (lenS i))))))) = true := by decide +kernel
theorem st_ok2 : (List.range 13).all (fun i => (List.range (lenS i)).all (fun j => inFlat (Cond.eq (.elem (.field (strTm i) "java/lang/String" "value" "[B") (.int (Int32.ofNat j))) (.int (bytS i j))))) = true := by decide +kernel
theorem st_ok3 : (List.range 13).all (fun i => (List.range 13).all (fun j => decide (i = j) || (inFlat (Cond.not (Cond.eq (strTm i) (strTm j))) || inFlat (Cond.not (Cond.eq (strTm j) (strTm i)))))) = true := by decide +kernel
theorem st_ok4 : inFlat (Cond.eq (.static "java/lang/String" "COMPACT_STRINGS" "Z") (.int 1)) = true ∧ inFlat (Cond.isRef (.static "jdk/internal/util/Preconditions" "SIOOBE_FORMATTER" "Ljava/util/function/BiFunction;")) = true := by decide +kernel
theorem st_ok5 : (List.range 13).all (fun i => match STL[i]? with
  | some q => Nat.beq q.2.2 i
  | none => false) = true := by decide +kernel
theorem stref_of {c : String} {k i : Nat} (h : (match tables_1[i]? with
  | some (Cond.stringRef c2 k2 _) => c2 == c && Nat.beq k2 k
  | _ => false) = true) : ∃ tx, Cond.stringRef c k tx ∈ lw_tbl := by
  revert h
  cases hz : tables_1[i]? with
  | none => intro h; cases h
  | some w =>
    intro h
    cases w with
    | stringRef c2 k2 tx =>
      have h : (c2 == c && Nat.beq k2 k) = true := h
      rw [Bool.and_eq_true] at h
      have e1 := eq_of_beq h.1
      have e2 := Nat.eq_of_beq_eq_true h.2
      rw [e1, e2] at hz
      exact ⟨tx, at_tb hz⟩
    | _ => cases h
theorem stref {q : Nat × Nat × Nat} (h : q ∈ STL) : ∃ tx, Cond.stringRef (cn q.1) q.2.1 tx ∈ lw_tbl := by
  unfold STL at h
  simp only [List.mem_cons, List.not_mem_nil, or_false] at h
  rcases h with rfl | rfl | rfl | rfl | rfl | rfl | rfl | rfl | rfl | rfl | rfl | rfl | rfl
  · exact stref_of (i := 759) (by decide +kernel)
  · exact stref_of (i := 812) (by decide +kernel)
  · exact stref_of (i := 813) (by decide +kernel)
  · exact stref_of (i := 814) (by decide +kernel)
  · exact stref_of (i := 815) (by decide +kernel)
  · exact stref_of (i := 829) (by decide +kernel)
  · exact stref_of (i := 835) (by decide +kernel)
  · exact stref_of (i := 900) (by decide +kernel)
  · exact stref_of (i := 902) (by decide +kernel)
  · exact stref_of (i := 907) (by decide +kernel)
  · exact stref_of (i := 908) (by decide +kernel)
  · exact stref_of (i := 909) (by decide +kernel)
  · exact stref_of (i := 910) (by decide +kernel)
theorem pr_arr {s : State} {args : Array Value} {ty : FieldType} (hp : ∀ C, ty ≠ .object C) (h : (Cond.arrayClass ty).before args s = true) : ∃ cA : ClassId, ArrOfT s cA ty ∧ va_RA s cA ty := by
  obtain ⟨cA, kA, comp, h1, h2, h3⟩ := Cond.arrayClass_spec h
  refine ⟨cA, fun n z => ⟨fun k h => (by cases h), kA, h2, comp, h3⟩, ?_⟩
  cases ty with
  | object C => exact absurd rfl (hp C)
  | _ => exact h1
theorem cl_of {c : Nat} {q : vw_C} (h : vwCl[c]? = some q) : c < 13 ∧ q = ((cT c).1, (cT c).2.1, (cT c).2.2) := by
  have h1 : c < 13 := (List.getElem?_eq_some_iff.mp h).1
  have h2 := cls_hc c h1
  rw [h] at h2
  exact ⟨h1, Option.some.inj h2⟩
theorem law_yn : yc NM = code ∧ ml NM = 4 ∧ cn (yo NM) = R_law ∧ yin NM = false ∧ rty NM = 1 ∧ gl (pcs NM) 0 = some 0 := ⟨rfl, rfl, rfl, rfl, rfl, rfl⟩
set_option maxHeartbeats 4000000 in
theorem whole_start {p : Program} {e : Env} {s : State} {m : MethodId} {below : List Frame} {meth : Method} {c : Code} (l : Launch) (hflags : l.flags = flags0) {b L : Nat} {xs : Nat → Int32} (hL : L ≤ 3072) (C0 : lw_At p s m meth c b L xs) : W p l e room_1 s m #[Value.ref b] below meth c s.heap [] 0 0 (lw_Z below #[Value.ref b] s) (entryFrame m ([Value.ref b] : List Value).toArray 4) := by
  obtain ⟨hx, hb, hr, hml, hown, hts, hX, hbl, hlocks, hgv⟩ := id C0
  have htg : ∀ w ∈ gT, w.before #[Value.ref b] s = true := fun w hw => hts w (List.mem_filter.mp hw).1
  have hfl := flat_of_before _ hgv
  -- the classes
  have hcls : ∀ k : Nat, ∃ q : ClassId × (Nat → Nat), k < 13 → u_Kn s (cT k).1 (cT k).2.1 (cT k).2.2 q.1 q.2 := by
    intro k
    by_cases hk : k < 13
    · obtain ⟨cC, iS, h⟩ := u_known (C := (cT k).1) (T := (cT k).2.1) (N := (cT k).2.2) htg (lay_w hk) (htg _ (clp_w hk).1)
      exact ⟨(cC, iS), fun _ => h⟩
    · exact ⟨(0, fun _ => 0), fun h => absurd h hk⟩
  obtain ⟨dq, hdq⟩ := Classical.axiomOfChoice hcls
  obtain ⟨aI, hI1, hI2⟩ := pr_arr (ty := .int) (fun C h => by cases h) (htg _ arr_w.1)
  obtain ⟨aL, hL1, hL2⟩ := pr_arr (ty := .long) (fun C h => by cases h) (htg _ arr_w.2.1)
  obtain ⟨aS, hS1, hS2⟩ := pr_arr (ty := .short) (fun C h => by cases h) (htg _ arr_w.2.2.1)
  obtain ⟨aZ, hZ1, hZ2⟩ := pr_arr (ty := .boolean) (fun C h => by cases h) (htg _ arr_w.2.2.2)
  have hA : ∀ a : Nat, a < s.heap.size → ¬ (fun q : Nat => s.heap.size ≤ q) a := fun a h => Nat.not_le.mpr h
  have ok1 : ∀ i, i < 13 → _ := fun i hi => all_of st_ok1 (List.mem_range.mpr hi)
  simp only [Bool.and_eq_true] at ok1
  obtain ⟨adK, adV, hVS, hev⟩ := vk_Sof (args := #[Value.ref b]) (s := s) (N := 13) (tm := strTm) (len := SBY.map List.length) (byt := SBY.map (List.map Int32.ofInt)) (A := fun q : Nat => s.heap.size ≤ q) (fun i hi => by
      obtain ⟨l3, -, f2, -, f4, -⟩ := sby_all i hi
      rw [f2]; omega)
    (fun i hi => hfl _ (of_inFlat (ok1 i hi).1)) (fun i hi => hfl _ (of_inFlat (ok1 i hi).2.1)) (fun i hi => hfl _ (of_inFlat (ok1 i hi).2.2.1)) (fun i hi => hfl _ (of_inFlat (ok1 i hi).2.2.2))
    (fun i hi j hj => hfl _ (of_inFlat (all_of (all_of st_ok2 (List.mem_range.mpr hi)) (List.mem_range.mpr hj))))
    (fun i j hi hj hij => by
      have h3 := all_of (all_of st_ok3 (List.mem_range.mpr hi)) (List.mem_range.mpr hj)
      rw [Bool.or_eq_true, Bool.or_eq_true] at h3
      rcases h3 with h3 | h3 | h3
      · exact absurd (of_decide_eq_true h3) hij
      · exact Or.inl (hfl _ (of_inFlat h3))
      · exact Or.inr (hfl _ (of_inFlat h3))) hA
  have hZc := va_Zof (v := .int 1) (A := fun q : Nat => s.heap.size ≤ q) (hts _ (at_tb (i := 773) (by decide +kernel))) (hts _ (at_tb (i := 16) (by decide +kernel))) (va_eqt (hfl _ (of_inFlat st_ok4.1))) hA
  have hZfq := va_Zqof (A := fun q : Nat => s.heap.size ≤ q) (hts _ (at_tb (i := 789) (by decide +kernel))) (hts _ (at_tb (i := 18) (by decide +kernel))) (hfl _ (of_inFlat st_ok4.2)) hA
  have hZf2 : ∃ (fa fb : Nat), va_Z "jdk/internal/util/Preconditions" "SIOOBE_FORMATTER" "Ljava/util/function/BiFunction;" (if fb = 0 then .null else .ref fa) (fun q : Nat => s.heap.size ≤ q) s s.heap := by
    rcases hZfq with h | ⟨t, h⟩
    · exact ⟨0, 0, h⟩
    · exact ⟨t, 1, h⟩
  obtain ⟨fa, fb, hZf⟩ := hZf2
  let ex : Nat → Nat := fun k => if k = 0 then b else if k = 1 then fa else if k = 2 then fb else if k < 40 then adK (k - 10) else adV (k - 40)
  let g : GP := (s.heap.size, ex, fun k => (dq k).1, fun k => (dq k).2, fun k => if k = 0 then aI else if k = 1 then aL else if k = 2 then aS else aZ)
  let X : Xs := (L, fun i => (xs i).toInt)
  have hXX : XOK X := ⟨hL, fun i => i_in _⟩
  have eK : ∀ j, j < 13 → ex (10 + j) = adK j := fun j hj => by
    show (if 10 + j = 0 then b else if 10 + j = 1 then fa else if 10 + j = 2 then fb else if 10 + j < 40 then adK (10 + j - 10) else _) = _
    rw [if_neg (by omega), if_neg (by omega), if_neg (by omega), if_pos (by omega), show 10 + j - 10 = j by omega]
  have eV : ∀ j, j < 13 → ex (40 + j) = adV j := fun j hj => by
    show (if 40 + j = 0 then b else if 40 + j = 1 then fa else if 40 + j = 2 then fb else if 40 + j < 40 then _ else adV (40 + j - 40)) = _
    rw [if_neg (by omega), if_neg (by omega), if_neg (by omega), if_neg (by omega), show 40 + j - 40 = j by omega]
  have hE : EXT g X s s.heap := by
    refine ⟨⟨fun k q hk => ?_, fun k q hk => ?_⟩, fun q hq hk => ?_, fun q hq => ?_, ⟨fun i hi => ?_, fun i j hi hj hij => ?_⟩, hZc, ?_, ?_, hbl, hbl⟩
    · obtain ⟨h1, rfl⟩ := cl_of hk
      exact hdq k h1
    · match k, hk with
      | 0, hk => cases hk; exact ⟨hI1, hI2⟩
      | 1, hk => cases hk; exact ⟨hL1, hL2⟩
      | 2, hk => cases hk; exact ⟨hS1, hS2⟩
      | 3, hk => cases hk; exact ⟨hZ1, hZ2⟩
      | k + 4, hk => simp [gtys] at hk
    · have hw := of_decide_eq_true (all_of mll_ok hq)
      rw [if_neg hk] at hw
      exact va_Nw.of rfl (hts _ (at_tb hw))
    · obtain ⟨i, hi⟩ := List.getElem?_of_mem hq
      have hi13 : i < 13 := (List.getElem?_eq_some_iff.mp hi).1
      have h5 := all_of st_ok5 (List.mem_range.mpr hi13)
      rw [hi] at h5
      have h5 := Nat.eq_of_beq_eq_true h5
      obtain ⟨tx, htx⟩ := stref hq
      refine ⟨tx, ?_⟩
      have hev2 := hev i hi13
      unfold strTm at hev2
      rw [hi] at hev2
      show vk_R _ _ _ (ex (10 + q.2.2)) s
      rw [h5, eK i hi13]
      exact vk_R.of (A := #[Value.ref b]) (hts _ htx) hev2
    · have h := hVS.1 i hi
      show va_O _ (ex (10 + i)) _ _ _ ∧ va_OF _ _ _ _ (ex (10 + i)) _ _ _ ∧ va_OF _ _ _ (.ref (ex (40 + i))) (ex (10 + i)) _ _ _ ∧ va_T _ (ex (40 + i)) _ _ _ _ _
      rw [eK i hi, eV i hi]
      exact h
    · have hij : ex (10 + i) = ex (10 + j) := hij
      rw [eK i hi, eK j hj] at hij
      exact hVS.2 i j hi hj hij
    · have e8 : xv g 1 = (if fb = 0 then .null else .ref fa) := by
        show (if 1 = 1 ∧ fb = 0 then Value.null else .ref fa) = _
        by_cases z : fb = 0
        · rw [if_pos z, if_pos ⟨rfl, z⟩]
        · rw [if_neg z, if_neg (fun w => z w.2)]
      rw [e8]; exact hZf
    · have e9 : (fun i => Int32.ofInt ((xs i).toInt)) = xs := by funext i; exact Int32.ofInt_toInt _
      show va_X b L (fun i => Int32.ofInt ((xs i).toInt)) s s.heap
      rw [e9]; exact hX
  obtain ⟨n, d, M2, hd, hrun, hc1, hc2⟩ := law_run X hXX
  obtain ⟨y1, y2, y3, y4, y5, y6⟩ := law_yn
  have C : CTX g X NM p s m #[Value.ref b] meth c := ⟨hx, by rw [y1]; exact hb, by rw [y2]; exact hml, by rw [y3]; exact hown, htg, fun h => (by rw [y4] at h; cases h), hE, Nat.le_refl _, hXX⟩
  have hl := lv_entry ([.ref b]) (n := 4) (Nat.le_of_ble_eq_true rfl)
  rw [lg_entry_eq]
  generalize (lg_sl ([.ref b]) ++ List.replicate (4 - (lg_sl ([.ref b])).length) Slot.unset).toArray = ls at hl ⊢
  have hrel : lrel g [some (.inr (.inr (.inr 0))), none, none, none] ls := ⟨hl.1, hl.2.1, fun i v hv => by
    match i, hv with
    | 0, hv => cases hv; exact hl.2.2 (0, .ref b) List.mem_cons_self
    | 1, hv => cases hv
    | 2, hv => cases hv
    | 3, hv => cases hv
    | i + 4, hv => cases hv⟩
  have I0 : INV g s 0 0 (fun _ _ => 0, fun _ _ => 0, []) s.heap [] 0 0 := ⟨fun k q h => (by cases k <;> cases h), wld_D g _, va_S.rf, fun i q h => (by cases h), rfl, rfl, rfl⟩
  refine body_snd (l := l) (g := g) (X := X) n d NM 0 _ [] _ M2 _ hrun (Nat.le_refl _) 0 y6 C hrel (by rw [y2]; rfl) (fun i v hv => ?_) (fun v hv => by cases hv) I0 (by show _ ≤ 0 + 600000; omega) (by show _ ≤ 0 + 7302250; omega) (by show d + 1 ≤ 2048; omega) (by show 64 * (d + 1) ≤ 84000; omega) ?_
  · match i, hv with
    | 0, hv => cases hv; trivial
    | 1, hv => cases hv
    | 2, hv => cases hv
    | 3, hv => cases hv
    | i + 4, hv => cases hv
  · intro pc2 ls2 H2 locs2 cells2 slots2 i hdc hri hro hwo I2
    rw [y5] at hri
    have hri : i = .ireturn := hri
    subst hri
    rw [y1] at hdc
    obtain ⟨-, -, hS9, -, -, hn1, hn2⟩ := I2
    refine va_forget (fun q hq => hS9.2.2 q hq) (W.widen (k := 600000) (n := 7302250) (by omega) (by omega) ?_)
    exact lw_ret hx hb hr hlocks hdc
-- ===== YOUR PART ENDS =====
set_option maxHeartbeats 4000000 in
theorem lw_walk (l : Launch) (hflags : l.flags = flags0) (b : Addr) (xs : List Int32) : MetFree l x (headSpec (Jvm.Cond.code x code maxLocals ret :: tables_1) room_1) (lw_P b xs) (fun _ _ _ _ _ => True) lw_Q := by
  refine MetFree.of_bodyS (code := code) (maxLocals := maxLocals) (ret := ret) (by decide) ?_ ?_
  · intro args s m h hn
    obtain ⟨meth, c, h1, h2, h3, h4, h5, h6, -, -⟩ := Cond.code_spec hn (atoms_spec (ws := Jvm.Cond.code x code maxLocals ret :: tables_1) h _ List.mem_cons_self)
    exact ⟨meth, c, h1, h2, h3, h4, h5, h6⟩
  · intro p e s m args below meth c s₁ B hml0 hP _
    obtain ⟨rfl, hx, hbd, hgv⟩ := hP
    obtain ⟨scr, harrAt, hlist, hof, hsmall⟩ := hx
    obtain ⟨hcb, hkn, -, -⟩ := State.arrayAt?_spec harrAt
    have hown : s.vm.findClass R_law = some m.cls := findClass_of_methodNamed B.named
    have hts0 : ∀ c ∈ (Jvm.Cond.code x code maxLocals ret :: tables_1), c.before #[Value.ref b] s = true := atoms_spec (ws := Jvm.Cond.code x code maxLocals ret :: tables_1) B.pre
    have hts : ∀ w ∈ lw_tbl, w.before #[Value.ref b] s = true := k2_hts_sels lw_privs (fun w hw => hts0 w (List.mem_cons_of_mem _ hw)) lw_privs_ok
    have hml : c.maxLocals = 4 := B.maxLocals_eq (hts0 _ List.mem_cons_self)
    have X₀ : Stand p l e room_1 s m #[Value.ref b] below meth c s₁ [] 0 0 := Stand.of_body B
    have hh0 : s₁.heap = s.heap := by rw [B.state]; rfl
    have hsz : scr.slots.size = xs.length := by rw [← Array.length_toList, hlist, List.length_map]
    have hval : ∀ j : Nat, j < xs.length → scr.slots[j]? = some (.int (xs.getD j 0)) := fun j hj => by
      rw [← Array.getElem?_toList, hlist]
      simp [hj]
    have hbl : b < s.heap.size := (Array.getElem?_eq_some_iff.mp hcb).1
    have hX : va_X b xs.length (fun j => xs.getD j 0) s s.heap := ⟨scr, hcb, hof, hkn, hsz, hval⟩
    have K : W p l e room_1 s m #[Value.ref b] below meth c s₁.heap [] 0 0 (lw_Z below #[Value.ref b] s) (entryFrame m ([Value.ref b] : List Value).toArray 4) := by
      rw [hh0]
      exact whole_start l hflags hbd ⟨B.exec, B.bytes, B.returns, hml, hown, hts, hX, hbl, B.notSynchronized, hgv⟩
    obtain ⟨t, a1, o, b1, b2, b3⟩ := K s₁ rfl X₀
    exact ⟨t, o, a1, b1, b2, b3⟩
theorem lw_pre_spec {args : Array Value} {s : State} (h : (Jvm.Cond.and given_1 narrow_1).before args s = true) (hr : rest_1_c.before args s = true) : ∃ (b : Addr) (xs : List Int32), lw_P b xs args s := by
  have hs := flat_of_before _ h
  have hq := flat_of_before _ hr
  have hc : (Cond.count 1).before args s = true := hs _ (by decide +kernel)
  have harr : (Cond.arrayOf (.arg 0) .int).before args s = true := hs _ (by decide +kernel)
  have hle : (Cond.le (.length (.arg 0)) (.int 3072)).before args s = true := hs _ (by decide +kernel)
  have hlen : (Cond.isInt (.length (.arg 0))).before args s = true := hq _ (by decide +kernel)
  have hall : (Cond.all (.arg 0) (.isInt (.elem (.arg 0) (.index 0)))).before args s = true := hq _ (by decide +kernel)
  obtain ⟨b, xs, hb, hx⟩ := State.ints_of_pre rfl harr hlen hall
  have hsm : xs.length < 2 ^ 31 := hx.choose_spec.2.2.2
  have hev : (Term.length (.arg 0)).eval args s none [] s = some (.int xs.length.toInt32) := hx.length_eval hb
  have hv := Cond.le_ints hev (show (Term.int 3072).eval args s none [] s = some (.int 3072) from rfl)
  have hd : xs.length.toInt32 ≤ 3072 := by
    simpa [Cond.before, Cond.holds, hv] using hle
  have hN : xs.length ≤ 3072 := (Int32.ofNat_le_ofNat hsm (by decide)).mp (show Int32.ofNat xs.length ≤ Int32.ofNat 3072 from hd)
  exact ⟨b, xs, Cond.one_arg hc (show args[0]? = some (.ref b) from hb), hx, hN, h⟩
theorem lw_comes (l : Launch) (hflags : l.flags = flags0) : Comes l x (Jvm.Cond.code x code maxLocals ret :: tables_1) room_1 (fun tb e args s => Calls_1 tb e args s ∧ rest_1 tb e args s ∧ Pre_1 tb e args s)
    (fun _ _ args s o t => lw_Q args s o t) := by
  intro p e ha hc hk s m args below hf hfit hheap happ hpre
  obtain ⟨b, xs, hP⟩ := lw_pre_spec hpre.2.2 hpre.2.1
  obtain ⟨k, o, h1, h2, h3, hQ⟩ := lw_walk l hflags b xs p e ha hc hk s m args below hf ((Spec.applies_iff_loose hf).mp happ).1 hP trivial
  exact ⟨k, o, h1, h2, h3, hQ⟩
theorem lw_frame {s t : State} {o : Outcome} {args : Array Value} (h : Framed s o t [] 600000 7302250) :
    Framed s o t (fieldLocs frame_1_writes args s ++ arrayLocs frame_1_arrays args s ++ staticLocs frame_1_statics s) 600000 7302250 := h
theorem lw_limb (L : Cond) (hL : ∀ (args : Array Value) (s t : State), L.after args s (.returned (some (.int 1))) t = true) :
    ArmFor flags0 classFile x code maxLocals ret World_1 tables_1 room_1 Calls_1 rest_1 Pre_1
      (fun tb e a s o t => postC L tb e a s o t ∧ Framed s o t (fieldLocs frame_1_writes a s ++ arrayLocs frame_1_arrays a s ++ staticLocs frame_1_statics s) 600000 7302250) := by
  intro l hflags _ _ p e ha hc hk s m args below hf hfit hheap happ hpre
  obtain ⟨k, o, h1, h2, h3, rfl, hF⟩ := lw_comes l hflags p e ha hc hk s m args below hf hfit hheap happ hpre
  exact ⟨k, _, h1, h2, h3, hL args s _, lw_frame hF⟩
theorem i_vc : Claimed_1_1 ∧ Claimed_1_2 := ⟨lw_limb limb_1_1 (fun args s t => by simp [limb_1_1, Cond.after, Cond.holds, Cond.value]), lw_limb limb_1_2 (fun args s t => Cond.after_iff.mpr (by
  first | (rw [show limb_1_2 = Cond.eq .result (.int 1) from rfl, Cond.eq_ints (x := 1) (y := 1) rfl rfl]; simp; done) | (simp [limb_1_2, Cond.value, Term.eval]; done)))⟩
