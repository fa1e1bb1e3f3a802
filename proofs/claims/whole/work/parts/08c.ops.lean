/-! each instruction of a row, in the real machine -/
abbrev Afn (g : GP) : Nat → Prop := fun q => g.1 ≤ q
abbrev gtys (g : GP) : List (ClassId × FieldType) := [(gA g 0, .int), (gA g 1, .long), (gA g 2, .short), (gA g 3, .boolean)]
def ksz : List (Nat × Nat) → Nat
  | [] => 0
  | q :: l => (if q.1 < 100 then (cT q.1).2.2 else q.2) + ksz l
theorem ksz_app (l : List (Nat × Nat)) (q : Nat × Nat) : ksz (l ++ [q]) = ksz l + (if q.1 < 100 then (cT q.1).2.2 else q.2) := by
  induction l with
  | nil => simp [ksz]
  | cons p l ih => simp only [List.cons_append, ksz, ih]; omega
/-- what stands outside at a method's start: classes, links of nest mates, text constants, two statics, the script -/
def EXT (g : GP) (X : Xs) (U : State) (H : Heap) : Prop :=
  va_K (gD g) vwCl (gtys g) U ∧ (∀ q ∈ MLL, q.2.2.2.1 ≠ 0 → va_Nw (.methodLinkNest (cn q.1) q.2.1 (yn q.2.2.1) "BlackRoad") U) ∧ (∀ q ∈ STL, ∃ tx, vk_R (cn q.1) q.2.1 tx (g.2.1 (10 + q.2.2)) U) ∧
  vk_S 13 (SBY.map List.length) (SBY.map (List.map Int32.ofInt)) (fun j => g.2.1 (10 + j)) (fun j => g.2.1 (40 + j)) (Afn g) U H ∧
  va_Z "java/lang/String" "COMPACT_STRINGS" "Z" (.int 1) (Afn g) U H ∧ va_Z "jdk/internal/util/Preconditions" "SIOOBE_FORMATTER" "Ljava/util/function/BiFunction;" (xv g 1) (Afn g) U H ∧
  va_X (g.2.1 0) X.1 (fun i => Int32.ofInt (X.2 i)) U H ∧ g.2.1 0 < H.size ∧ g.2.1 0 < g.1
def XOK (X : Xs) : Prop := X.1 ≤ 3072 ∧ ∀ i, inI (X.2 i)
def CTX (g : GP) (X : Xs) (y : Nat) (p : Program) (s : State) (m : MethodId) (args : Array Value) (meth : Method) (c : Code) : Prop :=
  p.tables.exec = Jvm.exec ∧ c.code = yc y ∧ c.maxLocals = ml y ∧ s.vm.findClass (cn (yo y)) = some m.cls ∧ (∀ w ∈ gT, w.before args s = true) ∧ (yin y = true → meth.name = "<init>") ∧ EXT g X s s.heap ∧ g.1 ≤ s.heap.size ∧ XOK X
/-- the heap and the counts, at a point of a method that began with k0 cells of z0 fields -/
def INV (g : GP) (s : State) (k0 z0 : Nat) (M : Mm) (H : Heap) (locs : List Loc) (cells slots : Nat) : Prop :=
  va_P (gD g) vwCl (wld g M) H ∧ va_D (Afn g) (wld g M) ∧ va_S (Afn g) s.heap H locs ∧ wfM M ∧ s.heap.size = g.1 + k0 ∧ cells + k0 = M.2.2.length ∧ slots + z0 = ksz M.2.2
section OPS
variable {p : Program} {l : Launch} {e : Env} {R : Room} {s : State} {m : MethodId} {args : Array Value} {below : List Frame} {meth : Method} {c : Code} {H : Heap} {locs : List Loc} {cells slots : Nat} {Q : State → Prop} {g : GP} {X : Xs} {y k0 z0 : Nat} {pc : Nat} {ls : Array Slot} {L : List (Option AV)} {S : List AV} {M : Mm}
theorem inv_size (I : INV g s k0 z0 M H locs cells slots) (h : H.size ≤ s.heap.size + cells) : H.size = g.1 + M.2.2.length := by
  obtain ⟨hP, -, hS, -, h1, h2, -⟩ := I
  have h3 := hS.1
  cases hn : M.2.2.length with
  | zero => omega
  | succ n =>
    have hq : gl M.2.2 n = some (M.2.2[n]'(by omega)) := by rw [gl_get, List.getElem?_eq_getElem]
    have := (hP n _ (wld_at (g := g) hq)).lt
    dsimp only at this
    omega
theorem W_size {gg : JFrame} (h : H.size ≤ s.heap.size + cells → W p l e R s m args below meth c H locs cells slots Q gg) : W p l e R s m args below meth c H locs cells slots Q gg := fun T hT X => h (by
  have h1 := X.same.2.2.1
  have h2 : (T.setVm s.vm).heap = H := hT
  rw [h2] at h1
  exact h1) T hT X
theorem o_const {i : Instr} {len : Nat} {v : Int} (C : CTX g X y p s m args meth c) (hd : decode (yc y) pc = .ok (i, len)) (hl : len = lenOf i) (hok : opOk (yo y) (yin y) (ml y) (.iconst v) i = true) {rest : List Value}
    (kk : W p l e R s m args below meth c H locs cells slots Q (F0 m (pc + len) ls (.int (Int32.ofInt v) :: rest))) : W p l e R s m args below meth c H locs cells slots Q (F0 m pc ls rest) := by
  obtain ⟨hx, hb, hml, hown, hts, -⟩ := C
  subst hl
  unfold opOk at hok
  dsimp only at hok
  rw [Bool.and_eq_true] at hok
  obtain ⟨-, hok⟩ := hok
  split at hok
  · exact lv_iconst hx hb hd (of_decide_eq_true hok) kk
  · exact lv_bipush hx hb hd (of_decide_eq_true hok) kk
  · exact lv_sipush hx hb hd (of_decide_eq_true hok) kk
  · exact lv_ldc hx hb hown (hts _ (conT_w (of_decide_eq_true hok))) hd kk
  · exact lv_ldcw hx hb hown (hts _ (conT_w (of_decide_eq_true hok))) hd kk
  · cases hok
theorem o_lconst {i : Instr} {len : Nat} {v : Int} (C : CTX g X y p s m args meth c) (hd : decode (yc y) pc = .ok (i, len)) (hl : len = lenOf i) (hok : opOk (yo y) (yin y) (ml y) (.jsr_w v) i = true) {rest : List Value}
    (kk : W p l e R s m args below meth c H locs cells slots Q (F0 m (pc + len) ls (.long (Int64.ofInt v) :: rest))) : W p l e R s m args below meth c H locs cells slots Q (F0 m pc ls rest) := by
  obtain ⟨hx, hb, hml, hown, hts, -⟩ := C
  subst hl
  unfold opOk at hok
  dsimp only at hok
  rw [Bool.and_eq_true] at hok
  obtain ⟨-, hok⟩ := hok
  split at hok
  · exact lv_lconst hx hb hd (of_decide_eq_true hok) kk
  · exact lv_ldc2 hx hb hown (hts _ (conLT_w (of_decide_eq_true hok))) hd kk
  · cases hok
theorem o_ldcS {i : Instr} {len : Nat} {j : Nat} (C : CTX g X y p s m args meth c) (hd : decode (yc y) pc = .ok (i, len)) (hl : len = lenOf i) (hok : opOk (yo y) (yin y) (ml y) (.ldc j) i = true) {rest : List Value}
    (kk : W p l e R s m args below meth c H locs cells slots Q (F0 m (pc + len) ls (xv g (10 + j) :: rest))) : W p l e R s m args below meth c H locs cells slots Q (F0 m pc ls rest) := by
  obtain ⟨hx, hb, hml, hown, hts, -, hE, -⟩ := C
  subst hl
  unfold opOk at hok
  dsimp only at hok
  split at hok
  · rw [Bool.and_eq_true] at hok
    obtain ⟨tx, h1⟩ := hE.2.2.1 _ (strT_w (of_decide_eq_true hok.1))
    rw [xv_ref g (by omega)] at kk
    exact va_ldcS hx hb hown h1 hd kk
  · cases hok
theorem o_iload {i : Instr} {len k : Nat} {x : Int} (C : CTX g X y p s m args meth c) (hd : decode (yc y) pc = .ok (i, len)) (hl : len = lenOf i) (hok : opOk (yo y) (yin y) (ml y) (.iload k) i = true) {rest : List Value}
    (hv : ls[k]? = some (.val (.int (Int32.ofInt x)))) (kk : W p l e R s m args below meth c H locs cells slots Q (F0 m (pc + len) ls (.int (Int32.ofInt x) :: rest))) : W p l e R s m args below meth c H locs cells slots Q (F0 m pc ls rest) := by
  obtain ⟨hx, hb, -⟩ := C
  subst hl
  unfold opOk at hok
  dsimp only at hok
  split at hok
  · have := Nat.eq_of_beq_eq_true hok; subst this; exact lv_iload hx hb hd hv kk
  · have := Nat.eq_of_beq_eq_true hok; subst this; exact lv_iload_n hx hb hd rfl hv kk
  · cases hok
theorem o_lload {i : Instr} {len k : Nat} {x : Int} (C : CTX g X y p s m args meth c) (hd : decode (yc y) pc = .ok (i, len)) (hl : len = lenOf i) (hok : opOk (yo y) (yin y) (ml y) (.lload k) i = true) {rest : List Value}
    (hv : ls[k]? = some (.val (.long (Int64.ofInt x)))) (kk : W p l e R s m args below meth c H locs cells slots Q (F0 m (pc + len) ls (.long (Int64.ofInt x) :: rest))) : W p l e R s m args below meth c H locs cells slots Q (F0 m pc ls rest) := by
  obtain ⟨hx, hb, -⟩ := C
  subst hl
  unfold opOk at hok
  dsimp only at hok
  split at hok
  · have := Nat.eq_of_beq_eq_true hok; subst this; exact lv_lload hx hb hd hv kk
  · have := Nat.eq_of_beq_eq_true hok; subst this; exact lv_lload_n hx hb hd rfl hv kk
  · cases hok
theorem o_aload {i : Instr} {len k : Nat} {v : Value} (C : CTX g X y p s m args meth c) (hd : decode (yc y) pc = .ok (i, len)) (hl : len = lenOf i) (hok : opOk (yo y) (yin y) (ml y) (.aload k) i = true) {rest : List Value} (hr : v = .null ∨ ∃ a, v = .ref a)
    (hv : ls[k]? = some (.val v)) (kk : W p l e R s m args below meth c H locs cells slots Q (F0 m (pc + len) ls (v :: rest))) : W p l e R s m args below meth c H locs cells slots Q (F0 m pc ls rest) := by
  obtain ⟨hx, hb, -⟩ := C
  subst hl
  unfold opOk at hok
  dsimp only at hok
  split at hok
  · have := Nat.eq_of_beq_eq_true hok; subst this
    rcases hr with rfl | ⟨a, rfl⟩
    · exact lv_aloadN hx hb hd hv kk
    · exact lv_aload hx hb hd hv kk
  · have := Nat.eq_of_beq_eq_true hok; subst this
    rcases hr with rfl | ⟨a, rfl⟩
    · exact lv_aload_nN hx hb hd rfl hv kk
    · exact lv_aload_n hx hb hd rfl hv kk
  · cases hok
theorem o_istore {i : Instr} {len k : Nat} {x : Int} {L2 : List (Option AV)} (C : CTX g X y p s m args meth c) (hd : decode (yc y) pc = .ok (i, len)) (hl : len = lenOf i) (hok : opOk (yo y) (yin y) (ml y) (.istore k) i = true) {rest : List Value}
    (hr : lrel g L ls) (hL : L.length = ml y) (h : st1 L k (.inl x) = some L2) (kk : ∀ ls2, lrel g L2 ls2 → W p l e R s m args below meth c H locs cells slots Q (F0 m (pc + len) ls2 rest)) : W p l e R s m args below meth c H locs cells slots Q (F0 m pc ls (.int (Int32.ofInt x) :: rest)) := by
  obtain ⟨hx, hb, -⟩ := C
  subst hl
  unfold opOk at hok
  dsimp only at hok
  rw [Bool.and_eq_true] at hok
  obtain ⟨hlt, hok⟩ := hok
  have hlt : k < L.length := by rw [hL]; exact Nat.le_of_ble_eq_true hlt
  split at hok
  · have := Nat.eq_of_beq_eq_true hok; subst this
    exact lv_istore hx hb hd (lrel_has hr) hlt rfl (fun ls2 h2 => kk ls2 (st1_rel (v := .inl x) h rfl h2 hlt))
  · have := Nat.eq_of_beq_eq_true hok; subst this
    exact lv_istore_n hx hb hd rfl (lrel_has hr) hlt rfl (fun ls2 h2 => kk ls2 (st1_rel (v := .inl x) h rfl h2 hlt))
  · cases hok
theorem o_lstore {i : Instr} {len k : Nat} {x : Int} {L2 : List (Option AV)} (C : CTX g X y p s m args meth c) (hd : decode (yc y) pc = .ok (i, len)) (hl : len = lenOf i) (hok : opOk (yo y) (yin y) (ml y) (.lstore k) i = true) {rest : List Value}
    (hr : lrel g L ls) (hL : L.length = ml y) (h : st2 L k (.inr (.inl x)) = some L2) (kk : ∀ ls2, lrel g L2 ls2 → W p l e R s m args below meth c H locs cells slots Q (F0 m (pc + len) ls2 rest)) : W p l e R s m args below meth c H locs cells slots Q (F0 m pc ls (.long (Int64.ofInt x) :: rest)) := by
  obtain ⟨hx, hb, -⟩ := C
  subst hl
  unfold opOk at hok
  dsimp only at hok
  rw [Bool.and_eq_true] at hok
  obtain ⟨hlt, hok⟩ := hok
  have hlt : k + 1 < L.length := by rw [hL]; exact Nat.le_of_ble_eq_true hlt
  split at hok
  · have := Nat.eq_of_beq_eq_true hok; subst this
    exact lv_lstore hx hb hd (lrel_has hr) hlt rfl (fun ls2 h2 => kk ls2 (st2_rel (v := .inr (.inl x)) h h2 hlt))
  · have := Nat.eq_of_beq_eq_true hok; subst this
    exact lv_lstore_n hx hb hd rfl (lrel_has hr) hlt rfl (fun ls2 h2 => kk ls2 (st2_rel (v := .inr (.inl x)) h h2 hlt))
  · cases hok
theorem o_astore {i : Instr} {len k : Nat} {r : Nat ⊕ Nat} {L2 : List (Option AV)} (C : CTX g X y p s m args meth c) (hd : decode (yc y) pc = .ok (i, len)) (hl : len = lenOf i) (hok : opOk (yo y) (yin y) (ml y) (.astore k) i = true) {rest : List Value}
    (hr : lrel g L ls) (hL : L.length = ml y) (h : st1 L k (.inr (.inr r)) = some L2) (kk : ∀ ls2, lrel g L2 ls2 → W p l e R s m args below meth c H locs cells slots Q (F0 m (pc + len) ls2 rest)) : W p l e R s m args below meth c H locs cells slots Q (F0 m pc ls (vv g (.inr (.inr r)) :: rest)) := by
  obtain ⟨hx, hb, -⟩ := C
  subst hl
  unfold opOk at hok
  dsimp only at hok
  rw [Bool.and_eq_true] at hok
  obtain ⟨hlt, hok⟩ := hok
  have hlt : k < L.length := by rw [hL]; exact Nat.le_of_ble_eq_true hlt
  have hv : vv g (.inr (.inr r)) = .null ∨ ∃ a, vv g (.inr (.inr r)) = .ref a := by
    rcases r with r | r
    · cases r with
      | zero => exact Or.inl rfl
      | succ r => exact Or.inr ⟨_, rfl⟩
    · exact xv_or g r
  have hk := fun (ls2 : Array Slot) (h2 : lv_has ls2 L.length ((k, vv g (.inr (.inr r))) :: (enL g 0 L).filter (fun q => !(q.1 == k) && !(q.1 + 1 == k && q.2.category == 2)))) => kk ls2 (st1_rel h rfl h2 hlt)
  split at hok
  · have := Nat.eq_of_beq_eq_true hok; subst this
    rcases hv with hv | ⟨a, hv⟩
    · rw [hv] at hk ⊢; exact lv_astoreN hx hb hd (lrel_has hr) hlt rfl hk
    · rw [hv] at hk ⊢; exact lv_astore hx hb hd (lrel_has hr) hlt rfl hk
  · have := Nat.eq_of_beq_eq_true hok; subst this
    rcases hv with hv | ⟨a, hv⟩
    · rw [hv] at hk ⊢; exact lv_astore_nN hx hb hd rfl (lrel_has hr) hlt rfl hk
    · rw [hv] at hk ⊢; exact lv_astore_n hx hb hd rfl (lrel_has hr) hlt rfl hk
  · cases hok
theorem o_iinc {i : Instr} {len k : Nat} {n x : Int} {L2 : List (Option AV)} (C : CTX g X y p s m args meth c) (hd : decode (yc y) pc = .ok (i, len)) (hl : len = lenOf i) (hok : opOk (yo y) (yin y) (ml y) (.iinc k n) i = true) {rest : List Value}
    (hr : lrel g L ls) (hL : L.length = ml y) (hv : gl L k = some (some (.inl x))) (h : st1 L k (.inl (w32 (x + n))) = some L2) (kk : ∀ ls2, lrel g L2 ls2 → W p l e R s m args below meth c H locs cells slots Q (F0 m (pc + len) ls2 rest)) : W p l e R s m args below meth c H locs cells slots Q (F0 m pc ls rest) := by
  obtain ⟨hx, hb, -⟩ := C
  subst hl
  unfold opOk at hok
  dsimp only at hok
  rw [Bool.and_eq_true] at hok
  obtain ⟨hlt, hok⟩ := hok
  have hlt : k < L.length := by rw [hL]; exact Nat.le_of_ble_eq_true hlt
  split at hok
  · rw [Bool.and_eq_true] at hok
    have e1 := Nat.eq_of_beq_eq_true hok.1
    have e2 := of_decide_eq_true hok.2
    subst e1; subst e2
    obtain ⟨kx, hkx⟩ := List.getElem?_of_mem ((enL_mem g L 0 _).mpr ⟨k, .inl x, hv, rfl⟩)
    rw [Nat.zero_add] at hkx
    exact lv_iinc hx hb hd (lrel_has hr) hkx (v := Int32.ofInt (w32 (x + n))) (by rw [i_w32, Int32.ofInt_add]) hlt rfl (fun ls2 h2 => kk ls2 (st1_rel (v := .inl (w32 (x + n))) h rfl h2 hlt))
  · cases hok
end OPS
