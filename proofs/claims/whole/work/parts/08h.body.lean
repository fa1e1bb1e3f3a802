/-! a block's end, and a whole method -/
def BodyOK (l : Launch) (g : GP) (X : Xs) (n : Nat) : Prop := ∀ (d y b : Nat) (L : List (Option AV)) (S : List AV) (M M2 : Mm) (r : Option AV), run X n d y b (L, S, M) = some (M2, r) → y ≤ NM → ∀ pc, gl (pcs y) b = some pc →
  ∀ {p : Program} {e : Env} {R : Room} {s : State} {m : MethodId} {args : Array Value} {below : List Frame} {meth : Method} {c : Code} {H : Heap} {locs : List Loc} {cells slots : Nat} {Q : State → Prop} {ls : Array Slot} {k0 z0 : Nat},
    CTX g X y p s m args meth c → lrel g L ls → L.length = ml y → wfL L → wfS S → INV g s k0 z0 M H locs cells slots → M2.2.2.length ≤ k0 + R.cells → ksz M2.2.2 ≤ z0 + R.slots → d + 1 ≤ R.frames → 64 * (d + 1) ≤ R.locals →
    (∀ (pc2 : Nat) (ls2 : Array Slot) (H2 : Heap) (locs2 : List Loc) (cells2 slots2 : Nat) (i : Instr), decode (yc y) pc2 = .ok (i, 1) → retI (rty y) i → ROk (rty y) r → wfO r → INV g s k0 z0 M2 H2 locs2 cells2 slots2 → W p l e R s m args below meth c H2 locs2 cells2 slots2 Q (F0 m pc2 ls2 ((r.map (vv g)).toList))) →
    W p l e R s m args below meth c H locs cells slots Q (F0 m pc ls (S.map (vv g)))
theorem aidx_x {k a : Nat} {i : Int} {M : Mm} (h : aidx k a i M = true) : ∃ id n, a = id + 1 ∧ gl M.2.2 id = some (k, n) ∧ 0 ≤ i ∧ i < (n : Int) := by
  unfold aidx at h
  split at h
  · cases h
  · next id =>
    split at h
    · cases h
    · next q hq =>
      simp only [Bool.and_eq_true, decide_eq_true_eq] at h
      obtain ⟨h1, h2, h3⟩ := h
      have := Nat.eq_of_beq_eq_true h1
      exact ⟨id, q.2, rfl, by rw [hq, ← this], h2, h3⟩
theorem alen_x {a : Nat} {v : Int} {M : Mm} (h : alen a M = some v) : ∃ id q, a = id + 1 ∧ gl M.2.2 id = some q ∧ 100 ≤ q.1 ∧ v = (q.2 : Int) := by
  unfold alen at h
  split at h
  · cases h
  · next id =>
    split at h
    · cases h
    · next q hq =>
      split at h
      · next hk => cases h; exact ⟨id, q, rfl, hq, hk, rfl⟩
      · cases h
theorem up_off {V : Nat → Nat → Int} {a b : Nat} {x : Int} {i : Nat} (k : Nat) (h : i ≠ a) : up V a b x i k = V i k := by unfold up; rw [if_neg h]
theorem up_on {V : Nat → Nat → Int} {a b : Nat} {x : Int} (k : Nat) : up V a b x a k = if k = b then x else V a k := by unfold up; rw [if_pos rfl]
section BODY
variable {p : Program} {l : Launch} {e : Env} {R : Room} {s : State} {m : MethodId} {args : Array Value} {below : List Frame} {meth : Method} {c : Code} {H : Heap} {locs : List Loc} {cells slots : Nat} {Q : State → Prop} {g : GP} {X : Xs} {y k0 z0 : Nat} {pc : Nat} {ls : Array Slot} {L : List (Option AV)} {S : List AV} {M : Mm}
theorem inv_set {M2 : Mm} {id : Nat} {q : Nat × Nat} {H1 : Heap} {locs1 : List Loc} (I : INV g s k0 z0 M H locs cells slots) (hq : gl M.2.2 id = some q) (hK : M2.2.2 = M.2.2) (hV : ∀ i k, i ≠ id → M2.1 i k = M.1 i k) (hGg : M2.2.1 = M.2.1) (hw2 : wfM M2)
    (hP1 : va_P (gD g) vwCl ((wld g M).set id (g.1 + id, ent g M2 id q)) H1) (hS1 : va_S (Afn g) s.heap H1 locs1) : INV g s k0 z0 M2 H1 locs1 cells slots := by
  obtain ⟨hP, hD, hS, hw, hn0, hn1, hn2⟩ := I
  rw [← wld_set (g := g) hq hK hV (fun i k _ => by rw [hGg])] at hP1
  exact ⟨hP1, wld_D g M2, hS1, hw2, hn0, by rw [hK]; exact hn1, by rw [hK]; exact hn2⟩
theorem wfM_up2 {id k : Nat} {x : Int} {q : Nat × Nat} (hw : wfM M) (hq : gl M.2.2 id = some q) (hk : q.1 = 100 ∨ q.1 = 102 ∨ q.1 = 103) (hx : inI x) : wfM (up M.1 id k x, M.2.1, M.2.2) :=
  wfM_up hw hq ⟨fun z => by unfold cellL at z; omega, fun _ => hx⟩
theorem o_math {u : Value} {k idx : Nat} (C : CTX g X y p s m args meth c) (hd : decode (yc y) pc = .ok (.invokestatic idx, 3)) (hm : malT (yo y) idx k = true) (hs : ls.size = ml y) {rest : List Value} (hrest : (rest.map fun v => v.category).sum ≤ 8) (rf : 1 ≤ R.frames) (rl : 64 ≤ R.locals) (hc : cells ≤ R.cells) (hsl : slots ≤ R.slots) {a b : AV} (hab : (k = 1 ∧ ∃ x z, a = .inl x ∧ b = .inl z ∧ inI x ∧ inI z ∧ u = .int (Int32.ofInt (max x z))) ∨ (k = 2 ∧ ∃ x z, a = .inl x ∧ b = .inl z ∧ inI x ∧ inI z ∧ u = .int (Int32.ofInt (min x z))) ∨ (k = 3 ∧ ∃ x z, a = .inr (.inl x) ∧ b = .inr (.inl z) ∧ inJ x ∧ inJ z ∧ u = .long (Int64.ofInt (max x z))) ∨ (k = 4 ∧ ∃ x z, a = .inr (.inl x) ∧ b = .inr (.inl z) ∧ inJ x ∧ inJ z ∧ u = .long (Int64.ofInt (min x z))))
    (kk : W p l e R s m args below meth c H locs cells slots Q (F0 m (pc + 3) ls (u :: rest))) : W p l e R s m args below meth c H locs cells slots Q (F0 m pc ls (vv g b :: vv g a :: rest)) := by
  obtain ⟨hx, hb, hml, hown, hts, -, hE, hA0, -⟩ := C
  obtain ⟨q, hq, hq2⟩ := List.any_eq_true.mp hm
  rw [Bool.and_eq_true, Bool.and_eq_true] at hq2
  have e1 := Nat.eq_of_beq_eq_true hq2.1
  have e2 := Nat.eq_of_beq_eq_true hq2.2.1
  have e3 := Nat.eq_of_beq_eq_true hq2.2.2
  have hw := all_of mal_ok hq
  rw [Bool.and_eq_true] at hw
  have hw := of_decide_eq_true hw.1
  rw [e1, e2, e3] at hw
  have hlk : Cond.methodLink (cn (yo y)) idx (mthN k) ∈ gT := in_gT (at_tb hw) rfl
  have hmax : ∀ x z : Int, max x z = if x < z then z else x := fun x z => by omega
  have hmin : ∀ x z : Int, min x z = if z < x then z else x := fun x z => by omega
  have hmax2 : ∀ x z : Int, max x z = if z < x then x else z := fun x z => by omega
  rcases hab with ⟨rfl, x, z, rfl, rfl, hx1, hz1, rfl⟩ | ⟨rfl, x, z, rfl, rfl, hx1, hz1, rfl⟩ | ⟨rfl, x, z, rfl, rfl, hx1, hz1, rfl⟩ | ⟨rfl, x, z, rfl, rfl, hx1, hz1, rfl⟩
  · refine va_mmax hx hb (by rw [hml, hs]) hown (hts _ hlk) (hts _ (in_gT (at_tb (i := 198) (by decide +kernel)) rfl)) (hts _ (in_gT (at_tb (i := 6) (by decide +kernel)) rfl)) (hts _ (in_gT (at_tb (i := 199) (by decide +kernel)) rfl)) rf (by omega) hc hsl hd ?_
    rw [hmax] at kk
    by_cases h : x < z
    · rw [if_pos h] at kk; rw [if_pos ((i_lt hx1 hz1).mpr h)]; exact kk
    · rw [if_neg h] at kk; rw [if_neg (fun w => h ((i_lt hx1 hz1).mp w))]; exact kk
  · refine va_mmin hx hb (by rw [hml, hs]) hown (hts _ hlk) (hts _ (in_gT (at_tb (i := 605) (by decide +kernel)) rfl)) (hts _ (in_gT (at_tb (i := 6) (by decide +kernel)) rfl)) (hts _ (in_gT (at_tb (i := 606) (by decide +kernel)) rfl)) rf (by omega) hc hsl hd ?_
    rw [hmin] at kk
    by_cases h : z < x
    · rw [if_pos h] at kk; rw [if_pos ((i_lt hz1 hx1).mpr h)]; exact kk
    · rw [if_neg h] at kk; rw [if_neg (fun w => h ((i_lt hz1 hx1).mp w))]; exact kk
  · refine va_mmax_long hx hb (by rw [hml, hs]) hown (hts _ hlk) (hts _ (in_gT (at_tb (i := 917) (by decide +kernel)) rfl)) (hts _ (in_gT (at_tb (i := 6) (by decide +kernel)) rfl)) (hts _ (in_gT (at_tb (i := 918) (by decide +kernel)) rfl)) rf (by omega) hc hsl hd ?_
    rw [hmax2] at kk
    by_cases h : z < x
    · rw [if_pos h] at kk; rw [if_pos ((j_lt hz1 hx1).mpr h)]; exact kk
    · rw [if_neg h] at kk; rw [if_neg (fun w => h ((j_lt hz1 hx1).mp w))]; exact kk
  · refine va_mmin_long hx hb (by rw [hml, hs]) hown (hts _ hlk) (hts _ (in_gT (at_tb (i := 914) (by decide +kernel)) rfl)) (hts _ (in_gT (at_tb (i := 6) (by decide +kernel)) rfl)) (hts _ (in_gT (at_tb (i := 915) (by decide +kernel)) rfl)) rf (by omega) hc hsl hd ?_
    rw [hmin] at kk
    by_cases h : z < x
    · rw [if_pos h] at kk; rw [if_pos ((j_lt hz1 hx1).mpr h)]; exact kk
    · rw [if_neg h] at kk; rw [if_neg (fun w => h ((j_lt hz1 hx1).mp w))]; exact kk
theorem ent_len {as : List AV} : ∀ n, (entL as n).length = n ∨ catS as > n := by
  induction as with
  | nil =>
    intro n
    left
    induction n with
    | zero => rfl
    | succ n ih => show (none :: entL [] n).length = _; rw [List.length_cons, ih]
  | cons v as ih =>
    intro n
    rcases v with x | x | r
    · cases n with
      | zero => left; rfl
      | succ n =>
        show (some (.inl x) :: entL as n).length = _ ∨ 1 + catS as > n + 1
        rw [List.length_cons]
        rcases ih n with h | h
        · left; omega
        · right; omega
    · cases n with
      | zero => left; rfl
      | succ n =>
        cases n with
        | zero => right; show 2 + catS as > 1; omega
        | succ n =>
          show (some (.inr (.inl x)) :: none :: entL as n).length = _ ∨ 2 + catS as > n + 2
          rw [List.length_cons, List.length_cons]
          rcases ih n with h | h
          · left; omega
          · right; omega
    · cases n with
      | zero => left; rfl
      | succ n =>
        show (some (.inr (.inr r)) :: entL as n).length = _ ∨ 1 + catS as > n + 1
        rw [List.length_cons]
        rcases ih n with h | h
        · left; omega
        · right; omega
theorem ent_mem {as : List AV} : ∀ (n k i : Nat) (v : AV), catS as ≤ n → gl (entL as n) i = some (some v) → (k + i, vv g v) ∈ lv_args k (as.map (vv g)) := by
  induction as with
  | nil =>
    intro n k i v _ h
    exfalso
    induction n generalizing i with
    | zero => cases h
    | succ n ih =>
      cases i with
      | zero => cases h
      | succ i => exact ih i (Nat.zero_le _) h
  | cons w as ih =>
    intro n k i v hc h
    rcases w with x | x | r
    · have hc2 : 1 + catS as ≤ n := hc
      cases n with
      | zero => omega
      | succ n =>
        show _ ∈ (k, _) :: lv_args (k + 1) (as.map (vv g))
        cases i with
        | zero => cases h; exact List.mem_cons_self
        | succ i =>
          have := ih n (k + 1) i v (by omega) h
          rw [Nat.add_right_comm] at this
          exact List.mem_cons_of_mem _ this
    · have hc2 : 2 + catS as ≤ n := hc
      cases n with
      | zero => omega
      | succ n =>
        cases n with
        | zero => omega
        | succ n =>
          show _ ∈ (k, _) :: lv_args (k + 2) (as.map (vv g))
          cases i with
          | zero => cases h; exact List.mem_cons_self
          | succ i =>
            cases i with
            | zero => cases h
            | succ i =>
              have := ih n (k + 2) i v (by omega) h
              rw [show k + 2 + i = k + (i + 1 + 1) by omega] at this
              exact List.mem_cons_of_mem _ this
    · have hc2 : 1 + catS as ≤ n := hc
      cases n with
      | zero => omega
      | succ n =>
        have e9 : lv_args k (((Sum.inr (Sum.inr r) : AV) :: as).map (vv g)) = (k, vv g (.inr (.inr r))) :: lv_args (k + 1) (as.map (vv g)) := by
          show (k, _) :: lv_args (if (vv g (.inr (.inr r))).category = 2 then k + 2 else k + 1) _ = _
          rw [vv_cat]; rfl
        rw [e9]
        cases i with
        | zero => cases h; exact List.mem_cons_self
        | succ i =>
          have := ih n (k + 1) i v (by omega) h
          rw [Nat.add_right_comm] at this
          exact List.mem_cons_of_mem _ this
theorem ent_wf {as : List AV} (h : wfS as) (n : Nat) (hc : catS as ≤ n) : wfL (entL as n) := by
  intro i v hv
  have h1 : ∀ (as : List AV), wfS as → ∀ (n i : Nat) (v : AV), gl (entL as n) i = some (some v) → wfV v := by
    intro as
    induction as with
    | nil =>
      intro _ n i v h
      exfalso
      induction n generalizing i with
      | zero => cases h
      | succ n ih =>
        cases i with
        | zero => cases h
        | succ i => exact ih i h
    | cons w as ih =>
      intro hw n i v h
      have hw2 := wfS_c hw
      rcases w with x | x | r
      · cases n with
        | zero => cases h
        | succ n => cases i with
          | zero => cases h; exact hw2.1
          | succ i => exact ih hw2.2 n i v h
      · cases n with
        | zero => cases h
        | succ n => cases n with
          | zero => cases i with
            | zero => cases h; exact hw2.1
            | succ i => cases h
          | succ n => cases i with
            | zero => cases h; exact hw2.1
            | succ i => cases i with
              | zero => cases h
              | succ i => exact ih hw2.2 n i v h
      · cases n with
        | zero => cases h
        | succ n => cases i with
          | zero => cases h; exact hw2.1
          | succ i => exact ih hw2.2 n i v h
  exact h1 as h n i v hv
theorem sl_len (as : List AV) : (lg_sl (as.map (vv g))).length = catS as := by
  induction as with
  | nil => rfl
  | cons v as ih =>
    have e9 : lg_sl ((v :: as).map (vv g)) = (if (vv g v).category = 2 then [Slot.val (vv g v), .second] else [.val (vv g v)]) ++ lg_sl (as.map (vv g)) := rfl
    rw [e9, List.length_append, ih, vv_cat]
    rcases v with x | x | r
    · show 1 + _ = 1 + catS as; rfl
    · show 2 + _ = 2 + catS as; rfl
    · show 1 + _ = 1 + catS as; rfl
theorem i_i8 {x : Int} (h0 : 0 ≤ x) (h1 : x < 128) : (Int32.ofInt x).toInt8.toInt32 = Int32.ofInt x := by
  apply Int32.toInt_inj.mp
  rw [Int8.toInt_toInt32, Int32.toInt8_ofInt, Int8.toInt_ofInt, i_toInt ⟨by omega, by omega⟩]
  show x.bmod 256 = x
  unfold Int.bmod; simp only; split <;> omega
theorem rty_ok : (List.range NM).all (fun y => match rty y with
  | 0 => decide (yr y = some .int)
  | 1 => decide (yr y = some .boolean)
  | 2 => decide (yr y = some .char) || decide (yr y = some .byte)
  | 3 => decide (yr y = some .long)
  | 4 => decide (yr y = none)
  | 5 => decide (yr y = some (.array .int))
  | _ => false) = true := by decide +kernel
theorem met_of {n d y2 : Nat} {as : List AV} {M1 : Mm} {r : Option AV} (hB : BodyOK l g X n) (hy2 : y2 < NM) (h : run X n d y2 0 (entL as (ml y2), [], M) = some (M1, r)) (has : wfS as) (hcat : catS as ≤ ml y2) (hw : wfM M) (hX : XOK X) :
    Met l (yn y2) (mWs y2) (mRm d M M1) (mPc g X as M) (mQc g M1 r) (M1.2.2.length - M.2.2.length) (ksz M1.2.2 - ksz M.2.2) (Afn g) := by
  have hgr := (run_Gr X _ _ _ _ _ _ h).len
  dsimp only at hgr
  refine Met.ofW (cc := yc y2) (maxL := ml y2) (ret := yr y2) (yfx hy2).1 rfl ?_
  intro p e s m args below meth c s₁ B hml hv
  obtain ⟨rfl, hsz, hP, hE⟩ := hv
  have hts := atoms_spec (ws := mWs y2) B.pre
  have hown := findClass_of_methodNamed B.named
  rw [(yfx hy2).2.2.2.1] at hown
  have C : CTX g X y2 p s m (as.map (vv g)).toArray meth c := ⟨B.exec, B.bytes, hml, hown, fun w hw => hts w (List.mem_cons_of_mem _ hw), fun hi => by rw [(name_of_methodNamed B.named B.method).1]; exact (yfx hy2).2.2.2.2.2.2.1.mp hi, hE, by omega, hX⟩
  have hx := B.exec
  have hb := B.bytes
  have hr := B.returns
  have hlocks := B.notSynchronized
  rw [lg_entry_eq]
  have hl := lv_entry (as.map (vv g)) (n := ml y2) (by rw [sl_len]; exact hcat)
  generalize (lg_sl (as.map (vv g)) ++ List.replicate (ml y2 - (lg_sl (as.map (vv g))).length) Slot.unset).toArray = ls at hl ⊢
  have hel : (entL as (ml y2)).length = ml y2 := (ent_len (ml y2)).elim id (fun z => by omega)
  have hrel : lrel g (entL as (ml y2)) ls := ⟨by rw [hel]; exact hl.1, hl.2.1, fun i v hv => by
    have := ent_mem (g := g) (ml y2) 0 i v hcat hv
    rw [Nat.zero_add] at this
    exact hl.2.2 _ this⟩
  have hpc : gl (pcs y2) 0 = some 0 := by
    have h0 := chk_head (y := y2) (by unfold NM at hy2; omega)
    cases hp : pcs y2 with
    | nil => rw [hp] at h0; exact absurd h0 (by decide)
    | cons a t => rw [hp] at h0; have : a = 0 := h0; rw [this]; rfl
  have I0 : INV g s M.2.2.length (ksz M.2.2) M s.heap [] 0 0 := ⟨hP, wld_D g M, va_S.rf, hw, hsz, by omega, by omega⟩
  refine hB d y2 0 _ [] M M1 r h (Nat.le_of_lt hy2) 0 hpc C hrel hel (ent_wf has _ hcat) (fun v hv => by cases hv) I0 (by show _ ≤ _ + (_ - _); omega) (by show _ ≤ _ + (_ - _); omega) (Nat.le_refl _) (Nat.le_refl _) ?_
  intro pc2 ls2 H2 locs2 cells2 slots2 i hd hri hro hwo I2
  obtain ⟨hP2, hD2, hS2, hw2, -, hn1, hn2⟩ := I2
  have ec : cells2 = M1.2.2.length - M.2.2.length := by omega
  have es : slots2 = ksz M1.2.2 - ksz M.2.2 := by omega
  subst ec; subst es
  have hq : ∀ (t : State), t.heap = H2 → s.WarmedH t.vm → mQc g M1 r (as.map (vv g)).toArray s (.returned (r.map (vv g))) t := fun t ht _ => ⟨⟨rfl, by rw [ht]; exact hP2, hD2, hw2, hwo⟩, hS2.F ht⟩
  have hrk := all_of rty_ok (List.mem_range.mpr hy2)
  unfold ROk at hro
  split at hro
  · next hk =>
    rw [hk] at hri hrk
    have hri : i = .ireturn := hri
    have hrk := of_decide_eq_true hrk
    subst hri
    exact W.iret hx hb (hr.trans hrk) hq hS2.2.2 hd
  · next x hk =>
    rw [hk] at hri hrk
    have hri : i = .ireturn := hri
    have hrk := of_decide_eq_true hrk
    subst hri
    exact W.zret hx hb (hr.trans hrk) (by rcases hro with rfl | rfl <;> rfl) hq hS2.2.2 hd
  · next x hk =>
    rw [hk] at hri hrk
    have hri : i = .ireturn := hri
    have hrk : (decide (yr y2 = some .char) || decide (yr y2 = some .byte)) = true := hrk
    rw [Bool.or_eq_true, decide_eq_true_eq, decide_eq_true_eq] at hrk
    subst hri
    rcases hrk with hrk | hrk
    · refine W.zret hx hb (hr.trans hrk) ?_ hq hS2.2.2 hd
      have := (pk_charN (q := x.toNat) (by omega)).1
      have e8 : nI x.toNat = Int32.ofInt x := by show Int32.ofNat _ = _; rw [i_ofNat]; congr 1; omega
      rw [e8] at this
      exact this
    · refine W.zret hx hb (hr.trans hrk) ?_ hq hS2.2.2 hd
      show Value.int _ = _
      rw [i_i8 hro.1 hro.2]
  · next hk =>
    rw [hk] at hri hrk
    have hri : i = .lreturn := hri
    have hrk := of_decide_eq_true hrk
    subst hri
    exact W.lret hx hb (hr.trans hrk) hq hS2.2.2 hd
  · next hk =>
    rw [hk] at hri hrk
    have hri : i = .return_ := hri
    have hrk := of_decide_eq_true hrk
    subst hri
    exact W.vret hx hb (hr.trans hrk) hq hS2.2.2 hd
  · next hk =>
    rw [hk] at hri hrk
    have hri : i = .areturn := hri
    have hrk := of_decide_eq_true hrk
    subst hri
    exact W.aret hx hb (hr.trans hrk) (Or.inr ⟨_, rfl⟩) (Or.inr ⟨_, rfl⟩) hq hS2.2.2 hd
  · cases hro
end BODY
