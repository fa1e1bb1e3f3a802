/-! a run writes only into cells that can be reached: P is a set of cells that is closed under what the cells hold -/
def okV (P : Nat → Prop) : AV → Prop
  | .inr (.inr (.inl (id + 1))) => P id
  | _ => True
def okS (P : Nat → Prop) : List AV → Prop
  | [] => True
  | v :: S => okV P v ∧ okS P S
def okL (P : Nat → Prop) (L : List (Option AV)) : Prop := ∀ k v, gl L k = some (some v) → okV P v
def okM (P : Nat → Prop) (M : Mm) : Prop := (∀ id k r, P id → M.2.1 id k = r + 1 → P r) ∧ ∀ id, M.2.2.length ≤ id → P id
def FrM (P : Nat → Prop) (M M2 : Mm) : Prop := ∀ id, ¬ P id → M2.1 id = M.1 id ∧ M2.2.1 id = M.2.1 id
def okB (P : Nat → Prop) (L2 : List (Option AV)) (S2 : List AV) (M M2 : Mm) : Prop := okL P L2 ∧ okS P S2 ∧ okM P M2 ∧ FrM P M M2
theorem FrM.rf {P : Nat → Prop} {M : Mm} : FrM P M M := fun _ _ => ⟨rfl, rfl⟩
theorem FrM.tr {P : Nat → Prop} {M M2 M3 : Mm} (h1 : FrM P M M2) (h2 : FrM P M2 M3) : FrM P M M3 := fun id h => ⟨(h2 id h).1.trans (h1 id h).1, (h2 id h).2.trans (h1 id h).2⟩
theorem gl_sl {α : Type} (l : List α) (k j : Nat) (v : α) (w : α) (h : gl (sl l k v) j = some w) : w = v ∨ gl l j = some w := by
  induction l generalizing k j with
  | nil => cases h
  | cons a l ih =>
    cases k with
    | zero =>
      cases j with
      | zero => left; exact (Option.some.inj h).symm
      | succ j => right; exact h
    | succ k =>
      cases j with
      | zero => right; exact h
      | succ j => exact ih k j h
theorem okL_sl {P : Nat → Prop} {L : List (Option AV)} {k : Nat} {v : AV} (h : okL P L) (hv : okV P v) : okL P (sl L k (some v)) := by
  intro j w hw
  rcases gl_sl _ _ _ _ _ hw with e | e
  · cases e; exact hv
  · exact h j w e
theorem okL_sn {P : Nat → Prop} {L : List (Option AV)} {k : Nat} (h : okL P L) : okL P (sl L k none) := by
  intro j w hw
  rcases gl_sl _ _ _ _ _ hw with e | e
  · cases e
  · exact h j w e
theorem okL_st1 {P : Nat → Prop} {L L2 : List (Option AV)} {k : Nat} {v : AV} (e : st1 L k v = some L2) (h : okL P L) (hv : okV P v) : okL P L2 := by
  unfold st1 at e
  split at e
  · cases e; exact okL_sl h hv
  · split at e
    · cases e
    · cases e; exact okL_sl h hv
theorem okL_st2 {P : Nat → Prop} {L L2 : List (Option AV)} {k : Nat} {v : AV} (e : st2 L k v = some L2) (h : okL P L) (hv : okV P v) : okL P L2 := by
  unfold st2 at e
  split at e
  · cases e; exact okL_sn (okL_sl h hv)
  · split at e
    · cases e
    · cases e; exact okL_sn (okL_sl h hv)
theorem getf_P {P : Nat → Prop} {c k a : Nat} {M : Mm} {v : AV} (e : getf c k a M = some v) (hM : okM P M) (ha : okV P (.inr (.inr (.inl a)))) : okV P v := by
  unfold getf at e
  split at e
  · cases e
  · next id =>
    split at e
    · cases e
    · split at e
      · cases e
      · split at e
        · cases e
        · cases e
          cases hr : M.2.1 id k with
          | zero => exact trivial
          | succ r => exact hM.1 id k r ha hr
        · cases e; exact trivial
        · cases e; exact trivial
theorem up_ne {V : Nat → Nat → Int} {a b : Nat} {x : Int} {id : Nat} (h : id ≠ a) : up V a b x id = V id := by
  funext j; exact if_neg h
theorem upG_ne {V : Nat → Nat → Nat} {a b : Nat} {x : Nat} {id : Nat} (h : id ≠ a) : upG V a b x id = V id := by
  funext j; exact if_neg h
theorem okM.up {P : Nat → Prop} {M : Mm} {id k : Nat} {x : Int} (hM : okM P M) : okM P (up M.1 id k x, M.2.1, M.2.2) := ⟨hM.1, hM.2⟩
theorem FrM.up {P : Nat → Prop} {M : Mm} {id k : Nat} {x : Int} (h : P id) : FrM P M (up M.1 id k x, M.2.1, M.2.2) := fun j hj => ⟨up_ne (fun e => hj (e ▸ h)), rfl⟩
theorem putf_P {P : Nat → Prop} {c k a : Nat} {v : AV} {M M2 : Mm} (e : putf c k a v M = some M2) (hM : okM P M) (hv : okV P v) (ha : okV P (.inr (.inr (.inl a)))) : okM P M2 ∧ FrM P M M2 := by
  unfold putf at e
  split at e
  · cases e
  · next id =>
    split at e
    · cases e
    · split at e
      · cases e
      · split at e
        · cases e
          refine ⟨⟨fun j l r h1 h2 => ?_, hM.2⟩, fun j hj => ⟨rfl, upG_ne (fun z => hj (z ▸ ha))⟩⟩
          have h3 : (if j = id then (if l = k then _ else M.2.1 j l) else M.2.1 j l) = r + 1 := h2
          split at h3
          · split at h3
            · subst h3; exact hv
            · exact hM.1 j l r h1 h3
          · exact hM.1 j l r h1 h3
        · cases e; exact ⟨hM.up, FrM.up ha⟩
        · split at e
          · cases e; exact ⟨hM.up, FrM.up ha⟩
          · cases e
        · cases e; exact ⟨hM.up, FrM.up ha⟩
        · cases e
theorem okM.new {P : Nat → Prop} {M : Mm} {q : Nat × Nat} (hM : okM P M) : okM P (zr M.1 M.2.2.length, zrG M.2.1 M.2.2.length, M.2.2 ++ [q]) ∧ FrM P M (zr M.1 M.2.2.length, zrG M.2.1 M.2.2.length, M.2.2 ++ [q]) := by
  refine ⟨⟨fun j l r h1 h2 => ?_, fun j hj => hM.2 j ?_⟩, fun j hj => ?_⟩
  · have h3 : (if j = M.2.2.length then 0 else M.2.1 j l) = r + 1 := h2
    split at h3
    · cases h3
    · exact hM.1 j l r h1 h3
  · have : (M.2.2 ++ [q]).length ≤ j := hj
    rw [List.length_append] at this; omega
  · have hne : ¬ j = M.2.2.length := fun e => hj (hM.2 j (by omega))
    exact ⟨by funext l; exact if_neg hne, by funext l; exact if_neg hne⟩
set_option maxHeartbeats 4000000 in
theorem op1_P {P : Nat → Prop} {X : Xs} {i : Instr} {L L2 : List (Option AV)} {S S2 : List AV} {M M2 : Mm} (h : op1 X i L S M = some (L2, S2, M2)) (hL : okL P L) (hS : okS P S) (hM : okM P M) : okB P L2 S2 M M2 := by
  unfold op1 at h
  split at h
  all_goals first
    | (cases h; exact ⟨hL, ⟨trivial, hS⟩, hM, FrM.rf⟩)
    | with_reducible exact nn_ h
    | skip
  all_goals (split at h)
  all_goals first
    | with_reducible exact nn_ h
    | (cases h; exact ⟨hL, ⟨trivial, hS⟩, hM, FrM.rf⟩)
    | (cases h; exact ⟨hL, hS.2, hM, FrM.rf⟩)
    | (cases h; exact ⟨hL, ⟨trivial, hS.2⟩, hM, FrM.rf⟩)
    | (cases h; exact ⟨hL, ⟨trivial, hS.2.2⟩, hM, FrM.rf⟩)
    | (cases h; exact ⟨hL, ⟨hS.1, hS.1, hS.2⟩, hM, FrM.rf⟩)
    | (cases h; exact ⟨hL, ⟨hS.1, hS.2.1, hS.1, hS.2.1, hS.2.2⟩, hM, FrM.rf⟩)
    | (cases h; exact ⟨hL, trivial, hM, FrM.rf⟩)
    | (next hg => cases h; exact ⟨hL, ⟨hL _ _ hg, hS⟩, hM, FrM.rf⟩)
    | (cases h; exact ⟨hL, ⟨hM.2 _ (Nat.le_refl _), hS⟩, hM.new.1, hM.new.2⟩)
    | skip
  all_goals (split at h)
  all_goals first
    | with_reducible exact nn_ h
    | (next e => cases h; exact ⟨okL_st1 e hL hS.1, hS.2, hM, FrM.rf⟩)
    | (next e => cases h; exact ⟨okL_st2 e hL hS.1, hS.2, hM, FrM.rf⟩)
    | (next e => cases h; exact ⟨okL_st1 e hL trivial, hS, hM, FrM.rf⟩)
    | (next e => cases h; exact ⟨hL, ⟨getf_P e hM hS.1, hS.2⟩, hM, FrM.rf⟩)
    | (next e => cases h; exact ⟨hL, hS.2.2, (putf_P e hM hS.1 hS.2.1).1, (putf_P e hM hS.1 hS.2.1).2⟩)
    | (cases h; exact ⟨hL, ⟨trivial, hS.2⟩, hM, FrM.rf⟩)
    | (cases h; exact ⟨hL, ⟨hM.2 _ (Nat.le_refl _), hS.2⟩, hM.new.1, hM.new.2⟩)
    | skip
  all_goals (split at h)
  all_goals first
    | with_reducible exact nn_ h
    | (cases h; exact ⟨hL, ⟨trivial, hS.2⟩, hM, FrM.rf⟩)
    | skip
theorem runB_P {P : Nat → Prop} {X : Xs} (ops : List Instr) : ∀ (s u : Fr), runB X ops s = some u → okL P s.1 → okS P s.2.1 → okM P s.2.2 → okB P u.1 u.2.1 s.2.2 u.2.2 := by
  induction ops with
  | nil => intro s u h hL hS hM; cases h; exact ⟨hL, hS, hM, FrM.rf⟩
  | cons i ops ih =>
    intro s u h hL hS hM
    unfold runB at h
    cases hs : op1 X i s.1 s.2.1 s.2.2 with
    | none => rw [hs] at h; cases h
    | some v =>
      rw [hs] at h
      obtain ⟨a, b, c, e⟩ := op1_P (L2 := v.1) (S2 := v.2.1) (M2 := v.2.2) hs hL hS hM
      obtain ⟨a2, b2, c2, e2⟩ := ih v u h a b c
      exact ⟨a2, b2, c2, e.tr e2⟩
theorem okS.mem {P : Nat → Prop} {S : List AV} : okS P S ↔ ∀ v, v ∈ S → okV P v := by
  induction S with
  | nil => exact ⟨fun _ v h => absurd h List.not_mem_nil, fun _ => trivial⟩
  | cons a S ih =>
    constructor
    · intro h v hv
      rcases List.mem_cons.mp hv with e | e
      · rw [e]; exact h.1
      · exact ih.mp h.2 v e
    · intro h
      exact ⟨h a (List.mem_cons_self ..), ih.mpr (fun v hv => h v (List.mem_cons_of_mem _ hv))⟩
theorem okL.ent {P : Nat → Prop} : ∀ (n : Nat) (vs : List AV), okS P vs → okL P (entL vs n) := by
  intro n
  induction n using Nat.strongRecOn with
  | ind n ih =>
    intro vs hv k v hk
    match n, vs, hv, hk with
    | 0, vs, hv, hk => simp [entL, gl] at hk
    | n + 1, [], hv, hk =>
      cases k with
      | zero => simp [entL, gl] at hk
      | succ k => simp only [entL, gl] at hk; exact ih n (Nat.lt_succ_self _) [] trivial k v hk
    | 1, .inr (.inl x) :: vs, hv, hk =>
      simp only [entL] at hk
      cases k with
      | zero => simp only [gl] at hk; cases hk; exact trivial
      | succ k => simp [gl] at hk
    | n + 2, .inr (.inl x) :: vs, hv, hk =>
      simp only [entL] at hk
      cases k with
      | zero => simp only [gl] at hk; cases hk; exact trivial
      | succ k =>
        cases k with
        | zero => simp [gl] at hk
        | succ k => simp only [gl] at hk; exact ih n (by omega) vs hv.2 k v hk
    | n + 1, .inl x :: vs, hv, hk =>
      simp only [entL] at hk
      cases k with
      | zero => simp only [gl] at hk; cases hk; exact trivial
      | succ k => simp only [gl] at hk; exact ih n (by omega) vs hv.2 k v hk
    | n + 1, .inr (.inr x) :: vs, hv, hk =>
      simp only [entL] at hk
      cases k with
      | zero => simp only [gl] at hk; cases hk; exact hv.1
      | succ k => simp only [gl] at hk; exact ih n (by omega) vs hv.2 k v hk
theorem aidx_P {P : Nat → Prop} {k a : Nat} {i : Int} {M : Mm} (h : aidx k a i M = true) (ha : okV P (.inr (.inr (.inl a)))) : P (a - 1) := by
  unfold aidx at h
  split at h
  · cases h
  · exact ha
theorem upR_fr {P : Nat → Prop} {M : Mm} {a : Nat} {f : Nat → Int} (h : P a) : FrM P M (upR M.1 a f, M.2.1, M.2.2) := fun j hj => ⟨by funext l; exact if_neg (fun e : j = a => hj (e ▸ h)), rfl⟩
def okF (P : Nat → Prop) (f : Nat → Nat → Nat → Fr → Res) : Prop := ∀ d y b s r, f d y b s = some r → okL P s.1 → okS P s.2.1 → okM P s.2.2 → FrM P s.2.2 r.1 ∧ okM P r.1 ∧ ∀ v, r.2 = some v → okV P v
theorem okF.go {P : Nat → Prop} {f : Nat → Nat → Nat → Fr → Res} (hf : okF P f) {M M2 : Mm} (h1 : FrM P M M2) {d y b : Nat} {L : List (Option AV)} {S : List AV} {r : Mm × Option AV} (h : f d y b (L, S, M2) = some r) (hL : okL P L) (hS : okS P S) (hM : okM P M2) : FrM P M r.1 ∧ okM P r.1 ∧ ∀ v, r.2 = some v → okV P v := by
  obtain ⟨a, b, c⟩ := hf _ _ _ _ _ h hL hS hM
  exact ⟨h1.tr a, b, c⟩
theorem okS.take {P : Nat → Prop} {S : List AV} {n : Nat} (h : okS P S) : okS P (S.take n).reverse := okS.mem.mpr (fun v hv => okS.mem.mp h v (List.mem_of_mem_take (List.mem_reverse.mp hv)))
theorem okS.drop {P : Nat → Prop} {S : List AV} {n : Nat} (h : okS P S) (o : Option AV) (ho : ∀ v, o = some v → okV P v) : okS P (o.toList ++ S.drop n) := by
  refine okS.mem.mpr (fun v hv => ?_)
  rcases List.mem_append.mp hv with e | e
  · cases o with
    | none => cases e
    | some w => rw [Option.toList_some, List.mem_singleton] at e; rw [e]; exact ho w rfl
  · exact okS.mem.mp h v (List.mem_of_mem_drop e)
theorem okF.call {P : Nat → Prop} {f : Nat → Nat → Nat → Fr → Res} (hf : okF P f) {n : Nat} {M M1 : Mm} {o : Option AV} {d1 d y2 y b ml : Nat} {L : List (Option AV)} {S : List AV} {r : Mm × Option AV} (e : f d1 y2 0 (entL (S.take n).reverse ml, [], M) = some (M1, o)) (h : f d y b (L, o.toList ++ S.drop n, M1) = some r) (hL : okL P L) (hS : okS P S) (hM : okM P M) : FrM P M r.1 ∧ okM P r.1 ∧ ∀ v, r.2 = some v → okV P v := by
  obtain ⟨a, b, c⟩ := hf _ _ _ _ _ e (okL.ent _ _ hS.take) trivial hM
  exact hf.go a h hL (hS.drop o c) b
set_option maxRecDepth 20000 in
set_option maxHeartbeats 8000000 in
theorem trm_P {P : Nat → Prop} {X : Xs} {f : Nat → Nat → Nat → Fr → Res} (hf : okF P f) {d y : Nat} {t : Instr} {tg : List Nat} {L : List (Option AV)} {S : List AV} {M : Mm} {r : Mm × Option AV} (h : trm X f d y t tg L S M = some r) (hL : okL P L) (hS : okS P S) (hM : okM P M) : FrM P M r.1 ∧ okM P r.1 ∧ ∀ v, r.2 = some v → okV P v := by
  unfold trm at h
  split at h
  all_goals first
    | with_reducible exact nn_ h
    | with_reducible exact hf.go FrM.rf h hL hS hM
    | skip
  all_goals (split at h)
  all_goals first
    | with_reducible exact nn_ h
    | exact hf.go FrM.rf h hL hS.2 hM
    | exact hf.go FrM.rf h hL hS.2.2 hM
    | (cases h; exact ⟨FrM.rf, hM, fun v hv => by cases hv; exact trivial⟩)
    | (cases h; exact ⟨FrM.rf, hM, fun v hv => by cases hv; exact hS.1⟩)
    | (cases h; exact ⟨FrM.rf, hM, fun v hv => by cases hv⟩)
    | skip
  all_goals (split at h)
  all_goals first
    | with_reducible exact nn_ h
    | exact hf.go FrM.rf h hL ⟨trivial, hS.2.2⟩ hM
    | exact hf.go FrM.rf h hL ⟨trivial, hS.2⟩ hM
    | (rename_i hc; exact hf.go (FrM.up (aidx_P hc hS.2.2.1)) h hL hS.2.2.2 hM.up)
    | (rename_i hc; exact hf.go (FrM.up (aidx_P hc.1 hS.2.2.1)) h hL hS.2.2.2 hM.up)
    | (cases h; exact ⟨FrM.rf, hM, fun v hv => by cases hv; exact trivial⟩)
    | skip
  all_goals (split at h)
  all_goals first
    | with_reducible exact nn_ h
    | exact hf.go FrM.rf h hL ⟨trivial, hS.2.2⟩ hM
    | (rename_i hc; exact hf.go (upR_fr (aidx_P hc.2.2.2.2.2.2.2 hS.2.2.1)) h hL hS.2.2.2.2.2 ⟨hM.1, hM.2⟩)
    | (rename_i heq; exact hf.call heq h hL hS hM)
    | skip
theorem run_P (P : Nat → Prop) (X : Xs) : ∀ (n : Nat), okF P (run X n) := by
  intro n
  induction n with
  | zero => intro d y b s r h; cases h
  | succ n ih =>
    intro d y b s r h hL hS hM
    have h2 : stp X (run X n) d y b s = some r := h
    unfold stp at h2
    split at h2
    · cases h2
    · split at h2
      · cases h2
      · next u hu =>
        obtain ⟨a, b, c, e⟩ := runB_P _ _ _ hu hL hS hM
        obtain ⟨a2, b2, c2⟩ := trm_P ih h2 a b c
        exact ⟨e.tr a2, b2, c2⟩
/-- what a contract says of the cells that can't be reached -/
theorem Ok.fr {X : Xs} {d y b : Nat} {s : Fr} {Q : Mm → Option AV → Prop} (h : Ok X d y b s Q) (P : Nat → Prop) (hL : okL P s.1) (hS : okS P s.2.1) (hM : okM P s.2.2) : Ok X d y b s (fun M r => Q M r ∧ FrM P s.2.2 M) := by
  obtain ⟨n, M, r, h1, h2⟩ := h
  exact ⟨n, M, r, h1, h2, (run_P P X n _ _ _ _ _ h1 hL hS hM).1⟩
