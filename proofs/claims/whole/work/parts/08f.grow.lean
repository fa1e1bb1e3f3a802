/-! a run only makes more cells -/
def Gr (M M2 : Mm) : Prop := ∃ kx, M2.2.2 = M.2.2 ++ kx
theorem Gr.rf {M : Mm} : Gr M M := ⟨[], (List.append_nil _).symm⟩
theorem Gr.eq {M M2 : Mm} (h : M2.2.2 = M.2.2) : Gr M M2 := ⟨[], by rw [h, List.append_nil]⟩
theorem Gr.tr {M M2 M3 : Mm} (h1 : Gr M M2) (h2 : Gr M2 M3) : Gr M M3 := by
  obtain ⟨a, e1⟩ := h1
  obtain ⟨b, e2⟩ := h2
  exact ⟨a ++ b, by rw [e2, e1, List.append_assoc]⟩
theorem ksz_app2 (a b : List (Nat × Nat)) : ksz (a ++ b) = ksz a + ksz b := by
  induction a with
  | nil => simp [ksz]
  | cons q a ih => simp only [List.cons_append, ksz, ih]; omega
theorem Gr.len {M M2 : Mm} (h : Gr M M2) : M.2.2.length ≤ M2.2.2.length ∧ ksz M.2.2 ≤ ksz M2.2.2 := by
  obtain ⟨a, e1⟩ := h
  rw [e1, List.length_append, ksz_app2]
  omega
theorem putf_K {c k a : Nat} {v : AV} {M M2 : Mm} (h : putf c k a v M = some M2) : M2.2.2 = M.2.2 := by
  unfold putf at h
  split at h
  · cases h
  · split at h
    · cases h
    · split at h
      · cases h
      · split at h
        · cases h; rfl
        · cases h; rfl
        · split at h
          · cases h; rfl
          · cases h
        · cases h; rfl
        · cases h
theorem op1_Gr {X : Xs} {i : Instr} {L L2 : List (Option AV)} {S S2 : List AV} {M M2 : Mm} (h : op1 X i L S M = some (L2, S2, M2)) : Gr M M2 := by
  unfold op1 at h
  split at h
  all_goals first
    | (cases h; exact Gr.rf)
    | with_reducible exact nn_ h
    | (split at h <;> first
        | (cases h; exact Gr.rf)
        | (cases h; done)
        | (cases h; exact ⟨_, rfl⟩)
        | (split at h <;> first
            | (cases h; exact Gr.rf)
            | (cases h; done)
            | (cases h; exact ⟨_, rfl⟩)
            | (next hp => cases h; exact Gr.eq (putf_K hp))
            | (split at h <;> first
                | (cases h; exact Gr.rf)
                | (cases h; done))))
theorem runB_Gr {X : Xs} (ops : List Instr) : ∀ (s u : Fr), runB X ops s = some u → Gr s.2.2 u.2.2 := by
  induction ops with
  | nil => intro s u h; cases h; exact Gr.rf
  | cons i ops ih =>
    intro s u h
    unfold runB at h
    cases hs : op1 X i s.1 s.2.1 s.2.2 with
    | none => rw [hs] at h; cases h
    | some v =>
      rw [hs] at h
      exact (op1_Gr (L2 := v.1) (S2 := v.2.1) (M2 := v.2.2) hs).tr (ih v u h)
set_option maxRecDepth 20000 in
set_option maxHeartbeats 4000000 in
theorem trm_Gr {X : Xs} {f : Nat → Nat → Nat → Fr → Res} (hf : ∀ d y b s r, f d y b s = some r → Gr s.2.2 r.1) {d y : Nat} {t : Instr} {tg : List Nat} {L : List (Option AV)} {S : List AV} {M : Mm} {r : Mm × Option AV} (h : trm X f d y t tg L S M = some r) : Gr M r.1 := by
  unfold trm at h
  split at h
  all_goals first
    | with_reducible exact nn_ h
    | with_reducible exact hf _ _ _ _ _ h
    | skip
  all_goals (split at h)
  all_goals first
    | with_reducible exact nn_ h
    | with_reducible exact hf _ _ _ _ _ h
    | (cases h; exact Gr.rf)
    | skip
  all_goals (split at h)
  all_goals first
    | with_reducible exact nn_ h
    | with_reducible exact hf _ _ _ _ _ h
    | (cases h; exact Gr.rf)
    | (exact (Gr.eq rfl).tr (hf _ _ _ _ _ h))
    | skip
  all_goals (split at h)
  all_goals first
    | with_reducible exact nn_ h
    | with_reducible exact hf _ _ _ _ _ h
    | (exact (Gr.eq rfl).tr (hf _ _ _ _ _ h))
    | (rename_i heq; exact (hf _ _ _ _ _ heq).tr (hf _ _ _ _ _ h))
    | skip
theorem run_Gr (X : Xs) : ∀ (n d y b : Nat) (s : Fr) (r : Mm × Option AV), run X n d y b s = some r → Gr s.2.2 r.1 := by
  intro n
  induction n with
  | zero => intro d y b s r h; cases h
  | succ n ih =>
    intro d y b s r h
    have h2 : stp X (run X n) d y b s = some r := h
    unfold stp at h2
    split at h2
    · cases h2
    · split at h2
      · cases h2
      · next hu => exact (runB_Gr _ _ _ hu).tr (trm_Gr ih h2)
