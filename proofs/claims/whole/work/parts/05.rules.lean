/-! the small machine's rules: 'Ok' says that the machine comes to an end that Q holds of -/
theorem nn_ {α : Type} {r : α} {P : Prop} (h : (none : Option α) = some r) : P := by cases h
set_option maxRecDepth 20000 in
set_option maxHeartbeats 4000000 in
theorem trm_mono {X : Xs} {f g : Nat → Nat → Nat → Fr → Res} (hf : ∀ d y b s r, f d y b s = some r → g d y b s = some r) {d y : Nat} {t : Instr} {tg : List Nat} {L : List (Option AV)} {S : List AV} {M : Mm} {r : Mm × Option AV} (h : trm X f d y t tg L S M = some r) : trm X g d y t tg L S M = some r := by
  unfold trm at h ⊢
  split at h
  all_goals first
    | with_reducible exact hf _ _ _ _ _ h
    | with_reducible exact h
    | skip
  all_goals (split at h)
  all_goals first
    | with_reducible exact nn_ h
    | with_reducible exact hf _ _ _ _ _ h
    | with_reducible exact h
    | (rename_i hc; rw [if_pos hc]; with_reducible exact hf _ _ _ _ _ h)
    | (rename_i hc; rw [if_neg hc]; with_reducible exact hf _ _ _ _ _ h)
    | (rename_i hc; rw [if_pos hc]; with_reducible exact h)
    | (rename_i hc; rw [if_pos hc])
    | (rename_i heq; with_reducible (rw [hf _ _ _ _ _ heq]; exact hf _ _ _ _ _ h))
    | skip
  all_goals (split at h)
  all_goals first
    | with_reducible exact nn_ h
    | with_reducible exact hf _ _ _ _ _ h
    | with_reducible exact h
    | (rename_i hc; rw [if_pos hc]; with_reducible exact hf _ _ _ _ _ h)
    | (rename_i hc; rw [if_neg hc]; with_reducible exact hf _ _ _ _ _ h)
    | (rename_i hc; rw [if_pos hc]; with_reducible exact h)
    | (rename_i hc; rw [if_pos hc])
    | (rename_i heq; with_reducible (rw [hf _ _ _ _ _ heq]; exact hf _ _ _ _ _ h))
    | skip
  all_goals (split at h)
  all_goals first
    | with_reducible exact nn_ h
    | with_reducible exact hf _ _ _ _ _ h
    | with_reducible exact h
    | (rename_i hc; rw [if_pos hc]; with_reducible exact hf _ _ _ _ _ h)
    | (rename_i hc; rw [if_neg hc]; with_reducible exact hf _ _ _ _ _ h)
    | (rename_i hc; rw [if_pos hc]; with_reducible exact h)
    | (rename_i hc; rw [if_pos hc])
    | (rename_i heq; with_reducible (rw [hf _ _ _ _ _ heq]; exact hf _ _ _ _ _ h))
    | skip
  all_goals (split at h)
  all_goals first
    | with_reducible exact nn_ h
    | with_reducible exact hf _ _ _ _ _ h
    | with_reducible exact h
    | (rename_i hc; rw [if_pos hc]; with_reducible exact hf _ _ _ _ _ h)
    | (rename_i hc; rw [if_neg hc]; with_reducible exact hf _ _ _ _ _ h)
    | (rename_i hc; rw [if_pos hc]; with_reducible exact h)
    | (rename_i hc; rw [if_pos hc])
    | (rename_i heq; with_reducible (rw [hf _ _ _ _ _ heq]; exact hf _ _ _ _ _ h))
    | skip
theorem stp_mono {X : Xs} {f g : Nat → Nat → Nat → Fr → Res} (hf : ∀ d y b s r, f d y b s = some r → g d y b s = some r) {d y b : Nat} {s : Fr} {r : Mm × Option AV} (h : stp X f d y b s = some r) : stp X g d y b s = some r := by
  unfold stp at h ⊢
  split at h
  · cases h
  · split at h
    · cases h
    · exact trm_mono hf h
theorem run_mono1 (X : Xs) : ∀ (n d y b : Nat) (s : Fr) (r : Mm × Option AV), run X n d y b s = some r → run X (n + 1) d y b s = some r := by
  intro n
  induction n with
  | zero => intro d y b s r h; cases h
  | succ n ih => intro d y b s r h; exact stp_mono (fun d y b s r h => ih d y b s r h) h
theorem run_mono (X : Xs) {n k d y b : Nat} {s : Fr} {r : Mm × Option AV} (h : run X n d y b s = some r) : run X (n + k) d y b s = some r := by
  induction k with
  | zero => exact h
  | succ k ih => exact run_mono1 X _ _ _ _ _ _ ih
