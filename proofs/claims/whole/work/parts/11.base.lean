/-! what the shallow functions are made of -/
abbrev VV : Type := Nat → Nat → Int
/-- turns that any loop may take -/
def FU : Nat := 40000
def lt_ {α β : Type} (a : α) (f : α → β) : β := f a
theorem lt_x {α β : Type} {a : α} {f : α → β} {q : β} (h : lt_ a f = q) : ∃ x, a = x ∧ f x = q := ⟨a, rfl, h⟩
theorem obind {α β : Type} {a : Option α} {f : α → Option β} {q : β} (h : Option.bind a f = some q) : ∃ x, a = some x ∧ f x = some q := by
  cases a with
  | none => cases h
  | some x => exact ⟨x, rfl, h⟩
theorem w_at {X : Xs} {d : Nat} {V : VV} {h : HP} {id n : Nat} {i q : Int} (hk : gl (K0 ++ h.2.2) id = some (100, n)) (e : atV V id n i = q) : Ok X (d + 1) 21 0 ([some (.inr (.inr (.inl (id + 1)))), some (.inl i)], [], mm V h) (fun M r => M = mm V h ∧ r = some (.inl q)) := by
  subst e; exact s_Br_at hk
theorem w_set {X : Xs} {d : Nat} {V q : VV} {h : HP} {id n : Nat} {i x : Int} (hk : gl (K0 ++ h.2.2) id = some (100, n)) (e : setV V id n i x = q) : Ok X (d + 1) 9 0 ([some (.inr (.inr (.inl (id + 1)))), some (.inl i), some (.inl x)], [], mm V h) (fun M r => M = mm q h ∧ r = none) := by
  subst e; exact s_Br_set hk
theorem w_isFrom {X : Xs} {d : Nat} {V : VV} {h : HP} {v lo hi q : Int} (e : isFromV v lo hi = q) : Ok X (d + 1) 16 0 ([some (.inl v), some (.inl lo), some (.inl hi)], [], mm V h) (fun M r => M = mm V h ∧ r = some (.inl q) ∧ (q = 0 ∨ q = 1)) := by
  refine s_Br_isFrom.imp (fun M r z => ⟨z.1, by rw [← e]; exact z.2, ?_⟩)
  subst e; unfold isFromV; split <;> simp
theorem w_cut {X : Xs} {d : Nat} {V : VV} {h : HP} {v w q : Int} (e : cutV v w = q) : Ok X (d + 1) 28 0 ([some (.inl v), some (.inl w)], [], mm V h) (fun M r => M = mm V h ∧ r = some (.inl q)) := by
  subst e; exact s_Br_cut
