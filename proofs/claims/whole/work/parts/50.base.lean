/-! the pure part: what a function gives, and that it gives something -/
def Sm {α : Type} (a : Option α) (P : α → Prop) : Prop := ∃ q, a = some q ∧ P q
theorem Sm.imp {α : Type} {a : Option α} {P Q : α → Prop} (h : Sm a P) (k : ∀ q, P q → Q q) : Sm a Q := by
  obtain ⟨q, e, p⟩ := h
  exact ⟨q, e, k q p⟩
theorem Sm.ok {α : Type} {x : α} {P : α → Prop} (h : P x) : Sm (some x) P := ⟨x, rfl, h⟩
theorem Sm.bind {α β : Type} {a : Option α} {f : α → Option β} {P : α → Prop} {Q : β → Prop} (h : Sm a P) (k : ∀ x, a = some x → P x → Sm (f x) Q) : Sm (Option.bind a f) Q := by
  obtain ⟨q, e, p⟩ := h
  obtain ⟨r, e2, p2⟩ := k q e p
  exact ⟨r, by rw [e]; exact e2, p2⟩
theorem Sm.lt {α β : Type} {a : α} {f : α → Option β} {Q : β → Prop} (k : ∀ x, x = a → Sm (f x) Q) : Sm (lt_ a f) Q := k a rfl
theorem Sm.lt0 {α β : Type} {a : α} {f : α → Option β} {Q : β → Prop} (k : Sm (f a) Q) : Sm (lt_ a f) Q := k
theorem Sm.ite {α : Type} {c : Prop} [Decidable c] {t e : Option α} {Q : α → Prop} (k1 : c → Sm t Q) (k2 : ¬ c → Sm e Q) : Sm (if c then t else e) Q := by
  by_cases h : c
  · rw [if_pos h]; exact k1 h
  · rw [if_neg h]; exact k2 h
theorem Sm.pos {α : Type} {c : Prop} [Decidable c] {t e : Option α} {Q : α → Prop} (h : c) (k1 : Sm t Q) : Sm (if c then t else e) Q := by
  rw [if_pos h]; exact k1
theorem Sm.neg {α : Type} {c : Prop} [Decidable c] {t e : Option α} {Q : α → Prop} (h : ¬ c) (k1 : Sm e Q) : Sm (if c then t else e) Q := by
  rw [if_neg h]; exact k1
theorem Sm.eq {α : Type} {a b : Option α} {P : α → Prop} (e : a = b) (h : Sm b P) : Sm a P := e ▸ h
theorem Sm.get {α : Type} {a : Option α} {P : α → Prop} {x : α} (h : Sm a P) (e : a = some x) : P x := by
  obtain ⟨q, e1, p⟩ := h
  rw [e] at e1
  cases e1
  exact p
theorem Sm.all {α : Type} {a : Option α} {P Q : α → Prop} (h : Sm a P) (k : ∀ x, a = some x → P x → Q x) : Sm a Q := by
  obtain ⟨q, e, p⟩ := h
  exact ⟨q, e, k q e p⟩
theorem up_ap (V : VV) (a b : Nat) (x : Int) (i j : Nat) : up V a b x i j = if i = a then (if j = b then x else V i j) else V i j := rfl
theorem up_eq (V : VV) (a b : Nat) (x : Int) : up V a b x a b = x := by rw [up_ap, if_pos rfl, if_pos rfl]
theorem up_nf (V : VV) {a b : Nat} (x : Int) {j : Nat} (h : j ≠ b) : up V a b x a j = V a j := by rw [up_ap, if_pos rfl, if_neg h]
theorem up_na (V : VV) {a : Nat} (b : Nat) (x : Int) {i : Nat} (h : i ≠ a) : up V a b x i = V i := by funext j; exact if_neg h
theorem atV_in {V : VV} {id n : Nat} {i : Int} (h0 : 0 ≤ i) (h1 : i < (n : Int)) : atV V id n i = V id i.toNat := if_pos ⟨h0, h1⟩
theorem setV_in {V : VV} {id n : Nat} {i x : Int} (h0 : 0 ≤ i) (h1 : i < (n : Int)) : setV V id n i x = up V id i.toNat x := if_pos ⟨h0, h1⟩
theorem isFromV_1 {v a b : Int} (h0 : a ≤ v) (h1 : v ≤ b) : isFromV v a b = 1 := if_pos ⟨h0, h1⟩
theorem isFromV_0 {v a b : Int} : isFromV v a b = 0 ↔ ¬ (a ≤ v ∧ v ≤ b) := by
  unfold isFromV; split <;> simp_all
theorem isIn_1 {V : VV} {v a b : Int} (h0 : a ≤ v) (h1 : v ≤ b) : f_Mo_isIn V v a b = 1 := by
  unfold f_Mo_isIn; rw [if_neg (by omega), if_neg (by omega)]
theorem isIn_0 {V : VV} {v a b : Int} : f_Mo_isIn V v a b = 0 ↔ ¬ (a ≤ v ∧ v ≤ b) := by
  unfold f_Mo_isIn; split
  · simp; omega
  · split
    · simp; omega
    · simp; omega
theorem FU_up : FU = 39999 + 1 := rfl
