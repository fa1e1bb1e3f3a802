/-! the reference runs a rate's code -/
def ST (U : VV) : List Int → Prop
  | [] => True
  | a :: s => U 121 s.length = a ∧ (-1000000000 ≤ a ∧ a ≤ 1000000000) ∧ ST U s
def CD (U : VV) : Nat → List (Int × Int) → Prop
  | i, [] => U 62 105 = i
  | i, (c, x) :: r => U 118 i = c ∧ U 119 i = x ∧ (0 ≤ c ∧ c ≤ 8) ∧ (c = 0 → 0 ≤ x ∧ x ≤ 9999) ∧ CD U (i + 1) r
theorem CD.len {U : VV} : ∀ (l : List (Int × Int)) (i : Nat), CD U i l → U 62 105 = ((i + l.length : Nat) : Int) := by
  intro l
  induction l with
  | nil => intro i h; exact h
  | cons a r ih =>
    intro i h
    obtain ⟨c, x⟩ := a
    have := ih (i + 1) h.2.2.2.2
    rw [this]
    show ((i + 1 + r.length : Nat) : Int) = ((i + (r.length + 1) : Nat) : Int)
    omega
theorem ST.up {U : VV} {k : Nat} {x : Int} : ∀ s : List Int, s.length ≤ k → ST U s → ST (up U 121 k x) s := by
  intro s
  induction s with
  | nil => intro _ _; trivial
  | cons a s ih =>
    intro h t
    have hl : s.length + 1 ≤ k := h
    exact ⟨by rw [up_nf _ _ (by omega)]; exact t.1, t.2.1, ih (by omega) t.2.2⟩
theorem CD.up {U : VV} {k : Nat} {x : Int} : ∀ (l : List (Int × Int)) (i : Nat), CD U i l → CD (up U 121 k x) i l := by
  intro l
  induction l with
  | nil => intro i h; exact (congrFun (up_na U k x (show (62 : Nat) ≠ 121 by omega)) 105).trans h
  | cons a r ih =>
    intro i h
    obtain ⟨c, y⟩ := a
    exact ⟨(congrFun (up_na U k x (show (118 : Nat) ≠ 121 by omega)) i).trans h.1, (congrFun (up_na U k x (show (119 : Nat) ≠ 121 by omega)) i).trans h.2.1, h.2.2.1, h.2.2.2.1, ih (i + 1) h.2.2.2.2⟩
