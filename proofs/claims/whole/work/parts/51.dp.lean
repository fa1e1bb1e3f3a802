/-! the least cost: both tables are the one that the rule tells -/
def IsMin (f : Int → Int) (lo hi m : Int) : Prop := m ≤ 1000000 ∧ (∀ u, lo ≤ u → u ≤ hi → m ≤ f u) ∧ (m = 1000000 ∨ ∃ u, lo ≤ u ∧ u ≤ hi ∧ f u = m)
theorem IsMin.uniq {f g : Int → Int} {lo hi m m2 : Int} (h : IsMin f lo hi m) (h2 : IsMin g lo hi m2) (e : ∀ u, lo ≤ u → u ≤ hi → f u = g u) : m = m2 := by
  obtain ⟨a, b, c⟩ := h
  obtain ⟨a2, b2, c2⟩ := h2
  apply Int.le_antisymm
  · rcases c2 with c2 | ⟨u, u1, u2, u3⟩
    · omega
    · have := b u u1 u2; rw [e u u1 u2] at this; omega
  · rcases c with c | ⟨u, u1, u2, u3⟩
    · omega
    · have := b2 u u1 u2; rw [← e u u1 u2] at this; omega
/-- the lowest of the heights that cost least, and what it costs -/
def Best (f : Int → Int) (lo hi c l : Int) : Prop := (c = -1 ∧ l = 1000000 ∧ ∀ u, lo ≤ u → u ≤ hi → 1000000 ≤ f u) ∨ (lo ≤ c ∧ c ≤ hi ∧ l = f c ∧ l < 1000000 ∧ ∀ u, lo ≤ u → u ≤ hi → l ≤ f u ∧ (u < c → l < f u))
theorem Best.min {f : Int → Int} {lo hi c l : Int} (h : Best f lo hi c l) : IsMin f lo hi l := by
  rcases h with ⟨rfl, rfl, h⟩ | ⟨h1, h2, h3, h4, h5⟩
  · exact ⟨by omega, h, Or.inl rfl⟩
  · exact ⟨by omega, fun u a b => (h5 u a b).1, Or.inr ⟨c, h1, h2, h3.symm⟩⟩
theorem Best.step {f : Int → Int} {lo h c l : Int} (b : Best f lo (h - 1) c l) (hl : lo ≤ h) (h0 : 0 ≤ lo) : Best f lo h (if f h < l then h else c) (if f h < l then f h else l) := by
  rcases b with ⟨rfl, rfl, b⟩ | ⟨h1, h2, h3, h4, h5⟩
  · split
    · next hc =>
      refine Or.inr ⟨hl, Int.le_refl _, rfl, hc, fun u a1 a2 => ?_⟩
      by_cases e : u = h
      · subst e; exact ⟨Int.le_refl _, fun z => absurd z (Int.lt_irrefl _)⟩
      · have := b u a1 (by omega); exact ⟨by omega, fun _ => by omega⟩
    · next hc =>
      refine Or.inl ⟨rfl, rfl, fun u a1 a2 => ?_⟩
      by_cases e : u = h
      · subst e; omega
      · exact b u a1 (by omega)
  · split
    · next hc =>
      refine Or.inr ⟨hl, Int.le_refl _, rfl, by omega, fun u a1 a2 => ?_⟩
      by_cases e : u = h
      · subst e; exact ⟨Int.le_refl _, fun z => absurd z (Int.lt_irrefl _)⟩
      · have := (h5 u a1 (by omega)).1; exact ⟨by omega, fun _ => by omega⟩
    · next hc =>
      refine Or.inr ⟨h1, by omega, h3, h4, fun u a1 a2 => ?_⟩
      by_cases e : u = h
      · subst e; exact ⟨by omega, fun z => by omega⟩
      · exact h5 u a1 (by omega)
/-- what a cell of the table must hold -/
def CellOK (n deep sm : Int) (old : Int → Int) (own : Int → Int → Int) (T : Int → Int → Int) (s h : Int) : Prop := 0 ≤ T s h ∧ ∃ m, (s + 1 < n → IsMin (T (s + 1)) (max 0 (h - sm)) (min 60 (h + sm)) m) ∧ T s h = if h < old s - deep then 1000000 else if s + 1 < n then (if m = 1000000 then 1000000 else own s h + m) else own s h
theorem CellOK.congr {n deep sm : Int} {old : Int → Int} {own T T2 : Int → Int → Int} {s h : Int} (c : CellOK n deep sm old own T s h) (e1 : T2 s h = T s h) (e2 : s + 1 < n → ∀ u, 0 ≤ u → u ≤ 60 → T2 (s + 1) u = T (s + 1) u) : CellOK n deep sm old own T2 s h := by
  obtain ⟨c1, m, c2, c3⟩ := c
  refine ⟨by rw [e1]; exact c1, m, fun hs => ?_, by rw [e1]; exact c3⟩
  obtain ⟨a, b, c⟩ := c2 hs
  refine ⟨a, fun u h1 h2 => by rw [e2 hs u (by omega) (by omega)]; exact b u h1 h2, ?_⟩
  rcases c with c | ⟨u, u1, u2, u3⟩
  · exact Or.inl c
  · exact Or.inr ⟨u, u1, u2, by rw [e2 hs u (by omega) (by omega)]; exact u3⟩
/-- rows behind s0, and of row s0 what lies below h0 -/
def TP (n deep sm : Int) (old : Int → Int) (own : Int → Int → Int) (T : Int → Int → Int) (s0 h0 : Int) : Prop := ∀ s h, 0 ≤ s → s < n → 0 ≤ h → h ≤ 60 → (s0 < s ∨ (s = s0 ∧ h < h0)) → CellOK n deep sm old own T s h
def OwnOK (n deep sm : Int) (old : Int → Int) (own : Int → Int → Int) : Prop := n ≤ 12 ∧ 0 ≤ deep ∧ 0 ≤ sm ∧ (∀ s, 0 ≤ s → s < n → old s ≤ 60) ∧ ∀ s h, 0 ≤ s → s < n → 0 ≤ h → h ≤ 60 → 0 ≤ own s h ∧ own s h ≤ 540
theorem TP.facts {n deep sm : Int} {old : Int → Int} {own T : Int → Int → Int} {s0 h0 : Int} (t : TP n deep sm old own T s0 h0) (o : OwnOK n deep sm old own) : ∀ (k : Nat) (s : Int), n - s = (k : Int) + 1 → 0 ≤ s → s0 < s → (T s 60 < 1000000) ∧ ∀ h, 0 ≤ h → h ≤ 60 → T s h ≤ 1000000 ∧ (T s h < 1000000 → T s h ≤ 540 * (n - s)) := by
  obtain ⟨o1, o2, o3, o4, o5⟩ := o
  intro k
  induction k with
  | zero =>
    intro s hs h0 hs0
    have key : ∀ h, 0 ≤ h → h ≤ 60 → T s h ≤ 1000000 ∧ (T s h < 1000000 → T s h ≤ 540 * (n - s)) ∧ (h = 60 → T s h < 1000000) := by
      intro h a1 a2
      obtain ⟨c1, m, c2, c3⟩ := t s h h0 (by omega) a1 a2 (Or.inl hs0)
      have := o5 s h h0 (by omega) a1 a2
      have := o4 s h0 (by omega)
      rw [c3]
      split
      · exact ⟨by omega, fun _ => by omega, fun _ => by omega⟩
      · rw [if_neg (by omega)]; exact ⟨by omega, fun _ => by omega, fun _ => by omega⟩
    exact ⟨(key 60 (by omega) (by omega)).2.2 rfl, fun h a1 a2 => ⟨(key h a1 a2).1, (key h a1 a2).2.1⟩⟩
  | succ k ih =>
    intro s hs h0 hs0
    have i1 := ih (s + 1) (by omega) (by omega) (by omega)
    have key : ∀ h, 0 ≤ h → h ≤ 60 → T s h ≤ 1000000 ∧ (T s h < 1000000 → T s h ≤ 540 * (n - s)) ∧ (h = 60 → T s h < 1000000) := by
      intro h a1 a2
      obtain ⟨c1, m, c2, c3⟩ := t s h h0 (by omega) a1 a2 (Or.inl hs0)
      have := o5 s h h0 (by omega) a1 a2
      have := o4 s h0 (by omega)
      obtain ⟨m1, m2, m3⟩ := c2 (by omega)
      rw [c3]
      split
      · exact ⟨by omega, fun _ => by omega, fun _ => by omega⟩
      · rw [if_pos (by omega)]
        have hm : m < 1000000 → m ≤ 540 * (n - (s + 1)) := by
          intro hm
          rcases m3 with m3 | ⟨u, u1, u2, u3⟩
          · omega
          · have := (i1.2 u (by omega) (by omega)).2 (by omega); omega
        have h60 : h = 60 → m < 1000000 := by
          intro e
          have := m2 60 (by omega) (by omega)
          have := i1.1
          omega
        split
        · exact ⟨by omega, fun _ => by omega, fun e => by have := h60 e; omega⟩
        · have := hm (by omega)
          exact ⟨by omega, fun _ => by omega, fun _ => by omega⟩
    exact ⟨(key 60 (by omega) (by omega)).2.2 rfl, fun h a1 a2 => ⟨(key h a1 a2).1, (key h a1 a2).2.1⟩⟩
theorem TP.fact {n deep sm : Int} {old : Int → Int} {own T : Int → Int → Int} {s0 h0 : Int} (t : TP n deep sm old own T s0 h0) (o : OwnOK n deep sm old own) {s : Int} (h1 : 0 ≤ s) (h2 : s < n) (h3 : s0 < s) : (T s 60 < 1000000) ∧ ∀ h, 0 ≤ h → h ≤ 60 → T s h ≤ 1000000 ∧ (T s h < 1000000 → T s h ≤ 540 * (n - s)) :=
  t.facts o (n - s - 1).toNat s (by omega) h1 h3
theorem TP.uniq {n deep sm : Int} {old : Int → Int} {own T T2 : Int → Int → Int} (t : TP n deep sm old own T (-1) 0) (t2 : TP n deep sm old own T2 (-1) 0) : ∀ (k : Nat) (s : Int), n - s = (k : Int) + 1 → 0 ≤ s → ∀ h, 0 ≤ h → h ≤ 60 → T s h = T2 s h := by
  intro k
  induction k with
  | zero =>
    intro s hs h0 h a1 a2
    obtain ⟨c1, m, c2, c3⟩ := t s h h0 (by omega) a1 a2 (Or.inl (by omega))
    obtain ⟨d1, m', d2, d3⟩ := t2 s h h0 (by omega) a1 a2 (Or.inl (by omega))
    rw [c3, d3]
    split
    · rfl
    · rw [if_neg (by omega), if_neg (by omega)]
  | succ k ih =>
    intro s hs h0 h a1 a2
    have i1 := ih (s + 1) (by omega) (by omega)
    obtain ⟨c1, m, c2, c3⟩ := t s h h0 (by omega) a1 a2 (Or.inl (by omega))
    obtain ⟨d1, m', d2, d3⟩ := t2 s h h0 (by omega) a1 a2 (Or.inl (by omega))
    have e := (c2 (by omega)).uniq (d2 (by omega)) (fun u u1 u2 => i1 u (by omega) (by omega))
    subst e
    rw [c3, d3]
