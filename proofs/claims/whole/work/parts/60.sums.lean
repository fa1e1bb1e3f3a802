/-! sums over rows, and how a job cools -/
def sm (f : Nat → Int) : Nat → Int
  | 0 => 0
  | n + 1 => sm f n + f n
theorem sm_congr {f g : Nat → Int} : ∀ {n : Nat}, (∀ k, k < n → g k = f k) → sm g n = sm f n := by
  intro n
  induction n with
  | zero => intro _; rfl
  | succ n ih =>
    intro h
    show sm g n + g n = sm f n + f n
    rw [ih (fun k hk => h k (by omega)), h n (by omega)]
theorem sm_upd {f g : Nat → Int} {k : Nat} : ∀ {n : Nat}, k < n → (∀ i, i < n → i ≠ k → g i = f i) → sm g n = sm f n + (g k - f k) := by
  intro n
  induction n with
  | zero => intro h; omega
  | succ n ih =>
    intro h e
    show sm g n + g n = sm f n + f n + (g k - f k)
    by_cases hk : k = n
    · subst hk
      rw [sm_congr (f := f) (g := g) (fun i hi => e i (by omega) (by omega))]; omega
    · rw [ih (by omega) (fun i hi hj => e i (by omega) hj), e n (by omega) (fun z => hk z.symm)]; omega
theorem sm_le {f : Nat → Int} {B : Int} : ∀ {n : Nat}, (∀ k, k < n → f k ≤ B) → sm f n ≤ (n : Int) * B := by
  intro n
  induction n with
  | zero => intro _; show (0 : Int) ≤ ((0 : Nat) : Int) * B; rw [show ((0 : Nat) : Int) = 0 from rfl, Int.zero_mul]; exact Int.le_refl _
  | succ n ih =>
    intro h
    have h1 := ih (fun k hk => h k (by omega))
    have h2 := h n (by omega)
    show sm f n + f n ≤ ((n + 1 : Nat) : Int) * B
    rw [show ((n + 1 : Nat) : Int) = (n : Int) + 1 by omega, Int.add_mul, Int.one_mul]
    omega
theorem sm_nn {f : Nat → Int} : ∀ {n : Nat}, (∀ k, k < n → 0 ≤ f k) → 0 ≤ sm f n := by
  intro n
  induction n with
  | zero => intro _; exact Int.le_refl _
  | succ n ih =>
    intro h
    have h1 := ih (fun k hk => h k (by omega))
    have h2 := h n (by omega)
    show 0 ≤ sm f n + f n
    omega
theorem sm_one {f : Nat → Int} {k : Nat} : ∀ {n : Nat}, k < n → (∀ i, i < n → 0 ≤ f i) → f k ≤ sm f n := by
  intro n
  induction n with
  | zero => intro h; omega
  | succ n ih =>
    intro h e
    show f k ≤ sm f n + f n
    by_cases hk : k = n
    · subst hk
      have := sm_nn (f := f) (n := k) (fun i hi => e i (by omega)); omega
    · have := ih (by omega) (fun i hi => e i (by omega)); have := e n (by omega); omega
/-- one minute's flow between two -/
def fl (c a b : Int) : Int := ((a - b) * c).tdiv 1000
theorem td_bd (x : Int) : (0 ≤ x → 0 ≤ x.tdiv 1000 ∧ 1000 * (x.tdiv 1000) ≤ x) ∧ (x ≤ 0 → x.tdiv 1000 ≤ 0 ∧ x ≤ 1000 * (x.tdiv 1000)) := by
  refine ⟨fun h => ?_, fun h => ?_⟩
  · rw [Int.tdiv_eq_ediv_of_nonneg h]; omega
  · have e : x = -(-x) := by omega
    rw [e, Int.neg_tdiv, Int.tdiv_eq_ediv_of_nonneg (show 0 ≤ -x by omega)]; omega
theorem fl_hi {c C a b B : Int} (h0 : 0 ≤ c) (h1 : c ≤ C) (h2 : a - b ≤ B) (h3 : 0 ≤ B) : 1000 * fl c a b ≤ B * C := by
  unfold fl
  by_cases g : 0 ≤ a - b
  · have m := mul_bd g h2 h0 h1
    have := (td_bd ((a - b) * c)).1 m.1
    omega
  · have m := Int.mul_nonneg (show 0 ≤ -(a - b) by omega) h0
    rw [Int.neg_mul] at m
    have := (td_bd ((a - b) * c)).2 (by omega)
    have := Int.mul_nonneg h3 (Int.le_trans h0 h1)
    omega
theorem fl_lo {c C a b B : Int} (h0 : 0 ≤ c) (h1 : c ≤ C) (h2 : -B ≤ a - b) (h3 : 0 ≤ B) : -(B * C) ≤ 1000 * fl c a b := by
  have h := fl_hi (a := b) (b := a) h0 h1 (show b - a ≤ B by omega) h3
  have e : fl c b a = - fl c a b := by
    unfold fl
    rw [← Int.neg_tdiv, ← Int.neg_mul, show b - a = -(a - b) by omega]
  rw [e] at h
  omega
theorem fl_w {c C a b : Int} (h0 : 0 ≤ c) (h1 : c ≤ C) (hC : C ≤ 1000) (h2 : -300 ≤ a - b) (h3 : a - b ≤ 300) : w32 (Int.tdiv (w32 ((w32 (a - b)) * c)) 1000) = fl c a b ∧ -300 ≤ fl c a b ∧ fl c a b ≤ 300 := by
  have x1 := fl_hi h0 h1 h3 (by omega)
  have x2 := fl_lo h0 h1 h2 (by omega)
  have m : -300000 ≤ (a - b) * c ∧ (a - b) * c ≤ 300000 := by
    by_cases g : 0 ≤ a - b
    · have m := mul_bd g h3 h0 h1; omega
    · have m := mul_bd (a := -(a - b)) (A := 300) (by omega) (by omega) h0 h1
      rw [Int.neg_mul] at m; omega
  have y : -300 ≤ fl c a b ∧ fl c a b ≤ 300 := by omega
  refine ⟨?_, y⟩
  rw [w32_id (x := a - b) (by omega) (by omega), w32_id (x := (a - b) * c) (by omega) (by omega)]
  exact w32_id (by unfold fl at y; omega) (by unfold fl at y; omega)
/-- the shells of a job, minute by minute -/
def sh (c air w gr g ht : Int) : Nat → Nat → Int
  | 0, _ => ht
  | i + 1, 0 => sh c air w gr g ht i 0 - fl w (sh c air w gr g ht i 0) air - fl c (sh c air w gr g ht i 0) (sh c air w gr g ht i 1)
  | i + 1, 1 => sh c air w gr g ht i 1 + fl c (sh c air w gr g ht i 0) (sh c air w gr g ht i 1) - fl c (sh c air w gr g ht i 1) (sh c air w gr g ht i 2)
  | i + 1, 2 => sh c air w gr g ht i 2 + fl c (sh c air w gr g ht i 1) (sh c air w gr g ht i 2) - fl c (sh c air w gr g ht i 2) (sh c air w gr g ht i 3)
  | i + 1, 3 => sh c air w gr g ht i 3 + fl c (sh c air w gr g ht i 2) (sh c air w gr g ht i 3) - fl c (sh c air w gr g ht i 3) (sh c air w gr g ht i 4)
  | i + 1, _ + 4 => sh c air w gr g ht i 4 + fl c (sh c air w gr g ht i 3) (sh c air w gr g ht i 4) - fl g (sh c air w gr g ht i 4) gr
def mn (c air w gr g ht : Int) (i : Nat) : Int := (sh c air w gr g ht i 0 + sh c air w gr g ht i 1 + sh c air w gr g ht i 2 + sh c air w gr g ht i 3 + sh c air w gr g ht i 4).tdiv 5
def CP (c air w gr g ht : Int) : Prop := (0 ≤ c ∧ c ≤ 400) ∧ (-20 ≤ air ∧ air ≤ 50) ∧ (1 ≤ w ∧ w ≤ 200) ∧ (-20 ≤ gr ∧ gr ≤ 60) ∧ (1 ≤ g ∧ g ≤ 200) ∧ (0 ≤ ht ∧ ht ≤ 200)
theorem sh_bd {c air w gr g ht : Int} (p : CP c air w gr g ht) : ∀ (i k : Nat), k ≤ 4 → -20 ≤ sh c air w gr g ht i k ∧ sh c air w gr g ht i k ≤ 200 := by
  obtain ⟨p1, p2, p3, p4, p5, p6⟩ := p
  intro i
  induction i with
  | zero => intro k hk; show -20 ≤ ht ∧ ht ≤ 200; omega
  | succ i ih =>
    have h0 := ih 0 (by omega)
    have h1 := ih 1 (by omega)
    have h2 := ih 2 (by omega)
    have h3 := ih 3 (by omega)
    have h4 := ih 4 (by omega)
    intro k hk
    have cases : k = 0 ∨ k = 1 ∨ k = 2 ∨ k = 3 ∨ k = 4 := by omega
    rcases cases with rfl | rfl | rfl | rfl | rfl
    · show -20 ≤ sh c air w gr g ht i 0 - fl w (sh c air w gr g ht i 0) air - fl c (sh c air w gr g ht i 0) (sh c air w gr g ht i 1) ∧ sh c air w gr g ht i 0 - fl w (sh c air w gr g ht i 0) air - fl c (sh c air w gr g ht i 0) (sh c air w gr g ht i 1) ≤ 200
      generalize sh c air w gr g ht i 0 = x at *
      generalize sh c air w gr g ht i 1 = y at *
      have a1 := fl_hi (c := w) (C := 200) (a := x) (b := air) (B := x + 20) (by omega) (by omega) (by omega) (by omega)
      have a2 := fl_lo (c := w) (C := 200) (a := x) (b := air) (B := 200 - x) (by omega) (by omega) (by omega) (by omega)
      have a3 := fl_hi (c := c) (C := 400) (a := x) (b := y) (B := x + 20) (by omega) (by omega) (by omega) (by omega)
      have a4 := fl_lo (c := c) (C := 400) (a := x) (b := y) (B := 200 - x) (by omega) (by omega) (by omega) (by omega)
      omega
    · show -20 ≤ sh c air w gr g ht i 1 + fl c (sh c air w gr g ht i 0) (sh c air w gr g ht i 1) - fl c (sh c air w gr g ht i 1) (sh c air w gr g ht i 2) ∧ sh c air w gr g ht i 1 + fl c (sh c air w gr g ht i 0) (sh c air w gr g ht i 1) - fl c (sh c air w gr g ht i 1) (sh c air w gr g ht i 2) ≤ 200
      generalize sh c air w gr g ht i 0 = x at *
      generalize sh c air w gr g ht i 1 = y at *
      generalize sh c air w gr g ht i 2 = z at *
      have a1 := fl_hi (c := c) (C := 400) (a := x) (b := y) (B := 200 - y) (by omega) (by omega) (by omega) (by omega)
      have a2 := fl_lo (c := c) (C := 400) (a := x) (b := y) (B := y + 20) (by omega) (by omega) (by omega) (by omega)
      have a3 := fl_hi (c := c) (C := 400) (a := y) (b := z) (B := y + 20) (by omega) (by omega) (by omega) (by omega)
      have a4 := fl_lo (c := c) (C := 400) (a := y) (b := z) (B := 200 - y) (by omega) (by omega) (by omega) (by omega)
      omega
    · show -20 ≤ sh c air w gr g ht i 2 + fl c (sh c air w gr g ht i 1) (sh c air w gr g ht i 2) - fl c (sh c air w gr g ht i 2) (sh c air w gr g ht i 3) ∧ sh c air w gr g ht i 2 + fl c (sh c air w gr g ht i 1) (sh c air w gr g ht i 2) - fl c (sh c air w gr g ht i 2) (sh c air w gr g ht i 3) ≤ 200
      generalize sh c air w gr g ht i 1 = x at *
      generalize sh c air w gr g ht i 2 = y at *
      generalize sh c air w gr g ht i 3 = z at *
      have a1 := fl_hi (c := c) (C := 400) (a := x) (b := y) (B := 200 - y) (by omega) (by omega) (by omega) (by omega)
      have a2 := fl_lo (c := c) (C := 400) (a := x) (b := y) (B := y + 20) (by omega) (by omega) (by omega) (by omega)
      have a3 := fl_hi (c := c) (C := 400) (a := y) (b := z) (B := y + 20) (by omega) (by omega) (by omega) (by omega)
      have a4 := fl_lo (c := c) (C := 400) (a := y) (b := z) (B := 200 - y) (by omega) (by omega) (by omega) (by omega)
      omega
    · show -20 ≤ sh c air w gr g ht i 3 + fl c (sh c air w gr g ht i 2) (sh c air w gr g ht i 3) - fl c (sh c air w gr g ht i 3) (sh c air w gr g ht i 4) ∧ sh c air w gr g ht i 3 + fl c (sh c air w gr g ht i 2) (sh c air w gr g ht i 3) - fl c (sh c air w gr g ht i 3) (sh c air w gr g ht i 4) ≤ 200
      generalize sh c air w gr g ht i 2 = x at *
      generalize sh c air w gr g ht i 3 = y at *
      generalize sh c air w gr g ht i 4 = z at *
      have a1 := fl_hi (c := c) (C := 400) (a := x) (b := y) (B := 200 - y) (by omega) (by omega) (by omega) (by omega)
      have a2 := fl_lo (c := c) (C := 400) (a := x) (b := y) (B := y + 20) (by omega) (by omega) (by omega) (by omega)
      have a3 := fl_hi (c := c) (C := 400) (a := y) (b := z) (B := y + 20) (by omega) (by omega) (by omega) (by omega)
      have a4 := fl_lo (c := c) (C := 400) (a := y) (b := z) (B := 200 - y) (by omega) (by omega) (by omega) (by omega)
      omega
    · show -20 ≤ sh c air w gr g ht i 4 + fl c (sh c air w gr g ht i 3) (sh c air w gr g ht i 4) - fl g (sh c air w gr g ht i 4) gr ∧ sh c air w gr g ht i 4 + fl c (sh c air w gr g ht i 3) (sh c air w gr g ht i 4) - fl g (sh c air w gr g ht i 4) gr ≤ 200
      generalize sh c air w gr g ht i 3 = x at *
      generalize sh c air w gr g ht i 4 = y at *
      have a1 := fl_hi (c := c) (C := 400) (a := x) (b := y) (B := 200 - y) (by omega) (by omega) (by omega) (by omega)
      have a2 := fl_lo (c := c) (C := 400) (a := x) (b := y) (B := y + 20) (by omega) (by omega) (by omega) (by omega)
      have a3 := fl_hi (c := g) (C := 200) (a := y) (b := gr) (B := y + 20) (by omega) (by omega) (by omega) (by omega)
      have a4 := fl_lo (c := g) (C := 200) (a := y) (b := gr) (B := 200 - y) (by omega) (by omega) (by omega) (by omega)
      omega
theorem td5 {x : Int} (h : -100 ≤ x) (h2 : x ≤ 1000) : -100 ≤ x.tdiv 5 ∧ x.tdiv 5 ≤ 200 ∧ w32 (x.tdiv 5) = x.tdiv 5 := by
  have e : -100 ≤ x.tdiv 5 ∧ x.tdiv 5 ≤ 200 := by
    by_cases g : 0 ≤ x
    · rw [Int.tdiv_eq_ediv_of_nonneg g]; omega
    · have e : x = -(-x) := by omega
      rw [e, Int.neg_tdiv, Int.tdiv_eq_ediv_of_nonneg (show 0 ≤ -x by omega)]; omega
  exact ⟨e.1, e.2, w32_id (by omega) (by omega)⟩
theorem mn_bd {c air w gr g ht : Int} (p : CP c air w gr g ht) (i : Nat) : -100 ≤ mn c air w gr g ht i ∧ mn c air w gr g ht i ≤ 200 := by
  have h0 := sh_bd p i 0 (by omega)
  have h1 := sh_bd p i 1 (by omega)
  have h2 := sh_bd p i 2 (by omega)
  have h3 := sh_bd p i 3 (by omega)
  have h4 := sh_bd p i 4 (by omega)
  have := td5 (x := sh c air w gr g ht i 0 + sh c air w gr g ht i 1 + sh c air w gr g ht i 2 + sh c air w gr g ht i 3 + sh c air w gr g ht i 4) (by omega) (by omega)
  exact ⟨this.1, this.2.1⟩
theorem mn_0 {c air w gr g ht : Int} (p : CP c air w gr g ht) : mn c air w gr g ht 0 = ht := by
  obtain ⟨-, -, -, -, -, p6⟩ := p
  show (ht + ht + ht + ht + ht).tdiv 5 = ht
  rw [Int.tdiv_eq_ediv_of_nonneg (by omega)]; omega
