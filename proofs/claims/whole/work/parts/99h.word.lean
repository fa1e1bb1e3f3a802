/-! words -/
def wf (j : Nat) (i : Nat) : Int := (gl ((gl SBY j).getD []) i).getD 0
def wn (j : Nat) : Nat := ((gl SBY j).getD []).length
theorem wok {j : Nat} (hj : j < 13) : 1 ≤ wn j ∧ wn j ≤ 7 ∧ ∀ i, i < wn j → 1 ≤ wf j i ∧ wf j i ≤ 255 := by
  have h : ∀ j : Fin 13, (1 ≤ wn j ∧ wn j ≤ 7 ∧ ∀ i : Fin 7, (i : Nat) < wn j → 1 ≤ wf j i ∧ wf j i ≤ 255) := by decide
  obtain ⟨a, b, c⟩ := h ⟨j, hj⟩
  exact ⟨a, b, fun i hi => c ⟨i, Nat.lt_of_lt_of_le hi b⟩ hi⟩
theorem tv_inj {b c : Nat → Int} {f : Nat} : ∀ n m : Nat, (∀ i, i < n → 1 ≤ b (f + i) ∧ b (f + i) ≤ 255) → (∀ i, i < m → 1 ≤ c i ∧ c i ≤ 255) → (tv b f n = tv c 0 m ↔ n = m ∧ ∀ i, i < n → b (f + i) = c i) := by
  have nn : ∀ (b : Nat → Int) (f n : Nat), (∀ i, i < n → 1 ≤ b (f + i) ∧ b (f + i) ≤ 255) → 0 ≤ tv b f n := fun b f n h => (tv_bd (b := b) (f := f) n (fun i a d => by
    have := h (i - f) (by omega)
    rw [show f + (i - f) = i by omega] at this
    omega)).1
  intro n
  induction n with
  | zero =>
    intro m hb hc
    cases m with
    | zero => exact ⟨fun _ => ⟨rfl, fun i hi => by omega⟩, fun _ => rfl⟩
    | succ m =>
      have h1 := nn c 0 m (fun i hi => by rw [Nat.zero_add]; exact hc i (by omega))
      have h2 := hc m (by omega)
      refine ⟨fun e => ?_, fun e => by omega⟩
      have e' : (0 : Int) = 256 * tv c 0 m + c (0 + m) := e
      rw [Nat.zero_add] at e'
      omega
  | succ n ih =>
    intro m hb hc
    have h3 := nn b f n (fun i hi => hb i (by omega))
    have h4 := hb n (by omega)
    cases m with
    | zero =>
      refine ⟨fun e => ?_, fun e => by omega⟩
      have e' : 256 * tv b f n + b (f + n) = 0 := e
      omega
    | succ m =>
      have h1 := nn c 0 m (fun i hi => by rw [Nat.zero_add]; exact hc i (by omega))
      have h2 := hc m (by omega)
      have q := ih m (fun i hi => hb i (by omega)) (fun i hi => hc i (by omega))
      constructor
      · intro e
        have e' : 256 * tv b f n + b (f + n) = 256 * tv c 0 m + c (0 + m) := e
        rw [Nat.zero_add] at e'
        have e1 : tv b f n = tv c 0 m := by omega
        obtain ⟨q1, q2⟩ := q.mp e1
        subst q1
        refine ⟨rfl, fun i hi => ?_⟩
        by_cases ei : i = n
        · rw [ei]; omega
        · exact q2 i (by omega)
      · intro e
        obtain ⟨q1, q2⟩ := e
        have q1' : n = m := by omega
        subst q1'
        have e1 := q.mpr ⟨rfl, fun i hi => q2 i (by omega)⟩
        show 256 * tv b f n + b (f + n) = 256 * tv c 0 n + c (0 + n)
        rw [e1, q2 n (by omega), Nat.zero_add]
/-- what a word comes to -/
def wx (b : Nat → Int) (f t : Nat) : Int := if t - f ≤ 7 then tv b f (t - f) else 0
def isW (b : Nat → Int) (f t j : Nat) : Prop := t - f = wn j ∧ ∀ i, i < wn j → b (f + i) = wf j i
theorem isW_x {b : Nat → Int} {f t j : Nat} (hj : j < 13) (hl : ∀ i, f ≤ i → i < t → let_ (b i)) : isW b f t j ↔ wx b f t = tv (wf j) 0 (wn j) := by
  obtain ⟨w1, w2, w3⟩ := wok hj
  have hb : ∀ i, i < t - f → 1 ≤ b (f + i) ∧ b (f + i) ≤ 255 := fun i hi => by
    have := hl (f + i) (by omega) (by omega)
    unfold let_ at this
    omega
  unfold isW wx
  by_cases g : t - f ≤ 7
  · rw [if_pos g, tv_inj _ _ hb w3]
    constructor
    · intro h; exact ⟨h.1, fun i hi => h.2 i (by omega)⟩
    · intro h; exact ⟨h.1, fun i hi => h.2 i (by omega)⟩
  · rw [if_neg g]
    constructor
    · intro h; omega
    · intro h
      have := tv_inj (b := b) (c := wf j) (f := f) 0 (wn j) (fun i hi => by omega) w3
      have z := (this.mp h).1
      omega
theorem isW5 {o ob on : Nat} {b : Nat → Int} {sz f t j : Nat} {V : VV} (B : BY o ob on b sz V) (hj : j < 13) (ht : f + wn j ≤ sz) (c6 : V o 6 = f) : ∀ (k n i : Nat), wn j = i + k → k < n → ((∀ m, i ≤ m → m < wn j → b (f + m) = wf j m) → f_Tape_isWord_5 o ob on j n V (i : Int) = some 1) ∧ (¬ (∀ m, i ≤ m → m < wn j → b (f + m) = wf j m) → f_Tape_isWord_5 o ob on j n V (i : Int) = some 0) := by
  obtain ⟨w1, w2, w3⟩ := wok hj
  have s2 := B.2.2.1
  have s3 := B.2.2.2.1
  have lw : lenW j = (wn j : Int) := rfl
  intro k
  induction k with
  | zero =>
    intro n i e e2
    cases n with
    | zero => omega
    | succ n =>
      have u : f_Tape_isWord_5 o ob on j (n + 1) V (i : Int) = some 1 := by
        show (if (i : Int) < (lenW j) then _ else some (1 : Int)) = some 1
        rw [lw, if_neg (by omega)]
      exact ⟨fun _ => u, fun h => absurd (fun m a c => by omega) h⟩
  | succ k ih =>
    intro n i e e2
    cases n with
    | zero => omega
    | succ n =>
      have cc : chrO j (i : Int) = some (wf j i) := by
        unfold chrO
        rw [lw, if_pos (by omega), Int.toNat_natCast]
        rfl
      have u : f_Tape_isWord_5 o ob on j (n + 1) V (i : Int) = if b (f + i) = wf j i then f_Tape_isWord_5 o ob on j n V ((i + 1 : Nat) : Int) else some 0 := by
        show (if (i : Int) < (lenW j) then Option.bind (chrO j (i : Int)) (fun q4 => if (atV V ob on (w32 ((V o 6) + (i : Int)))) = q4 then f_Tape_isWord_5 o ob on j n V (w32 ((i : Int) + 1)) else some 0) else some 1) = _
        rw [lw, if_pos (by omega), cc, obs, c6, w32_id (x := (f : Int) + i) (by omega) (by omega), show (f : Int) + (i : Int) = ((f + i : Nat) : Int) by omega, B.at (by omega), w32_id (x := (i : Int) + 1) (by omega) (by omega)]
        rfl
      rw [u]
      obtain ⟨h1, h2⟩ := ih n (i + 1) (by omega) (by omega)
      by_cases g : b (f + i) = wf j i
      · rw [if_pos g]
        constructor
        · intro h; exact h1 (fun m a c => h m (by omega) c)
        · intro h
          refine h2 (fun h' => h (fun m a c => ?_))
          by_cases em : m = i
          · rw [em]; exact g
          · exact h' m (by omega) c
      · rw [if_neg g]
        exact ⟨fun h => absurd (h i (by omega) (by omega)) g, fun _ => rfl⟩
theorem wordC {o ob on : Nat} {b : Nat → Int} {sz p f t j : Nat} {k : Int} (tk : TokAt b sz p f t k) {V : VV} (B : BY o ob on b sz V) (T : TC o b V f t k) (hj : j < 13) : f_Tape_isWord o ob on j V = some (if k = 1 ∧ wx b f t = tv (wf j) 0 (wn j) then 1 else 0) := by
  obtain ⟨⟨p1, p2, p3, p4⟩, tq⟩ := tk
  obtain ⟨c6, c7, c2, -⟩ := T
  have s2 := B.2.2.1
  have s3 := B.2.2.2.1
  have lw : lenW j = (wn j : Int) := rfl
  unfold f_Tape_isWord
  rw [c2]
  by_cases hk : k = 1
  · have hl : ∀ i, f ≤ i → i < t → let_ (b i) := by
      rcases tq with ⟨-, -, x⟩ | ⟨-, -, ⟨-, -, x, -⟩ | ⟨x, -⟩ | ⟨x, -⟩⟩
      · omega
      · exact x
      · omega
      · omega
    have iw := isW_x (b := b) (f := f) (t := t) hj hl
    rw [if_pos hk, c6, c7, lw, w32_id (x := (t : Int) - f) (by omega) (by omega)]
    by_cases g : (t : Int) - f = (wn j : Int)
    · rw [if_pos g]
      obtain ⟨h1, h2⟩ := isW5 (t := t) B hj (by omega) c6 (wn j) FU 0 (by omega) (by have := (wok hj).2.1; show wn j < 40000; omega)
      by_cases w : ∀ m, 0 ≤ m → m < wn j → b (f + m) = wf j m
      · rw [if_pos ⟨hk, iw.mp ⟨by omega, fun i hi => w i (by omega) hi⟩⟩]
        exact h1 w
      · rw [if_neg (fun h => w (fun m _ c => (iw.mpr h.2).2 m c))]
        exact h2 w
    · rw [if_neg g, if_neg (fun h => g (by have := (iw.mpr h.2).1; omega))]
  · rw [if_neg hk, if_neg (fun h => hk h.1)]
/-- which word a token is -/
def wd (b : Nat → Int) (f t : Nat) (k : Int) : Int := if k = 1 then (if wx b f t = 512970878052 then 1 else if wx b f t = 1751217516 then 2 else if wx b f t = 1936225652 then 3 else if wx b f t = 1869636974 then 4 else if wx b f t = 1918986606 then 5 else if wx b f t = 1718775661 then 6 else if wx b f t = 29807 then 7 else 0) else 0
theorem wdM {b : Nat → Int} {f t : Nat} {k : Int} {U : VV} (T : TM b U f t k) (hk : k = 0 ∨ k = 1 ∨ k = 2 ∨ k = 3) : f_Mo_wordOf U = wd b f t k := by
  obtain ⟨c3, c4, c5, c6, c7⟩ := T
  have e1 : f_Mo_add U (f_Mo_add U 119 111 114) 108 100 = 512970878052 := by unfold f_Mo_add; decide
  have e2 : f_Mo_add U (f_Mo_add U 0 104 97) 117 108 = 1751217516 := by unfold f_Mo_add; decide
  have e3 : f_Mo_add U (f_Mo_add U 0 115 104) 117 116 = 1936225652 := by unfold f_Mo_add; decide
  have e4 : f_Mo_add U (f_Mo_add U 0 111 112) 101 110 = 1869636974 := by unfold f_Mo_add; decide
  have e5 : f_Mo_add U (f_Mo_add U 0 114 97) 105 110 = 1918986606 := by unfold f_Mo_add; decide
  have e6 : f_Mo_add U (f_Mo_add U 0 102 114) 111 109 = 1718775661 := by unfold f_Mo_add; decide
  have e7 : f_Mo_add U 0 116 111 = 29807 := by unfold f_Mo_add; decide
  have lc : ∀ x y : Int, lcmpI x y = 0 ↔ x = y := by
    intro x y
    unfold lcmpI
    split
    · exact ⟨fun h => by omega, fun h => by omega⟩
    · split
      · next h => exact ⟨fun _ => h, fun _ => rfl⟩
      · next h => exact ⟨fun h2 => by omega, fun h2 => absurd h2 h⟩
  unfold f_Mo_wordOf wd
  rw [e1, e2, e3, e4, e5, e6, e7]
  by_cases g : k = 1
  · have h47 : U 62 47 = wx b f t := c7 g
    have h45 : U 62 45 = 2 := by rw [c5, if_neg (by omega), if_pos g]
    rw [if_pos h45, if_pos g, h47]
    simp only [lc]
  · have h45 : U 62 45 ≠ 2 := by
      rcases hk with h | h | h | h
      · rw [c5, if_pos h]; omega
      · exact absurd h g
      · rw [c5, if_neg (by omega), if_neg g, if_pos h]; omega
      · rw [c5, if_neg (by omega), if_neg g, if_neg (by omega)]
        split <;> omega
    rw [if_neg h45, if_neg g]
