/-! tokens -/
def bla (x : Int) : Prop := x = 32 ∨ x = 10
def let_ (x : Int) : Prop := (97 ≤ x ∧ x ≤ 122) ∨ (65 ≤ x ∧ x ≤ 90)
def dig (x : Int) : Prop := 48 ≤ x ∧ x ≤ 57
theorem blaC {V : VV} {x : Int} : f_Tape_isBlank V x = 0 ↔ ¬ bla x := by
  unfold f_Tape_isBlank bla
  split
  · exact ⟨fun h => (by cases h), fun h => by omega⟩
  · split
    · exact ⟨fun h => (by cases h), fun h => by omega⟩
    · exact ⟨fun _ => by omega, fun _ => rfl⟩
theorem letC {V : VV} {x : Int} : f_Tape_isLetter V x = 0 ↔ ¬ let_ x := by
  unfold f_Tape_isLetter let_
  constructor
  · intro h
    split at h <;> split at h <;> first | omega | (split at h <;> first | omega | (split at h <;> omega))
  · intro h
    split <;> split <;> first | rfl | omega | (split <;> first | rfl | omega | (split <;> first | rfl | omega))
theorem digC {V : VV} {x : Int} : f_Tape_isDigit V x = 0 ↔ ¬ dig x := by
  unfold f_Tape_isDigit dig
  split
  · exact ⟨fun _ => by omega, fun _ => rfl⟩
  · split
    · exact ⟨fun _ => by omega, fun _ => rfl⟩
    · exact ⟨fun h => (by cases h), fun h => by omega⟩
theorem digM {U : VV} {x : Int} : f_Mo_isDigit U x = 0 ↔ ¬ dig x := isIn_0
theorem letM {U : VV} {x : Int} : f_Mo_isLetter U x = 0 ↔ ¬ let_ x := by
  unfold f_Mo_isLetter let_
  by_cases a : 97 ≤ x ∧ x ≤ 122
  · rw [if_neg (show ¬ f_Mo_isIn U x 97 122 = 0 by rw [isIn_1 a.1 a.2]; omega)]
    exact ⟨fun h => (by cases h), fun h => by omega⟩
  · rw [if_pos (isIn_0.mpr a)]
    by_cases c : 65 ≤ x ∧ x ≤ 90
    · rw [if_neg (show ¬ f_Mo_isIn U x 65 90 = 0 by rw [isIn_1 c.1 c.2]; omega)]
      exact ⟨fun h => (by cases h), fun h => by omega⟩
    · rw [if_pos (isIn_0.mpr c)]
      exact ⟨fun _ => by omega, fun _ => rfl⟩
theorem srch (P : Nat → Prop) (sz : Nat) : ∀ (k p : Nat), sz = p + k → ∃ f, p ≤ f ∧ f ≤ sz ∧ (∀ i, p ≤ i → i < f → P i) ∧ (f < sz → ¬ P f) := by
  intro k
  induction k with
  | zero => intro p e; exact ⟨p, by omega, by omega, fun i a b => by omega, fun a => by omega⟩
  | succ k ih =>
    intro p e
    by_cases h : P p
    · obtain ⟨f, a1, a2, a3, a4⟩ := ih (p + 1) (by omega)
      refine ⟨f, by omega, a2, fun i b c => ?_, a4⟩
      by_cases e2 : i = p
      · rw [e2]; exact h
      · exact a3 i (by omega) c
    · exact ⟨p, by omega, by omega, fun i a b => by omega, fun _ => h⟩
def TokAt (b : Nat → Int) (sz p f t : Nat) (k : Int) : Prop := (p ≤ f ∧ f ≤ t ∧ t ≤ sz ∧ ∀ i, p ≤ i → i < f → bla (b i)) ∧ ((f = sz ∧ t = sz ∧ k = 0) ∨ (f < sz ∧ ¬ bla (b f) ∧ ((k = 1 ∧ f < t ∧ (∀ i, f ≤ i → i < t → let_ (b i)) ∧ (t < sz → ¬ let_ (b t))) ∨ (k = 2 ∧ f < t ∧ (∀ i, f ≤ i → i < t → dig (b i)) ∧ (t < sz → ¬ dig (b t))) ∨ (k = 3 ∧ t = f + 1 ∧ ¬ let_ (b f) ∧ ¬ dig (b f)))))
theorem tokEx (b : Nat → Int) {sz p : Nat} (h : p ≤ sz) : ∃ f t k, TokAt b sz p f t k := by
  obtain ⟨f, a1, a2, a3, a4⟩ := srch (fun i => bla (b i)) sz (sz - p) p (by omega)
  by_cases e : f = sz
  · exact ⟨f, sz, 0, ⟨a1, by omega, by omega, a3⟩, Or.inl ⟨e, rfl, rfl⟩⟩
  · have nb := a4 (by omega)
    by_cases l : let_ (b f)
    · obtain ⟨t, c1, c2, c3, c4⟩ := srch (fun i => let_ (b i)) sz (sz - (f + 1)) (f + 1) (by omega)
      refine ⟨f, t, 1, ⟨a1, by omega, c2, a3⟩, Or.inr ⟨by omega, nb, Or.inl ⟨rfl, by omega, fun i x y => ?_, c4⟩⟩⟩
      by_cases e2 : i = f
      · rw [e2]; exact l
      · exact c3 i (by omega) y
    · by_cases d : dig (b f)
      · obtain ⟨t, c1, c2, c3, c4⟩ := srch (fun i => dig (b i)) sz (sz - (f + 1)) (f + 1) (by omega)
        refine ⟨f, t, 2, ⟨a1, by omega, c2, a3⟩, Or.inr ⟨by omega, nb, Or.inr (Or.inl ⟨rfl, by omega, fun i x y => ?_, c4⟩)⟩⟩
        by_cases e2 : i = f
        · rw [e2]; exact d
        · exact c3 i (by omega) y
      · exact ⟨f, f + 1, 3, ⟨a1, by omega, by omega, a3⟩, Or.inr ⟨by omega, nb, Or.inr (Or.inr ⟨rfl, rfl, l, d⟩)⟩⟩
def nv (b : Nat → Int) (f : Nat) : Nat → Int
  | 0 => 0
  | n + 1 => if nv b f n < 100000 then 10 * nv b f n + b (f + n) - 48 else nv b f n
def tv (b : Nat → Int) (f : Nat) : Nat → Int
  | 0 => 0
  | n + 1 => 256 * tv b f n + b (f + n)
theorem nv_bd {b : Nat → Int} {f : Nat} : ∀ n : Nat, (∀ i, f ≤ i → i < f + n → dig (b i)) → 0 ≤ nv b f n ∧ nv b f n ≤ 1000008 := by
  intro n
  induction n with
  | zero => intro _; exact ⟨Int.le_refl 0, (show (0 : Int) ≤ 1000008 by decide)⟩
  | succ n ih =>
    intro h
    have i1 := ih (fun i a c => h i a (by omega))
    have d := h (f + n) (by omega) (by omega)
    unfold dig at d
    show 0 ≤ (if nv b f n < 100000 then 10 * nv b f n + b (f + n) - 48 else nv b f n) ∧ (if nv b f n < 100000 then 10 * nv b f n + b (f + n) - 48 else nv b f n) ≤ 1000008
    split <;> omega
/-- the class's cells of a token -/
def TC (o : Nat) (b : Nat → Int) (V : VV) (f t : Nat) (k : Int) : Prop := V o 6 = f ∧ V o 7 = t ∧ V o 2 = k ∧ V o 3 = (if k = 2 then min 100000 (nv b f (t - f)) else if k = 3 then b f else 0)
def FrT (o : Nat) (V W : VV) : Prop := (∀ i, i ≠ o → W i = V i) ∧ ∀ c, c ≠ 2 → c ≠ 3 → c ≠ 6 → c ≠ 7 → W o c = V o c
theorem FrT.rf {o : Nat} {V : VV} : FrT o V V := ⟨fun _ _ => rfl, fun _ _ _ _ _ => rfl⟩
theorem FrT.tr {o : Nat} {V W X : VV} (h : FrT o V W) (h2 : FrT o W X) : FrT o V X := ⟨fun i a => (h2.1 i a).trans (h.1 i a), fun c a b d e => (h2.2 c a b d e).trans (h.2 c a b d e)⟩
theorem FrT.up {o : Nat} {V W : VV} {c : Nat} {x : Int} (h : FrT o V W) (hc : c = 2 ∨ c = 3 ∨ c = 6 ∨ c = 7) : FrT o V (up W o c x) := ⟨fun i a => by rw [up_na _ _ _ a]; exact h.1 i a, fun d a1 a2 a3 a4 => by rw [up_nf _ _ (by omega)]; exact h.2 d a1 a2 a3 a4⟩
/-- the bytes of a tape -/
def BY (o ob on : Nat) (b : Nat → Int) (sz : Nat) (V : VV) : Prop := o ≠ ob ∧ V o 1 = sz ∧ sz ≤ on ∧ on ≤ 400 ∧ ∀ i : Nat, i < sz → V ob i = b i ∧ 0 ≤ b i ∧ b i ≤ 255
theorem BY.fr {o ob on : Nat} {b : Nat → Int} {sz : Nat} {V W : VV} (h : BY o ob on b sz V) (f : FrT o V W) : BY o ob on b sz W := ⟨h.1, by rw [f.2 1 (by omega) (by omega) (by omega) (by omega)]; exact h.2.1, h.2.2.1, h.2.2.2.1, by rw [f.1 ob (fun e => h.1 e.symm)]; exact h.2.2.2.2⟩
theorem BY.at {o ob on : Nat} {b : Nat → Int} {sz : Nat} {V : VV} (h : BY o ob on b sz V) {i : Nat} (hi : i < sz) : atV V ob on (i : Int) = b i := by
  have := h.2.2.1
  rw [atV_in (by omega) (by omega), Int.toNat_natCast]
  exact (h.2.2.2.2 i hi).1
theorem nx12 {o ob on : Nat} {b : Nat → Int} {sz f t : Nat} (ht : t ≤ sz) (hl : ∀ i, f ≤ i → i < t → let_ (b i)) (hn : t < sz → ¬ let_ (b t)) {V0 : VV} (B : BY o ob on b sz V0) : ∀ (k n : Nat) (V : VV) (q : Nat), t = q + k → k < n → f ≤ q → FrT o V0 V → V o 6 = f → V o 2 = 1 → V o 3 = 0 → V o 7 = q → Sm (f_Tape_next_12 o ob on n V) (fun W => FrT o V0 W ∧ W o 6 = f ∧ W o 2 = 1 ∧ W o 3 = 0 ∧ W o 7 = t) := by
  intro k
  induction k with
  | zero =>
    intro n V q e e2 e3 fr c6 c2 c3 c7
    cases n with
    | zero => omega
    | succ n =>
      have qt : q = t := by omega
      subst qt
      have BV := B.fr fr
      show Sm (if (V o 7) < (V o 1) then if (f_Tape_isLetter V (atV V ob on (V o 7))) = 0 then some V else _ else some V) _
      refine Sm.ite (fun g => ?_) (fun _ => Sm.ok ⟨fr, c6, c2, c3, c7⟩)
      have gs : q < sz := by have := BV.2.1; omega
      rw [c7, BV.at gs, if_pos (letC.mpr (hn gs))]
      exact Sm.ok ⟨fr, c6, c2, c3, c7⟩
  | succ k ih =>
    intro n V q e e2 e3 fr c6 c2 c3 c7
    cases n with
    | zero => omega
    | succ n =>
      have BV := B.fr fr
      have s1 := BV.2.1
      have s2 := BV.2.2.1
      have s3 := BV.2.2.2.1
      show Sm (if (V o 7) < (V o 1) then if (f_Tape_isLetter V (atV V ob on (V o 7))) = 0 then some V else f_Tape_next_12 o ob on n (up V o 7 (w32 ((V o 7) + 1))) else some V) _
      rw [if_pos (by omega), c7, BV.at (i := q) (by omega), if_neg (fun x => letC.mp x (hl q e3 (by omega))), w32_id (x := (q : Int) + 1) (by omega) (by omega)]
      exact ih n _ (q + 1) (by omega) (by omega) (by omega) (fr.up (by omega)) (by rw [up_nf _ _ (by omega)]; exact c6) (by rw [up_nf _ _ (by omega)]; exact c2) (by rw [up_nf _ _ (by omega)]; exact c3) (by rw [up_eq]; omega)
theorem nx21 {o ob on : Nat} {b : Nat → Int} {sz f t : Nat} (ht : t ≤ sz) (hl : ∀ i, f ≤ i → i < t → dig (b i)) (hn : t < sz → ¬ dig (b t)) {V0 : VV} (B : BY o ob on b sz V0) : ∀ (k n : Nat) (V : VV) (q : Nat), t = q + k → k < n → f ≤ q → FrT o V0 V → V o 6 = f → V o 2 = 2 → V o 3 = min 100000 (nv b f (q - f)) → V o 7 = q → Sm (f_Tape_next_21 o ob on n V) (fun W => FrT o V0 W ∧ W o 6 = f ∧ W o 2 = 2 ∧ W o 3 = min 100000 (nv b f (t - f)) ∧ W o 7 = t) := by
  intro k
  induction k with
  | zero =>
    intro n V q e e2 e3 fr c6 c2 c3 c7
    cases n with
    | zero => omega
    | succ n =>
      have qt : q = t := by omega
      subst qt
      have BV := B.fr fr
      show Sm (if (V o 7) < (V o 1) then if (f_Tape_isDigit V (atV V ob on (V o 7))) = 0 then some V else _ else some V) _
      refine Sm.ite (fun g => ?_) (fun _ => Sm.ok ⟨fr, c6, c2, c3, c7⟩)
      have gs : q < sz := by have := BV.2.1; omega
      rw [c7, BV.at gs, if_pos (digC.mpr (hn gs))]
      exact Sm.ok ⟨fr, c6, c2, c3, c7⟩
  | succ k ih =>
    intro n V q e e2 e3 fr c6 c2 c3 c7
    cases n with
    | zero => omega
    | succ n =>
      have BV := B.fr fr
      have s1 := BV.2.1
      have s2 := BV.2.2.1
      have s3 := BV.2.2.2.1
      have d := hl q e3 (by omega)
      have bd := nv_bd (b := b) (f := f) (q - f) (fun i x y => hl i x (by omega))
      have st : nv b f (q + 1 - f) = if nv b f (q - f) < 100000 then 10 * nv b f (q - f) + b q - 48 else nv b f (q - f) := by
        rw [show q + 1 - f = (q - f) + 1 by omega]
        show (if nv b f (q - f) < 100000 then 10 * nv b f (q - f) + b (f + (q - f)) - 48 else nv b f (q - f)) = _
        rw [show f + (q - f) = q by omega]
      show Sm (if (V o 7) < (V o 1) then if (f_Tape_isDigit V (atV V ob on (V o 7))) = 0 then some V else f_Tape_next_21 o ob on n (up (up V o 3 (min 100000 (w32 ((w32 ((w32 ((V o 3) * 10)) + (atV V ob on (V o 7)))) - 48)))) o 7 (w32 ((V o 7) + 1))) else some V) _
      rw [if_pos (by omega), c7, BV.at (i := q) (by omega), if_neg (fun x => digC.mp x d), w32_id (x := (q : Int) + 1) (by omega) (by omega)]
      unfold dig at d
      rw [c3, w32_id (x := min 100000 (nv b f (q - f)) * 10) (by omega) (by omega), w32_id (x := min 100000 (nv b f (q - f)) * 10 + b q) (by omega) (by omega), w32_id (x := min 100000 (nv b f (q - f)) * 10 + b q - 48) (by omega) (by omega)]
      refine ih n _ (q + 1) (by omega) (by omega) (by omega) ((fr.up (by omega)).up (by omega)) (by rw [up_nf _ _ (by omega), up_nf _ _ (by omega)]; exact c6) (by rw [up_nf _ _ (by omega), up_nf _ _ (by omega)]; exact c2) ?_ (by rw [up_eq]; omega)
      rw [up_nf _ _ (by omega), up_eq, st]
      split <;> omega
theorem nx6 {o ob on : Nat} {b : Nat → Int} {sz p f t : Nat} {k : Int} (tk : TokAt b sz p f t k) {V : VV} (B : BY o ob on b sz V) (c6 : V o 6 = f) : Sm (f_Tape_next_6 o ob on V) (fun W => FrT o V W ∧ TC o b W f t k) := by
  obtain ⟨⟨p1, p2, p3, p4⟩, q⟩ := tk
  have s1 := B.2.1
  have s2 := B.2.2.1
  have s3 := B.2.2.2.1
  have f0 : FrT o V (up (up V o 7 (V o 6)) o 3 0) := (FrT.rf.up (by omega)).up (by omega)
  unfold f_Tape_next_6
  rcases q with ⟨e1, e2, e3⟩ | ⟨g, nb, q⟩
  · rw [if_neg (by omega)]
    subst e3
    refine Sm.ok ⟨f0.up (by omega), ?_, ?_, ?_, ?_⟩
    · rw [up_nf _ _ (by omega), up_nf _ _ (by omega), up_nf _ _ (by omega)]; exact c6
    · rw [up_nf _ _ (by omega), up_nf _ _ (by omega), up_eq]; omega
    · rw [up_eq]
    · rw [up_nf _ _ (by omega), up_eq]; rfl
  · have c6b := id c6
    rw [if_pos (by omega), c6]
    rw [c6] at f0
    have ba : atV (up (up V o 7 (f : Int)) o 3 0) ob on (f : Int) = b f := (B.fr f0).at g
    rw [ba]
    rcases q with ⟨e, h1, h2, h3⟩ | ⟨e, h1, h2, h3⟩ | ⟨e, h1, h2, h3⟩
    · subst e
      rw [if_neg (fun x => letC.mp x (h2 f (by omega) h1))]
      refine (nx12 p3 h2 h3 B (t - f) FU _ f (by omega) (show t - f < 40000 by omega) (by omega) (f0.up (c := 2) (x := 1) (by omega)) ?_ ?_ ?_ ?_).imp (fun W hW => ⟨hW.1, hW.2.1, hW.2.2.2.2, hW.2.2.1, hW.2.2.2.1⟩)
      · rw [up_nf _ _ (by omega), up_nf _ _ (by omega), up_nf _ _ (by omega)]; exact c6
      · rw [up_eq]
      · rw [up_nf _ _ (by omega), up_eq]
      · rw [up_nf _ _ (by omega), up_nf _ _ (by omega), up_eq]
    · subst e
      have d := h2 f (by omega) h1
      have nl : ¬ let_ (b f) := by unfold let_; unfold dig at d; omega
      rw [if_pos (letC.mpr nl), if_neg (fun x => digC.mp x d)]
      refine (nx21 p3 h2 h3 B (t - f) FU _ f (by omega) (show t - f < 40000 by omega) (by omega) (f0.up (c := 2) (x := 2) (by omega)) ?_ ?_ ?_ ?_).imp (fun W hW => ⟨hW.1, hW.2.1, hW.2.2.2.2, hW.2.2.1, hW.2.2.2.1⟩)
      · rw [up_nf _ _ (by omega), up_nf _ _ (by omega), up_nf _ _ (by omega)]; exact c6
      · rw [up_eq]
      · rw [up_nf _ _ (by omega), up_eq, Nat.sub_self]; rfl
      · rw [up_nf _ _ (by omega), up_nf _ _ (by omega), up_eq]
    · subst e
      have bb : atV (up (up (up V o 7 (f : Int)) o 3 0) o 2 3) ob on (f : Int) = b f := (B.fr (f0.up (c := 2) (x := 3) (by omega))).at g
      rw [if_pos (letC.mpr h2), if_pos (digC.mpr h3), bb, w32_id (x := (f : Int) + 1) (by omega) (by omega)]
      refine Sm.ok ⟨((f0.up (by omega)).up (by omega)).up (by omega), ?_, ?_, ?_, ?_⟩
      · rw [up_nf _ _ (by omega), up_nf _ _ (by omega), up_nf _ _ (by omega), up_nf _ _ (by omega), up_nf _ _ (by omega)]; exact c6
      · rw [up_eq]; omega
      · rw [up_nf _ _ (by omega), up_nf _ _ (by omega), up_eq]
      · rw [up_nf _ _ (by omega), up_eq]; rfl
theorem nx1 {o ob on : Nat} {b : Nat → Int} {sz p f t : Nat} {k : Int} (tk : TokAt b sz p f t k) {V0 : VV} (B : BY o ob on b sz V0) : ∀ (m n : Nat) (V : VV) (q : Nat), f = q + m → m < n → p ≤ q → FrT o V0 V → V o 6 = q → Sm (f_Tape_next_1 o ob on n V) (fun W => FrT o V0 W ∧ TC o b W f t k) := by
  intro m
  induction m with
  | zero =>
    intro n V q e e2 e3 fr c6
    cases n with
    | zero => omega
    | succ n =>
      have qt : q = f := by omega
      subst qt
      have BV := B.fr fr
      have fin := (nx6 tk BV c6).imp (fun W hW => (⟨fr.tr hW.1, hW.2⟩ : FrT o V0 W ∧ TC o b W q t k))
      show Sm (if (V o 6) < (V o 1) then if (f_Tape_isBlank V (atV V ob on (V o 6))) = 0 then f_Tape_next_6 o ob on V else _ else f_Tape_next_6 o ob on V) _
      refine Sm.ite (fun g => ?_) (fun _ => fin)
      have gs : q < sz := by have := BV.2.1; omega
      have nb : ¬ bla (b q) := by
        rcases tk.2 with ⟨x, -, -⟩ | ⟨-, x, -⟩
        · omega
        · exact x
      rw [c6, BV.at gs, if_pos (blaC.mpr nb)]
      exact fin
  | succ m ih =>
    intro n V q e e2 e3 fr c6
    cases n with
    | zero => omega
    | succ n =>
      have BV := B.fr fr
      have s1 := BV.2.1
      have s2 := BV.2.2.1
      have s3 := BV.2.2.2.1
      have fs : f ≤ sz := by have := tk.1.2.1; have := tk.1.2.2.1; omega
      show Sm (if (V o 6) < (V o 1) then if (f_Tape_isBlank V (atV V ob on (V o 6))) = 0 then f_Tape_next_6 o ob on V else f_Tape_next_1 o ob on n (up V o 6 (w32 ((V o 6) + 1))) else f_Tape_next_6 o ob on V) _
      rw [if_pos (by omega), c6, BV.at (i := q) (by omega), if_neg (fun x => blaC.mp x (tk.1.2.2.2 q e3 (by omega))), w32_id (x := (q : Int) + 1) (by omega) (by omega)]
      exact ih n _ (q + 1) (by omega) (by omega) (by omega) (fr.up (by omega)) (by rw [up_eq]; omega)
theorem tokC {o ob on : Nat} {b : Nat → Int} {sz p f t : Nat} {k : Int} (tk : TokAt b sz p f t k) {V : VV} (B : BY o ob on b sz V) (c7 : V o 7 = p) : Sm (f_Tape_next o ob on V) (fun W => FrT o V W ∧ TC o b W f t k) := by
  have s2 := B.2.2.1
  have s3 := B.2.2.2.1
  have fs := tk.1.2.1
  have ts := tk.1.2.2.1
  have pf := tk.1.1
  unfold f_Tape_next
  exact nx1 tk B (f - p) FU _ p (by omega) (show f - p < 40000 by omega) (by omega) (FrT.rf.up (by omega)) (by rw [up_eq]; exact c7)
