/-! a rate is read: the state of both sides -/
theorem AT.next2 {o ob on : Nat} {b : Nat → Int} {sz : Nat} {V U : VV} (a : AT o ob on b sz V U) : Two (f_Tape_next o ob on V) (f_Mo_nextToken U) (fun W X => AT o ob on b sz W X ∧ FrT o V W ∧ FrMo U X ∧ (V o 2 ≠ 0 → V o 6 < W o 6)) := by
  obtain ⟨h0, p, f, t, k, h1, h2, h3, h4, h5⟩ := a
  obtain ⟨f2, t2, k2, tk⟩ := tokEx b (p := t) (sz := sz) h1.1.2.2.1
  obtain ⟨W, eW, w1, w2⟩ := tokC tk h2 h4.2.1
  obtain ⟨X, eX, x1, x2⟩ := nextM tk h3 h5.1
  refine ⟨W, X, eW, eX, ⟨by rw [w1.2 4 (by omega) (by omega) (by omega) (by omega), w1.2 5 (by omega) (by omega) (by omega) (by omega)]; exact h0, t, f2, t2, k2, tk, h2.fr w1, h3.fr x1, w2, x2⟩, w1, x1, fun hk => ?_⟩
  rw [h4.2.2.1] at hk
  rw [h4.1, w2.1]
  have e := tk.1.1
  rcases h1.2 with ⟨-, -, x⟩ | ⟨-, -, ⟨-, x, -⟩ | ⟨-, x, -⟩ | ⟨-, x, -⟩⟩ <;> omega
theorem AT.pos {o ob on : Nat} {b : Nat → Int} {sz : Nat} {V U : VV} (a : AT o ob on b sz V U) : 0 ≤ V o 6 ∧ V o 6 ≤ sz ∧ (V o 2 ≠ 0 → V o 6 < sz) := by
  obtain ⟨h0, p, f, t, k, h1, h2, h3, h4, h5⟩ := a
  rw [h4.1, h4.2.2.1]
  have e := h1.1
  rcases h1.2 with ⟨-, -, x⟩ | ⟨x, -, -⟩ <;> omega
def RST (o ob on : Nat) (b : Nat → Int) (sz : Nat) (V X : VV) (L : List (Int × Int)) (p : List Int) (d want : Int) : Prop := AT o ob on b sz V X ∧ V o 4 = 0 ∧ EM X L ∧ (PL X p ∧ X 62 110 = (p.length : Int)) ∧ X 62 109 = d ∧ X 62 111 = want ∧ ((L.length + p.length : Nat) : Int) ≤ V o 6 ∧ sz ≤ 100
/-- what the reference's reading may change -/
def FX (U Y : VV) : Prop := (∀ r, r ≠ 62 → r ≠ 118 → r ≠ 119 → r ≠ 120 → Y r = U r) ∧ (∀ c, ¬ (43 ≤ c ∧ c ≤ 47) → ¬ (108 ≤ c ∧ c ≤ 111) → Y 62 c = U 62 c) ∧ ∀ k, k < 128 → Y 118 k = U 118 k ∧ Y 119 k = U 119 k
theorem FX.rf {U : VV} : FX U U := ⟨fun _ _ _ _ _ => rfl, fun _ _ _ => rfl, fun _ _ => ⟨rfl, rfl⟩⟩
theorem FX.tr {U X Y : VV} (h : FX U X) (h2 : FX X Y) : FX U Y := ⟨fun r a b c d => (h2.1 r a b c d).trans (h.1 r a b c d), fun c a d => (h2.2.1 c a d).trans (h.2.1 c a d), fun k a => ⟨(h2.2.2 k a).1.trans (h.2.2 k a).1, (h2.2.2 k a).2.trans (h.2.2 k a).2⟩⟩
theorem FE.fx {U Y : VV} (h : FE U Y) : FX U Y := ⟨h.1, fun c _ a => h.2.1 c a, h.2.2⟩
theorem FrMo.fx {U Y : VV} (h : FrMo U Y) : FX U Y := ⟨fun r a _ _ _ => h.1 r a, fun c a _ => h.2 c a, fun k _ => ⟨by rw [h.1 118 (by omega)], by rw [h.1 119 (by omega)]⟩⟩
theorem EM.cg {U Y : VV} {L : List (Int × Int)} (e : EM U L) (h1 : Y 62 108 = U 62 108) (h2 : Y 118 = U 118) (h3 : Y 119 = U 119) : EM Y L := ⟨by rw [h1]; exact e.1, e.2.1, fun i h => by rw [h2, h3]; exact e.2.2 i h⟩
/-- a token is passed on both sides -/
theorem RST.next {o ob on : Nat} {b : Nat → Int} {sz : Nat} {V X : VV} {L L2 : List (Int × Int)} {p p2 : List Int} {d want : Int} {Y : VV} (r : RST o ob on b sz V X L p d want) (hk : V o 2 ≠ 0) (a : AT o ob on b sz V Y) (em : EM Y L2) (pl : PL Y p2 ∧ Y 62 110 = (p2.length : Int)) (hl : L2.length + p2.length ≤ L.length + p.length + 1) : Two (f_Tape_next o ob on V) (f_Mo_nextToken Y) (fun W Z => RST o ob on b sz W Z L2 p2 (Y 62 109) (Y 62 111) ∧ FrT o V W ∧ FrMo Y Z ∧ V o 6 < W o 6) := by
  refine a.next2.imp (fun W Z h => ?_)
  obtain ⟨n1, n2, n3, n4⟩ := h
  have g := n4 hk
  have r7 := r.2.2.2.2.2.2.1
  refine ⟨⟨n1, by rw [n2.2 4 (by omega) (by omega) (by omega) (by omega)]; exact r.2.1, em.cg (n3.2 108 (by omega)) (n3.1 118 (by omega)) (n3.1 119 (by omega)), ⟨PL.cg (n3.1 120 (by omega)) _ pl.1, by rw [n3.2 110 (by omega)]; exact pl.2⟩, n3.2 109 (by omega), n3.2 111 (by omega), by omega, r.2.2.2.2.2.2.2⟩, n2, n3, g⟩
