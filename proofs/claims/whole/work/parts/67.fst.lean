/-! where the loads lie; the first that stands -/
theorem oN_bd : ∀ g : Nat, 64 ≤ oN g ∧ oN g ≤ 17280 := by
  intro g
  unfold oN
  split <;> omega
theorem HOK.bd {h : HP} (hh : HOK h) : rowN h = 9 * ordN h ∧ 64 ≤ ordN h ∧ ordN h ≤ 17280 := by
  obtain ⟨g, h1, rfl⟩ := hh
  obtain ⟨a, b⟩ := rowN_hg h1
  have := oN_bd g
  rw [a, b]
  exact ⟨rfl, this⟩
theorem HOK.lie {h : HP} (hh : HOK h) : (h.1 = 29 ∨ 123 ≤ h.1) ∧ (h.2.1 = 30 ∨ 123 ≤ h.2.1) ∧ h.1 ≠ h.2.1 := by
  obtain ⟨g, h1, rfl⟩ := hh
  cases g with
  | zero => exact ⟨Or.inl rfl, Or.inl rfl, by decide⟩
  | succ g => exact ⟨Or.inr (by show 123 ≤ 124 + 2 * g; omega), Or.inr (by show 123 ≤ 123 + 2 * g; omega), by show 124 + 2 * g ≠ 123 + 2 * g; omega⟩
theorem kE_row {h : HP} (hh : HOK h) : (∀ k, kE h.1 k = true) ∧ ∀ k, kE h.2.1 k = true := by
  obtain ⟨a, b, -⟩ := hh.lie
  have key : ∀ i : Nat, (i = 29 ∨ i = 30 ∨ 123 ≤ i) → ∀ k, kE i k = true := by
    intro i hi k
    unfold kE
    split
    · omega
    · omega
    · simp only [Bool.or_eq_true, Bool.and_eq_true]
      rcases hi with hi | hi | hi
      · subst hi; exact Or.inl ⟨rfl, rfl⟩
      · subst hi; exact Or.inl ⟨rfl, rfl⟩
      · exact Or.inr (Nat.ble_eq_true_of_le hi)
  exact ⟨key _ (by omega), key _ (by omega)⟩
theorem ld_of {V : VV} {h : HP} (hh : HOK h) {l : Nat} {f : Nat} (h1 : l < ordN h) (h2 : f < 9) : f_Loads_of V h (l : Int) (f : Int) = V h.1 (9 * l + f) := by
  obtain ⟨a, b, c⟩ := hh.bd
  unfold f_Loads_of
  rw [w32_id (x := (l : Int) * 9) (by omega) (by omega), w32_id (by omega) (by omega), atV_in (by omega) (by omega), show ((l : Int) * 9 + f).toNat = 9 * l + f by omega]
theorem ld_noteV {V : VV} {h : HP} (hh : HOK h) {l : Nat} {f : Nat} {x : Int} (h1 : l < ordN h) (h2 : f < 9) : noteV V h (l : Int) (f : Int) x = up V h.1 (9 * l + f) x := by
  obtain ⟨a, b, c⟩ := hh.bd
  unfold noteV
  rw [w32_id (x := (l : Int) * 9) (by omega) (by omega), w32_id (by omega) (by omega), setV_in (by omega) (by omega), show ((l : Int) * 9 + f).toNat = 9 * l + f by omega]
theorem lt_eq {α β : Type} (a : α) (f : α → β) : lt_ a f = f a := rfl
theorem note_eq {V : VV} {h : HP} {l f x : Int} : f_Loads_note V h l f x = noteV V h l f x := by
  unfold f_Loads_note noteV
  exact lt_eq _ _
theorem ld_note {V : VV} {h : HP} (hh : HOK h) {l : Nat} {f : Nat} {x : Int} (h1 : l < ordN h) (h2 : f < 9) : f_Loads_note V h (l : Int) (f : Int) x = up V h.1 (9 * l + f) x := note_eq.trans (ld_noteV hh h1 h2)
/-- the first that P holds of, by c and then by number -/
def Fst (P : Nat → Prop) (c : Nat → Int) (n : Nat) (b : Int) : Prop := (b = -1 ∧ ∀ k, k < n → ¬ P k) ∨ ∃ m : Nat, b = (m : Int) ∧ m < n ∧ P m ∧ ∀ k, k < n → P k → c m ≤ c k ∧ (k < m → c m < c k)
theorem Fst.nil {P : Nat → Prop} {c : Nat → Int} : Fst P c 0 (-1) := Or.inl ⟨rfl, fun k hk => by omega⟩
theorem Fst.skip {P : Nat → Prop} {c : Nat → Int} {n : Nat} {b : Int} (h : Fst P c n b) (hp : ¬ P n) : Fst P c (n + 1) b := by
  rcases h with ⟨rfl, h⟩ | ⟨m, rfl, h1, h2, h3⟩
  · refine Or.inl ⟨rfl, fun k hk => ?_⟩
    by_cases e : k = n
    · subst e; exact hp
    · exact h k (by omega)
  · refine Or.inr ⟨m, rfl, by omega, h2, fun k hk hk2 => ?_⟩
    by_cases e : k = n
    · subst e; exact absurd hk2 hp
    · exact h3 k (by omega) hk2
theorem Fst.first {P : Nat → Prop} {c : Nat → Int} {n : Nat} (h : Fst P c n (-1)) (hp : P n) : Fst P c (n + 1) (n : Int) := by
  rcases h with ⟨-, h⟩ | ⟨m, e, -⟩
  · refine Or.inr ⟨n, rfl, by omega, hp, fun k hk hk2 => ?_⟩
    by_cases e : k = n
    · subst e; exact ⟨Int.le_refl _, fun z => absurd z (Nat.lt_irrefl _)⟩
    · exact absurd hk2 (h k (by omega))
  · omega
theorem Fst.next {P : Nat → Prop} {c : Nat → Int} {n m : Nat} (h : Fst P c n (m : Int)) (hp : P n) : Fst P c (n + 1) (if c n < c m then (n : Int) else (m : Int)) := by
  rcases h with ⟨e, -⟩ | ⟨m', e, h1, h2, h3⟩
  · omega
  · have : m' = m := by omega
    subst this
    split
    · next hc =>
      refine Or.inr ⟨n, rfl, by omega, hp, fun k hk hk2 => ?_⟩
      by_cases e : k = n
      · subst e; exact ⟨Int.le_refl _, fun z => absurd z (Nat.lt_irrefl _)⟩
      · have := (h3 k (by omega) hk2).1
        exact ⟨by omega, fun _ => by omega⟩
    · next hc =>
      refine Or.inr ⟨m', rfl, by omega, h2, fun k hk hk2 => ?_⟩
      by_cases e : k = n
      · subst e; exact ⟨by omega, fun z => by omega⟩
      · exact h3 k (by omega) hk2
theorem Fst.eq {P P2 : Nat → Prop} {c d : Nat → Int} {n : Nat} {b b2 : Int} (h : Fst P c n b) (h2 : Fst P2 d n b2) (hP : ∀ k, k < n → (P k ↔ P2 k)) (o : ∀ k k', k < n → k' < n → P k → P k' → (c k < c k' ∨ (c k = c k' ∧ k < k')) → d k < d k') : b = b2 := by
  rcases h with ⟨rfl, h⟩ | ⟨m, rfl, a1, a2, a3⟩
  · rcases h2 with ⟨rfl, -⟩ | ⟨m, rfl, b1, b2, -⟩
    · rfl
    · exact absurd ((hP m b1).mpr b2) (h m b1)
  · rcases h2 with ⟨rfl, h2⟩ | ⟨m2, rfl, b1, b2, b3⟩
    · exact absurd ((hP m a1).mp a2) (h2 m a1)
    · by_cases e : m = m2
      · rw [e]
      · exfalso
        have p2 := (hP m2 b1).mpr b2
        have x := a3 m2 b1 p2
        have y := o m m2 a1 b1 a2 p2 (by omega)
        have z := b3 m a1 ((hP m a1).mp a2)
        omega
theorem fsC1 {V : VV} {h : HP} {st f v : Int} (hN : 1 ≤ V 37 5 ∧ V 37 5 ≤ 16) : ∀ (k n : Nat) (b : Int) (m : Nat), V 37 5 - (m : Int) ≤ (k : Int) → k < n → (m : Int) ≤ V 37 5 → Fst (fun k => V 42 k = st ∧ f_Loads_of V h (V 44 k) f = v) (V 43) m b → Sm (f_Haulage_firstStanding_1 n V h st f v b (m : Int)) (fun b => Fst (fun k => V 42 k = st ∧ f_Loads_of V h (V 44 k) f = v) (V 43) (V 37 5).toNat b) := by
  intro k
  induction k with
  | zero =>
    intro n b m e1 e2 e3 q
    cases n with
    | zero => omega
    | succ n =>
      show Sm (if (m : Int) < V 37 5 then _ else some b) _
      exact Sm.neg (by omega) (Sm.ok (by rw [show (V 37 5).toNat = m by omega]; exact q))
  | succ k ih =>
    intro n b m e1 e2 e3 q
    cases n with
    | zero => omega
    | succ n =>
      show Sm (if (m : Int) < V 37 5 then f_Haulage_firstStanding_1 n V h st f v (if (atV V 42 16 (m : Int)) = st then (if (f_Loads_of V h (atV V 44 16 (m : Int)) f) = v then (if b = (-1) then (m : Int) else (if (atV V 43 16 (m : Int)) < (atV V 43 16 b) then (m : Int) else b : Int) : Int) else b : Int) else b : Int) (w32 ((m : Int) + 1)) else some b) _
      refine Sm.ite (fun g => ?_) (fun g => Sm.ok (by rw [show (V 37 5).toNat = m by omega]; exact q))
      rw [w32_id (by omega) (by omega), show (m : Int) + 1 = ((m + 1 : Nat) : Int) by omega, atV_in (V := V) (id := 42) (by omega) (by omega), atV_in (V := V) (id := 44) (by omega) (by omega), atV_in (V := V) (id := 43) (i := (m : Int)) (by omega) (by omega), show ((m : Int)).toNat = m by omega]
      refine ih n _ (m + 1) (by omega) (by omega) (by omega) ?_
      split
      · next x1 =>
        split
        · next x2 =>
          split
          · next x3 => subst x3; exact q.first ⟨x1, x2⟩
          · next x3 =>
            have : ∃ m' : Nat, b = (m' : Int) ∧ m' < m := by
              rcases q with ⟨e, -⟩ | ⟨m', e, e2, -⟩
              · exact absurd e x3
              · exact ⟨m', e, e2⟩
            obtain ⟨m', rfl, hm'⟩ := this
            rw [atV_in (by omega) (by omega), show ((m' : Int)).toNat = m' by omega]
            exact q.next ⟨x1, x2⟩
        · next x2 => exact q.skip (fun z => x2 z.2)
      · next x1 => exact q.skip (fun z => x1 z.1)
theorem fsC {V : VV} {h : HP} {st f v : Int} (hN : 1 ≤ V 37 5 ∧ V 37 5 ≤ 16) : Sm (f_Haulage_firstStanding V h st f v) (fun b => Fst (fun k => V 42 k = st ∧ f_Loads_of V h (V 44 k) f = v) (V 43) (V 37 5).toNat b) :=
  fsC1 hN 16 FU (-1) 0 (by omega) (by decide) (by omega) Fst.nil
theorem fsM1 {U : VV} {v : Int} (hN : 1 ≤ U 62 22 ∧ U 62 22 ≤ 16) : ∀ (k n : Nat) (b : Int) (m : Nat), U 62 22 - (m : Int) ≤ (k : Int) → k < n → (m : Int) ≤ U 62 22 → Fst (fun k => U 86 k = 2 ∧ U 89 k = v) (U 88) m b → Sm (f_Mo_firstAtPlant_1 n U v b (m : Int)) (fun b => Fst (fun k => U 86 k = 2 ∧ U 89 k = v) (U 88) (U 62 22).toNat b) := by
  intro k
  induction k with
  | zero =>
    intro n b m e1 e2 e3 q
    cases n with
    | zero => omega
    | succ n =>
      show Sm (if (m : Int) < U 62 22 then _ else some b) _
      exact Sm.neg (by omega) (Sm.ok (by rw [show (U 62 22).toNat = m by omega]; exact q))
  | succ k ih =>
    intro n b m e1 e2 e3 q
    cases n with
    | zero => omega
    | succ n =>
      have nx : ∀ b', Fst (fun k => U 86 k = 2 ∧ U 89 k = v) (U 88) (m + 1) b' → (m : Int) < U 62 22 → Sm (f_Mo_firstAtPlant_1 n U v b' (w32 ((m : Int) + 1))) (fun b => Fst (fun k => U 86 k = 2 ∧ U 89 k = v) (U 88) (U 62 22).toNat b) := by
        intro b' hb' g
        rw [w32_id (by omega) (by omega), show (m : Int) + 1 = ((m + 1 : Nat) : Int) by omega]
        exact ih n b' (m + 1) (by omega) (by omega) (by omega) hb'
      show Sm (if (m : Int) < U 62 22 then if 0 ≤ (m : Int) ∧ (m : Int) < (16 : Int) then if (U 86 ((m : Int)).toNat) = 2 then if 0 ≤ (m : Int) ∧ (m : Int) < (16 : Int) then if (U 89 ((m : Int)).toNat) = v then if b < 0 then f_Mo_firstAtPlant_1 n U v (m : Int) (w32 ((m : Int) + 1)) else if 0 ≤ (m : Int) ∧ (m : Int) < (16 : Int) then if 0 ≤ b ∧ b < (16 : Int) then if (U 88 ((m : Int)).toNat) < (U 88 b.toNat) then f_Mo_firstAtPlant_1 n U v (m : Int) (w32 ((m : Int) + 1)) else f_Mo_firstAtPlant_1 n U v b (w32 ((m : Int) + 1)) else none else none else f_Mo_firstAtPlant_1 n U v b (w32 ((m : Int) + 1)) else none else f_Mo_firstAtPlant_1 n U v b (w32 ((m : Int) + 1)) else none else some b) _
      refine Sm.ite (fun g => ?_) (fun g => Sm.ok (by rw [show (U 62 22).toNat = m by omega]; exact q))
      rw [show ((m : Int)).toNat = m by omega]
      refine Sm.pos (by omega) (Sm.ite (fun x1 => Sm.pos (by omega) (Sm.ite (fun x2 => Sm.ite (fun x3 => nx _ ?_ g) (fun x3 => Sm.pos (by omega) ?_)) (fun x2 => nx _ (q.skip (fun z => x2 z.2)) g))) (fun x1 => nx _ (q.skip (fun z => x1 z.1)) g))
      · have : b = -1 := by
          rcases q with ⟨e, -⟩ | ⟨m', e, e2, -⟩
          · exact e
          · omega
        subst this
        exact q.first ⟨x1, x2⟩
      · have : ∃ m' : Nat, b = (m' : Int) ∧ m' < m := by
          rcases q with ⟨e, -⟩ | ⟨m', e, e2, -⟩
          · omega
          · exact ⟨m', e, e2⟩
        obtain ⟨m', rfl, hm'⟩ := this
        rw [show ((m' : Int)).toNat = m' by omega]
        have nq := q.next ⟨x1, x2⟩
        refine Sm.pos (by omega) (Sm.ite (fun x4 => nx _ ?_ g) (fun x4 => nx _ ?_ g))
        · rw [if_pos x4] at nq; exact nq
        · rw [if_neg x4] at nq; exact nq
theorem fsM {U : VV} {v : Int} (hN : 1 ≤ U 62 22 ∧ U 62 22 ≤ 16) : Sm (f_Mo_firstAtPlant U v) (fun b => Fst (fun k => U 86 k = 2 ∧ U 89 k = v) (U 88) (U 62 22).toNat b) :=
  fsM1 hN 16 FU (-1) 0 (by omega) (by decide) (by omega) Fst.nil
theorem fwM1 {U : VV} {v : Int} (hN : 1 ≤ U 62 22 ∧ U 62 22 ≤ 16) (hl : ∀ k : Nat, (k : Int) < U 62 22 → U 86 k = 5 → 0 ≤ U 90 k ∧ U 90 k < 17400) : ∀ (k n : Nat) (b : Int) (m : Nat), U 62 22 - (m : Int) ≤ (k : Int) → k < n → (m : Int) ≤ U 62 22 → Fst (fun k => U 86 k = 5 ∧ U 99 (U 90 k).toNat = v) (U 88) m b → Sm (f_Mo_firstWaiting_1 n U v b (m : Int)) (fun b => Fst (fun k => U 86 k = 5 ∧ U 99 (U 90 k).toNat = v) (U 88) (U 62 22).toNat b) := by
  intro k
  induction k with
  | zero =>
    intro n b m e1 e2 e3 q
    cases n with
    | zero => omega
    | succ n =>
      show Sm (if (m : Int) < U 62 22 then _ else some b) _
      exact Sm.neg (by omega) (Sm.ok (by rw [show (U 62 22).toNat = m by omega]; exact q))
  | succ k ih =>
    intro n b m e1 e2 e3 q
    cases n with
    | zero => omega
    | succ n =>
      have nx : ∀ b', Fst (fun k => U 86 k = 5 ∧ U 99 (U 90 k).toNat = v) (U 88) (m + 1) b' → (m : Int) < U 62 22 → Sm (f_Mo_firstWaiting_1 n U v b' (w32 ((m : Int) + 1))) (fun b => Fst (fun k => U 86 k = 5 ∧ U 99 (U 90 k).toNat = v) (U 88) (U 62 22).toNat b) := by
        intro b' hb' g
        rw [w32_id (by omega) (by omega), show (m : Int) + 1 = ((m + 1 : Nat) : Int) by omega]
        exact ih n b' (m + 1) (by omega) (by omega) (by omega) hb'
      show Sm (if (m : Int) < U 62 22 then if 0 ≤ (m : Int) ∧ (m : Int) < (16 : Int) then if (U 86 ((m : Int)).toNat) = 5 then if 0 ≤ (m : Int) ∧ (m : Int) < (16 : Int) then if 0 ≤ (U 90 ((m : Int)).toNat) ∧ (U 90 ((m : Int)).toNat) < (17400 : Int) then if (U 99 ((U 90 ((m : Int)).toNat).toNat)) = v then if b < 0 then f_Mo_firstWaiting_1 n U v (m : Int) (w32 ((m : Int) + 1)) else if 0 ≤ (m : Int) ∧ (m : Int) < (16 : Int) then if 0 ≤ b ∧ b < (16 : Int) then if (U 88 ((m : Int)).toNat) < (U 88 b.toNat) then f_Mo_firstWaiting_1 n U v (m : Int) (w32 ((m : Int) + 1)) else f_Mo_firstWaiting_1 n U v b (w32 ((m : Int) + 1)) else none else none else f_Mo_firstWaiting_1 n U v b (w32 ((m : Int) + 1)) else none else none else f_Mo_firstWaiting_1 n U v b (w32 ((m : Int) + 1)) else none else some b) _
      refine Sm.ite (fun g => ?_) (fun g => Sm.ok (by rw [show (U 62 22).toNat = m by omega]; exact q))
      rw [show ((m : Int)).toNat = m by omega]
      refine Sm.pos (by omega) (Sm.ite (fun x1 => Sm.pos (by omega) (Sm.pos (hl m g x1) (Sm.ite (fun x2 => Sm.ite (fun x3 => nx _ ?_ g) (fun x3 => Sm.pos (by omega) ?_)) (fun x2 => nx _ (q.skip (fun z => x2 z.2)) g)))) (fun x1 => nx _ (q.skip (fun z => x1 z.1)) g))
      · have : b = -1 := by
          rcases q with ⟨e, -⟩ | ⟨m', e, e2, -⟩
          · exact e
          · omega
        subst this
        exact q.first ⟨x1, x2⟩
      · have : ∃ m' : Nat, b = (m' : Int) ∧ m' < m := by
          rcases q with ⟨e, -⟩ | ⟨m', e, e2, -⟩
          · omega
          · exact ⟨m', e, e2⟩
        obtain ⟨m', rfl, hm'⟩ := this
        rw [show ((m' : Int)).toNat = m' by omega]
        have nq := q.next ⟨x1, x2⟩
        refine Sm.pos (by omega) (Sm.ite (fun x4 => nx _ ?_ g) (fun x4 => nx _ ?_ g))
        · rw [if_pos x4] at nq; exact nq
        · rw [if_neg x4] at nq; exact nq
theorem fwM {U : VV} {v : Int} (hN : 1 ≤ U 62 22 ∧ U 62 22 ≤ 16) (hl : ∀ k : Nat, (k : Int) < U 62 22 → U 86 k = 5 → 0 ≤ U 90 k ∧ U 90 k < 17400) : Sm (f_Mo_firstWaiting U v) (fun b => Fst (fun k => U 86 k = 5 ∧ U 99 (U 90 k).toNat = v) (U 88) (U 62 22).toNat b) :=
  fwM1 hN hl 16 FU (-1) 0 (by omega) (by decide) (by omega) Fst.nil
