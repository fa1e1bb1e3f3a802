/-! hours that agree -/
theorem ha2_of {V U : VV} {n w : Nat} (h : HRW V U n) (hw : w < 3) (b : WBIT V n w) : HA2 V U (w : Int) := by
  intro V' U' hc hm t t0 t1
  have hr : HRW V' U' n := by
    obtain ⟨h1, h2, h3, h4⟩ := h
    refine ⟨by rw [hc.1]; exact h1, by rw [hm.1]; exact h2, h3, fun i hi => ?_⟩
    rw [hc.2 19 (by omega) (by omega), hc.2 20 (by omega) (by omega), hc.2 21 (by omega) (by omega), hc.2 22 (by omega) (by omega), hc.2 23 (by omega) (by omega), hm.2 81 (by omega) (by omega) i (by omega), hm.2 82 (by omega) (by omega) i (by omega), hm.2 83 (by omega) (by omega) i (by omega), hm.2 84 (by omega) (by omega) i (by omega), hm.2 85 (by omega) (by omega) i (by omega)]
    exact h4 i hi
  have n4 : n < 40000 := by have := h.2.2.1; omega
  have e24 : V' 24 = V 24 := hc.2 24 (by omega) (by omega)
  have ef := opn_fr (V := V) (W := V') (n := n) (w := (w : Int)) (t := t) (fun r a c => hc.2 r (by omega) (by omega))
  obtain ⟨o, a, bb, c, ⟨q1, q2, q3, q4⟩, x1, x2, x3, x4, x5⟩ := b t.toNat (by omega)
  rw [show ((t.toNat : Nat) : Int) = t by omega] at x2 x3 x4 x5
  have at24 : atV V' 24 12960 (w32 ((w32 ((w : Int) * 4320)) + t)) = o + 2 * a + 4 * bb + 8 * c := by
    rw [w32_id (x := (w : Int) * 4320) (by omega) (by omega), w32_id (x := (w : Int) * 4320 + t) (by omega) (by omega), atV_in (by omega) (by omega), e24, show ((w : Int) * 4320 + t).toNat = 4320 * w + t.toNat by omega]
    exact x1
  obtain ⟨k1, k2, k3, k4, -⟩ := bits_ops q1 q2 q3 q4
  have val : ∀ (d : Int) (r : Int) (P P' : Prop), bt d → (d = 1 ↔ P) → (P' ↔ P) → isR r P' → r = d := by
    intro d r P P' hd e1 e2 hr
    rcases hr with ⟨y1, y2⟩ | ⟨y1, y2⟩
    · rw [y1]; exact (e1.mpr (e2.mp y2)).symm
    · rcases hd with z | z
      · omega
      · exact absurd (e2.mpr (e1.mp z)) y2
  refine ⟨?_, fun p p0 p1 => ⟨?_, ?_⟩⟩
  · obtain ⟨r, er, hR⟩ := openL (w := (w : Int)) (t := t) hr (by omega) n FU 0 0 0 (by omega) n4 (fun j hj => by omega) (Or.inr ⟨rfl, fun ⟨j, hj, _⟩ => by omega⟩) (Or.inr ⟨rfl, fun ⟨j, hj, _⟩ => by omega⟩)
    have rv := val o r _ _ q1 x2 ef.1 hR
    unfold f_Hours_isOpen
    rw [at24, k1]
    show f_Mo_isOpen_1 FU U' (w : Int) t 0 0 ((0 : Nat) : Int) = _
    rw [er, rv]
    rcases q1 with z | z
    · rw [z, if_pos rfl]
    · rw [z, if_neg (by omega)]
  · obtain ⟨r, er, hR⟩ := shutL (w := (w : Int)) (p := p) (t := t) hr (by omega) n FU 0 (by omega) n4 (fun j hj => by omega)
    have sb := shutBits (V := V')
    unfold f_Hours_isShut
    rw [at24]
    show f_Mo_isShut_1 FU U' (w : Int) p t ((0 : Nat) : Int) = _
    rw [er]
    have e2 := ef.2 p
    have : p = 0 ∨ p = 1 ∨ p = 2 := by omega
    rcases this with rfl | rfl | rfl
    · rw [sb.1, k2, val a r _ _ q2 x3 e2 hR]
      rcases q2 with z | z
      · rw [z, if_pos (by omega)]
      · rw [z, if_neg (by omega)]
    · rw [sb.2.1, k3, val bb r _ _ q3 x4 e2 hR]
      rcases q3 with z | z
      · rw [z, if_pos (by omega)]
      · rw [z, if_neg (by omega)]
    · rw [sb.2.2, k4, val c r _ _ q4 x5 e2 hR]
      rcases q4 with z | z
      · rw [z, if_pos (by omega)]
      · rw [z, if_neg (by omega)]
  · obtain ⟨m, m1, m2, m3, m4⟩ := haulL (w := (w : Int)) (p := p) (t := t) hr (by omega) t0 n FU FU 0 20 (-1) (-1) (by omega) n4 n4 (Or.inl ⟨rfl, rfl, rfl⟩)
    exact ⟨m, m1, m2, m3, m4⟩
theorem cp5 {U0 : VV} {n : Nat} (hn : n ≤ 40) (h48 : U0 62 48 = n) : ∀ (k m i : Nat) (X : VV), n = i + k → k < m → (∀ r, ¬ (81 ≤ r ∧ r ≤ 85) → X r = U0 r) → (∀ r x : Nat, 81 ≤ r → r ≤ 85 → X r x = if x < i then U0 r (40 + x) else U0 r x) → Sm (f_Mo_hours_5 m X (i : Int)) (fun z => z.2 = n ∧ (∀ r, ¬ (81 ≤ r ∧ r ≤ 85) → z.1 r = U0 r) ∧ ∀ r x : Nat, 81 ≤ r → r ≤ 85 → z.1 r x = if x < n then U0 r (40 + x) else U0 r x) := by
  intro k
  induction k with
  | zero =>
    intro m i X e e1 f1 f2
    cases m with
    | zero => omega
    | succ m =>
      have ei : i = n := by omega
      subst ei
      show Sm (if (i : Int) < (X 62 48) then _ else some (X, X 62 48)) _
      rw [f1 62 (by omega), if_neg (by omega)]
      exact Sm.ok ⟨h48, f1, f2⟩
  | succ k ih =>
    intro m i X e e1 f1 f2
    cases m with
    | zero => omega
    | succ m =>
      have i4 : 0 ≤ (40 + (i : Int)) ∧ (40 + (i : Int)) < (80 : Int) := by omega
      have i8 : 0 ≤ (i : Int) ∧ (i : Int) < (80 : Int) := by omega
      show Sm (if (i : Int) < (X 62 48) then if 0 ≤ (w32 (40 + (i : Int))) ∧ (w32 (40 + (i : Int))) < (80 : Int) then if 0 ≤ (i : Int) ∧ (i : Int) < (80 : Int) then if 0 ≤ (w32 (40 + (i : Int))) ∧ (w32 (40 + (i : Int))) < (80 : Int) then if 0 ≤ (i : Int) ∧ (i : Int) < (80 : Int) then if 0 ≤ (w32 (40 + (i : Int))) ∧ (w32 (40 + (i : Int))) < (80 : Int) then if 0 ≤ (i : Int) ∧ (i : Int) < (80 : Int) then if 0 ≤ (w32 (40 + (i : Int))) ∧ (w32 (40 + (i : Int))) < (80 : Int) then if 0 ≤ (i : Int) ∧ (i : Int) < (80 : Int) then if 0 ≤ (w32 (40 + (i : Int))) ∧ (w32 (40 + (i : Int))) < (80 : Int) then if 0 ≤ (i : Int) ∧ (i : Int) < (80 : Int) then f_Mo_hours_5 m (up (up (up (up (up X 81 (i : Int).toNat (X 81 ((w32 (40 + (i : Int))).toNat))) 82 (i : Int).toNat (X 82 ((w32 (40 + (i : Int))).toNat))) 83 (i : Int).toNat (X 83 ((w32 (40 + (i : Int))).toNat))) 84 (i : Int).toNat (X 84 ((w32 (40 + (i : Int))).toNat))) 85 (i : Int).toNat (X 85 ((w32 (40 + (i : Int))).toNat))) (w32 ((i : Int) + 1)) else none else none else none else none else none else none else none else none else none else none else some (X, X 62 48)) _
      rw [f1 62 (by omega), if_pos (by omega), w32_id (x := 40 + (i : Int)) (by omega) (by omega), w32_id (x := (i : Int) + 1) (by omega) (by omega), if_pos i4, if_pos i8, if_pos i4, if_pos i8, if_pos i4, if_pos i8, if_pos i4, if_pos i8, if_pos i4, if_pos i8, Int.toNat_natCast, show (40 + (i : Int)).toNat = 40 + i by omega]
      refine ih m (i + 1) _ (by omega) (by omega) (fun r hr => ?_) (fun r x r1 r2 => ?_)
      · rw [up_na _ _ _ (by omega), up_na _ _ _ (by omega), up_na _ _ _ (by omega), up_na _ _ _ (by omega), up_na _ _ _ (by omega)]; exact f1 r hr
      · have key : (up (up (up (up (up X 81 i (X 81 (40 + i))) 82 i (X 82 (40 + i))) 83 i (X 83 (40 + i))) 84 i (X 84 (40 + i))) 85 i (X 85 (40 + i))) r x = if x = i then X r (40 + i) else X r x := by
          have : r = 81 ∨ r = 82 ∨ r = 83 ∨ r = 84 ∨ r = 85 := by omega
          rcases this with rfl | rfl | rfl | rfl | rfl <;> simp only [up_ap, Nat.reduceEqDiff, reduceIte]
        rw [key, f2 r (40 + i) r1 r2, if_neg (show ¬ 40 + i < i by omega), f2 r x r1 r2]
        by_cases ex : x = i
        · rw [if_pos ex, if_pos (by omega), ex]
        · rw [if_neg ex]
          by_cases c : x < i
          · rw [if_pos c, if_pos (by omega)]
          · rw [if_neg c, if_neg (by omega)]
