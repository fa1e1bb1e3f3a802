/-! (2) who comes in this minute -/
def ciF (s c t : Int) : Int := if c = t then (if s = 1 then 2 else if s = 4 then 5 else s) else s
theorem ciC1 {V0 : VV} {t : Int} (hN : 1 ≤ V0 37 5 ∧ V0 37 5 ≤ 16) : ∀ (k n : Nat) (V : VV) (p : Int), V0 37 5 - p ≤ (k : Int) → k < n → 0 ≤ p → p ≤ V0 37 5 → (∀ i, i ≠ 42 → V i = V0 i) → (∀ i : Nat, V 42 i = if (i : Int) < p then ciF (V0 42 i) (V0 43 i) t else V0 42 i) → Sm (f_Haulage_comeIn_1 n V t p) (fun W => (∀ i, i ≠ 42 → W i = V0 i) ∧ ∀ i : Nat, (i : Int) < V0 37 5 → W 42 i = ciF (V0 42 i) (V0 43 i) t) := by
  have fin : ∀ (V : VV) (p : Int), p ≤ V0 37 5 → ¬ p < V0 37 5 → (∀ i, i ≠ 42 → V i = V0 i) → (∀ i : Nat, V 42 i = if (i : Int) < p then ciF (V0 42 i) (V0 43 i) t else V0 42 i) → Sm (some V) (fun W => (∀ i, i ≠ 42 → W i = V0 i) ∧ ∀ i : Nat, (i : Int) < V0 37 5 → W 42 i = ciF (V0 42 i) (V0 43 i) t) := by
    intro V p h1 h2 b q
    exact Sm.ok ⟨b, fun i hi => by rw [q i, if_pos (by omega)]⟩
  intro k
  induction k with
  | zero =>
    intro n V p e1 e2 e3 e4 b q
    cases n with
    | zero => omega
    | succ n =>
      show Sm (if p < V 37 5 then _ else some V) _
      rw [b 37 (by omega)]
      exact Sm.neg (by omega) (fin V p e4 (by omega) b q)
  | succ k ih =>
    intro n V p e1 e2 e3 e4 b q
    cases n with
    | zero => omega
    | succ n =>
      show Sm (if p < V 37 5 then if (atV V 43 16 p) = t then if (atV V 42 16 p) = 1 then lt_ (setV V 42 16 p 2) (fun q6 => f_Haulage_comeIn_13 (f_Haulage_comeIn_1 n) q6 t p) else f_Haulage_comeIn_8 (f_Haulage_comeIn_1 n) V t p else f_Haulage_comeIn_8 (f_Haulage_comeIn_1 n) V t p else some V) _
      rw [b 37 (by omega)]
      refine Sm.ite (fun g => ?_) (fun g => fin V p e4 g b q)
      obtain ⟨pn, rfl⟩ : ∃ pn : Nat, p = (pn : Int) := ⟨p.toNat, by omega⟩
      have e42 := q pn
      rw [if_neg (by omega)] at e42
      have a43 : atV V 43 16 (pn : Int) = V0 43 pn := by rw [atV_in (by omega) (by omega), show ((pn : Int)).toNat = pn by omega, b 43 (by omega)]
      have a42 : atV V 42 16 (pn : Int) = V0 42 pn := by rw [atV_in (by omega) (by omega), show ((pn : Int)).toNat = pn by omega, e42]
      have nxt : ∀ (W : VV), (∀ i, i ≠ 42 → W i = V0 i) → (∀ i : Nat, i ≠ pn → W 42 i = V 42 i) → W 42 pn = ciF (V0 42 pn) (V0 43 pn) t → Sm (f_Haulage_comeIn_13 (f_Haulage_comeIn_1 n) W t (pn : Int)) (fun W => (∀ i, i ≠ 42 → W i = V0 i) ∧ ∀ i : Nat, (i : Int) < V0 37 5 → W 42 i = ciF (V0 42 i) (V0 43 i) t) := by
        intro W w1 w2 w3
        show Sm (f_Haulage_comeIn_1 n W t (w32 ((pn : Int) + 1))) _
        rw [w32_id (by omega) (by omega)]
        refine ih n _ _ (by omega) (by omega) (by omega) (by omega) w1 (fun i => ?_)
        by_cases hi : i = pn
        · subst hi; rw [if_pos (by omega)]; exact w3
        · rw [w2 i hi, q i]
          by_cases h2 : (i : Int) < pn
          · rw [if_pos h2, if_pos (by omega)]
          · rw [if_neg h2, if_neg (by omega)]
      have st8 : ¬ (V0 43 pn = t ∧ V0 42 pn = 1) → Sm (f_Haulage_comeIn_8 (f_Haulage_comeIn_1 n) V t (pn : Int)) (fun W => (∀ i, i ≠ 42 → W i = V0 i) ∧ ∀ i : Nat, (i : Int) < V0 37 5 → W 42 i = ciF (V0 42 i) (V0 43 i) t) := by
        intro hn
        show Sm (if (atV V 43 16 (pn : Int)) = t then if (atV V 42 16 (pn : Int)) = 4 then lt_ (setV V 42 16 (pn : Int) 5) (fun q5 => f_Haulage_comeIn_13 (f_Haulage_comeIn_1 n) q5 t (pn : Int)) else f_Haulage_comeIn_13 (f_Haulage_comeIn_1 n) V t (pn : Int) else f_Haulage_comeIn_13 (f_Haulage_comeIn_1 n) V t (pn : Int)) _
        rw [a43, a42, setV_in (by omega) (by omega), show ((pn : Int)).toNat = pn by omega]
        refine Sm.ite (fun z => Sm.ite (fun y => Sm.lt0 (nxt _ (fun i hi => by rw [up_na _ _ _ hi]; exact b i hi) (fun i hi => up_nf _ _ hi) ?_)) (fun y => nxt V b (fun _ _ => rfl) ?_)) (fun z => nxt V b (fun _ _ => rfl) ?_)
        · rw [up_eq]; unfold ciF; rw [if_pos z, if_neg (by omega), if_pos y]
        · rw [e42]; unfold ciF; rw [if_pos z, if_neg (fun x => hn ⟨z, x⟩), if_neg y]
        · rw [e42]; unfold ciF; rw [if_neg z]
      rw [a43, a42, setV_in (by omega) (by omega), show ((pn : Int)).toNat = pn by omega]
      refine Sm.ite (fun z => Sm.ite (fun y => Sm.lt0 (nxt _ (fun i hi => by rw [up_na _ _ _ hi]; exact b i hi) (fun i hi => up_nf _ _ hi) ?_)) (fun y => st8 (fun x => y x.2))) (fun z => st8 (fun x => z x.1))
      rw [up_eq]; unfold ciF; rw [if_pos z, if_pos y]
theorem ciC {V0 : VV} {t : Int} (hN : 1 ≤ V0 37 5 ∧ V0 37 5 ≤ 16) : Sm (f_Haulage_comeIn V0 t) (fun W => (∀ i, i ≠ 42 → W i = V0 i) ∧ ∀ i : Nat, (i : Int) < V0 37 5 → W 42 i = ciF (V0 42 i) (V0 43 i) t) :=
  ciC1 hN 16 FU V0 0 (by omega) (by decide) (by omega) (by omega) (fun _ _ => rfl) (fun i => by rw [if_neg (by omega)])
/-- the lines: who came earlier stands ahead -/
def LnOK (N : Int) (c : Nat → Int) (U : VV) : Prop := (∀ k : Nat, (k : Int) < N → (U 86 k = 2 ∨ U 86 k = 5) → U 88 k < U 62 63) ∧ ∀ k k' : Nat, (k : Int) < N → (k' : Int) < N → (U 86 k = 2 ∨ U 86 k = 5) → (U 86 k' = 2 ∨ U 86 k' = 5) → (c k < c k' ∨ (c k = c k' ∧ k < k')) → U 88 k < U 88 k'
theorem ciM1 {U0 : VV} {t : Int} {c : Nat → Int} (ht : 0 ≤ t ∧ t ≤ 4319) (hN : 1 ≤ U0 62 22 ∧ U0 62 22 ≤ 16) (hl : 0 ≤ U0 62 63 ∧ U0 62 63 ≤ 16 * t) (h1 : ∀ k : Nat, (k : Int) < U0 62 22 → (U0 86 k = 1 ∨ U0 86 k = 4) → c k = U0 87 k ∧ t ≤ c k) (h2 : ∀ k : Nat, (k : Int) < U0 62 22 → (U0 86 k = 2 ∨ U0 86 k = 5) → c k < t) : ∀ (k n : Nat) (U : VV) (p : Int), U0 62 22 - p ≤ (k : Int) → k < n → 0 ≤ p → p ≤ U0 62 22 → (∀ i, i ≠ 86 → i ≠ 88 → i ≠ 62 → U i = U0 i) → (∀ i, i ≠ 63 → U 62 i = U0 62 i) → (∀ i : Nat, U 86 i = if (i : Int) < p then ciF (U0 86 i) (c i) t else U0 86 i) → LnOK (U0 62 22) c U → (U0 62 63 ≤ U 62 63 ∧ U 62 63 ≤ U0 62 63 + p) → Sm (f_Mo_comeIn_1 n U t p) (fun U => (∀ i, i ≠ 86 → i ≠ 88 → i ≠ 62 → U i = U0 i) ∧ (∀ i, i ≠ 63 → U 62 i = U0 62 i) ∧ (∀ i : Nat, (i : Int) < U0 62 22 → U 86 i = ciF (U0 86 i) (c i) t) ∧ LnOK (U0 62 22) c U ∧ 0 ≤ U 62 63 ∧ U 62 63 ≤ 16 * (t + 1)) := by
  have fin : ∀ (U : VV) (p : Int), p ≤ U0 62 22 → ¬ p < U0 62 22 → (∀ i, i ≠ 86 → i ≠ 88 → i ≠ 62 → U i = U0 i) → (∀ i, i ≠ 63 → U 62 i = U0 62 i) → (∀ i : Nat, U 86 i = if (i : Int) < p then ciF (U0 86 i) (c i) t else U0 86 i) → LnOK (U0 62 22) c U → (U0 62 63 ≤ U 62 63 ∧ U 62 63 ≤ U0 62 63 + p) → Sm (some U) (fun U => (∀ i, i ≠ 86 → i ≠ 88 → i ≠ 62 → U i = U0 i) ∧ (∀ i, i ≠ 63 → U 62 i = U0 62 i) ∧ (∀ i : Nat, (i : Int) < U0 62 22 → U 86 i = ciF (U0 86 i) (c i) t) ∧ LnOK (U0 62 22) c U ∧ 0 ≤ U 62 63 ∧ U 62 63 ≤ 16 * (t + 1)) := by
    intro U p e1 e2 b b2 q l z
    exact Sm.ok ⟨b, b2, fun i hi => by rw [q i, if_pos (by omega)], l, by omega, by omega⟩
  intro k
  induction k with
  | zero =>
    intro n U p e1 e2 e3 e4 b b2 q l z
    cases n with
    | zero => omega
    | succ n =>
      show Sm (if p < U 62 22 then _ else some U) _
      rw [b2 22 (by omega)]
      exact Sm.neg (by omega) (fin U p e4 (by omega) b b2 q l z)
  | succ k ih =>
    intro n U p e1 e2 e3 e4 b b2 q l z
    cases n with
    | zero => omega
    | succ n =>
      show Sm (if p < U 62 22 then if 0 ≤ p ∧ p < (16 : Int) then if (U 86 p.toNat) = 1 then f_Mo_comeIn_6 (f_Mo_comeIn_1 n) U t p else if 0 ≤ p ∧ p < (16 : Int) then if (U 86 p.toNat) = 4 then f_Mo_comeIn_6 (f_Mo_comeIn_1 n) U t p else f_Mo_comeIn_16 (f_Mo_comeIn_1 n) U t p else none else none else some U) _
      rw [b2 22 (by omega)]
      refine Sm.ite (fun g => ?_) (fun g => fin U p e4 g b b2 q l z)
      obtain ⟨pn, rfl⟩ : ∃ pn : Nat, p = (pn : Int) := ⟨p.toNat, by omega⟩
      rw [show ((pn : Int)).toNat = pn by omega]
      have e86 := q pn
      rw [if_neg (by omega)] at e86
      have q2 : ∀ (W : VV), (∀ i : Nat, i ≠ pn → W 86 i = U 86 i) → W 86 pn = ciF (U0 86 pn) (c pn) t → ∀ i : Nat, W 86 i = if (i : Int) < (pn : Int) + 1 then ciF (U0 86 i) (c i) t else U0 86 i := by
        intro W w2 w3 i
        by_cases hi : i = pn
        · subst hi; rw [if_pos (by omega)]; exact w3
        · rw [w2 i hi, q i]
          by_cases h2 : (i : Int) < pn
          · rw [if_pos h2, if_pos (by omega)]
          · rw [if_neg h2, if_neg (by omega)]
      have stay : U0 86 pn = ciF (U0 86 pn) (c pn) t → Sm (f_Mo_comeIn_16 (f_Mo_comeIn_1 n) U t (pn : Int)) (fun U => (∀ i, i ≠ 86 → i ≠ 88 → i ≠ 62 → U i = U0 i) ∧ (∀ i, i ≠ 63 → U 62 i = U0 62 i) ∧ (∀ i : Nat, (i : Int) < U0 62 22 → U 86 i = ciF (U0 86 i) (c i) t) ∧ LnOK (U0 62 22) c U ∧ 0 ≤ U 62 63 ∧ U 62 63 ≤ 16 * (t + 1)) := by
        intro hs
        show Sm (f_Mo_comeIn_1 n U t (w32 ((pn : Int) + 1))) _
        rw [w32_id (by omega) (by omega)]
        exact ih n U _ (by omega) (by omega) (by omega) (by omega) b b2 (q2 U (fun _ _ => rfl) (e86.trans hs)) l (by omega)
      have come : (U0 86 pn = 1 ∨ U0 86 pn = 4) → Sm (f_Mo_comeIn_6 (f_Mo_comeIn_1 n) U t (pn : Int)) (fun U => (∀ i, i ≠ 86 → i ≠ 88 → i ≠ 62 → U i = U0 i) ∧ (∀ i, i ≠ 63 → U 62 i = U0 62 i) ∧ (∀ i : Nat, (i : Int) < U0 62 22 → U 86 i = ciF (U0 86 i) (c i) t) ∧ LnOK (U0 62 22) c U ∧ 0 ≤ U 62 63 ∧ U 62 63 ≤ 16 * (t + 1)) := by
        intro hs
        obtain ⟨x1, x2⟩ := h1 pn g hs
        show Sm (if 0 ≤ (pn : Int) ∧ (pn : Int) < (16 : Int) then if (U 87 ((pn : Int)).toNat) = t then if 0 ≤ (pn : Int) ∧ (pn : Int) < (16 : Int) then if 0 ≤ (pn : Int) ∧ (pn : Int) < (16 : Int) then if 0 ≤ (pn : Int) ∧ (pn : Int) < (16 : Int) then f_Mo_comeIn_16 (f_Mo_comeIn_1 n) (up (up (up U 86 ((pn : Int)).toNat (if (U 86 ((pn : Int)).toNat) = 1 then 2 else 5 : Int)) 88 ((pn : Int)).toNat (U 62 63)) 62 63 (w32 ((U 62 63) + 1))) t (pn : Int) else none else none else none else f_Mo_comeIn_16 (f_Mo_comeIn_1 n) U t (pn : Int) else none) _
        rw [show ((pn : Int)).toNat = pn by omega, b 87 (by omega) (by omega) (by omega), ← x1, e86]
        refine Sm.pos (by omega) (Sm.ite (fun y => Sm.pos (by omega) (Sm.pos (by omega) (Sm.pos (by omega) ?_))) (fun y => stay ?_))
        · show Sm (f_Mo_comeIn_1 n _ t (w32 ((pn : Int) + 1))) _
          rw [w32_id (by omega) (by omega), w32_id (by omega) (by omega)]
          have n86 : ∀ i : Nat, i ≠ pn → up (up (up U 86 pn (if U0 86 pn = 1 then 2 else 5 : Int)) 88 pn (U 62 63)) 62 63 (U 62 63 + 1) 86 i = U 86 i := by
            intro i hi
            rw [up_na _ _ _ (by omega), up_na _ _ _ (by omega), up_nf _ _ hi]
          have p86 : up (up (up U 86 pn (if U0 86 pn = 1 then 2 else 5 : Int)) 88 pn (U 62 63)) 62 63 (U 62 63 + 1) 86 pn = (if U0 86 pn = 1 then 2 else 5 : Int) := by
            rw [up_na _ _ _ (by omega), up_na _ _ _ (by omega), up_eq]
          have n88 : ∀ i : Nat, i ≠ pn → up (up (up U 86 pn (if U0 86 pn = 1 then 2 else 5 : Int)) 88 pn (U 62 63)) 62 63 (U 62 63 + 1) 88 i = U 88 i := by
            intro i hi
            rw [up_na _ _ _ (by omega), up_nf _ _ hi, up_na _ _ _ (by omega)]
          have p88 : up (up (up U 86 pn (if U0 86 pn = 1 then 2 else 5 : Int)) 88 pn (U 62 63)) 62 63 (U 62 63 + 1) 88 pn = U 62 63 := by
            rw [up_na _ _ _ (by omega), up_eq]
          have p62 : up (up (up U 86 pn (if U0 86 pn = 1 then 2 else 5 : Int)) 88 pn (U 62 63)) 62 63 (U 62 63 + 1) 62 63 = U 62 63 + 1 := up_eq _ _ _ _
          -- those that stand have come by now
          have old : ∀ i : Nat, (i : Int) < U0 62 22 → (U 86 i = 2 ∨ U 86 i = 5) → c i < t ∨ (c i = t ∧ i < pn) := by
            intro i hi hs2
            rw [q i] at hs2
            by_cases h3 : (i : Int) < pn
            · rw [if_pos h3] at hs2
              unfold ciF at hs2
              by_cases h4 : c i = t
              · exact Or.inr ⟨h4, by omega⟩
              · rw [if_neg h4] at hs2
                exact Or.inl (h2 i hi hs2)
            · rw [if_neg h3] at hs2
              exact Or.inl (h2 i hi hs2)
          obtain ⟨l1, l2⟩ := l
          refine ih n _ _ (by omega) (by omega) (by omega) (by omega) (fun i x y w => by rw [up_na _ _ _ w, up_na _ _ _ y, up_na _ _ _ x]; exact b i x y w) (fun i hi => by rw [up_nf _ _ hi, up_na _ _ _ (by omega), up_na _ _ _ (by omega)]; exact b2 i hi) (q2 _ n86 ?_) ⟨?_, ?_⟩ (by rw [p62]; omega)
          · rw [p86]; unfold ciF; rw [if_pos y]
            rcases hs with hs | hs
            · rw [if_pos hs, if_pos hs]
            · rw [if_neg (by omega), if_neg (by omega), if_pos hs]
          · intro i hi hs2
            rw [p62]
            by_cases ei : i = pn
            · subst ei; rw [p88]; omega
            · rw [n86 i ei] at hs2
              rw [n88 i ei]
              have := l1 i hi hs2
              omega
          · intro i i' hi hi' hs2 hs3 hc
            by_cases ei : i = pn
            · subst ei
              by_cases ei' : i' = i
              · subst ei'; omega
              · rw [n86 i' ei'] at hs3
                have := old i' hi' hs3
                omega
            · rw [n86 i ei] at hs2
              rw [n88 i ei]
              by_cases ei' : i' = pn
              · subst ei'
                rw [p88]
                exact l1 i hi hs2
              · rw [n86 i' ei'] at hs3
                rw [n88 i' ei']
                exact l2 i i' hi hi' hs2 hs3 hc
        · unfold ciF; rw [if_neg y]
      rw [e86]
      refine Sm.pos (by omega) (Sm.ite (fun y => come (Or.inl y)) (fun y => Sm.pos (by omega) (Sm.ite (fun x => come (Or.inr x)) (fun x => stay ?_))))
      unfold ciF
      rw [if_neg y, if_neg x]
      split <;> rfl
theorem ciM {U0 : VV} {t : Int} {c : Nat → Int} (ht : 0 ≤ t ∧ t ≤ 4319) (hN : 1 ≤ U0 62 22 ∧ U0 62 22 ≤ 16) (hl : 0 ≤ U0 62 63 ∧ U0 62 63 ≤ 16 * t) (h1 : ∀ k : Nat, (k : Int) < U0 62 22 → (U0 86 k = 1 ∨ U0 86 k = 4) → c k = U0 87 k ∧ t ≤ c k) (h2 : ∀ k : Nat, (k : Int) < U0 62 22 → (U0 86 k = 2 ∨ U0 86 k = 5) → c k < t) (l : LnOK (U0 62 22) c U0) : Sm (f_Mo_comeIn U0 t) (fun U => (∀ i, i ≠ 86 → i ≠ 88 → i ≠ 62 → U i = U0 i) ∧ (∀ i, i ≠ 63 → U 62 i = U0 62 i) ∧ (∀ i : Nat, (i : Int) < U0 62 22 → U 86 i = ciF (U0 86 i) (c i) t) ∧ LnOK (U0 62 22) c U ∧ 0 ≤ U 62 63 ∧ U 62 63 ≤ 16 * (t + 1)) :=
  ciM1 ht hN hl h1 h2 16 FU U0 0 (by omega) (by decide) (by omega) (by omega) (fun _ _ _ _ => rfl) (fun _ _ => rfl) (fun i => by rw [if_neg (by omega)]) l (by omega)
