/-! two runs beside each other -/
def Two {α β : Type} (a : Option α) (b : Option β) (Q : α → β → Prop) : Prop := ∃ x y, a = some x ∧ b = some y ∧ Q x y
theorem Two.ok {α β : Type} {x : α} {y : β} {Q : α → β → Prop} (h : Q x y) : Two (some x) (some y) Q := ⟨x, y, rfl, rfl, h⟩
theorem Two.imp {α β : Type} {a : Option α} {b : Option β} {P Q : α → β → Prop} (h : Two a b P) (k : ∀ x y, P x y → Q x y) : Two a b Q := by
  obtain ⟨x, y, e1, e2, p⟩ := h
  exact ⟨x, y, e1, e2, k x y p⟩
theorem Two.ofL {α β : Type} {a : Option α} {b : Option β} {Q : α → β → Prop} (h : Sm a (fun x => Sm b (fun y => Q x y))) : Two a b Q := by
  obtain ⟨x, e1, y, e2, p⟩ := h
  exact ⟨x, y, e1, e2, p⟩
theorem Two.ofR {α β : Type} {a : Option α} {b : Option β} {Q : α → β → Prop} (h : Sm b (fun y => Sm a (fun x => Q x y))) : Two a b Q := by
  obtain ⟨y, e2, x, e1, p⟩ := h
  exact ⟨x, y, e1, e2, p⟩
theorem Two.toR {α β : Type} {a : Option α} {b : Option β} {Q : α → β → Prop} (h : Two a b Q) : Sm b (fun y => Sm a (fun x => Q x y)) := by
  obtain ⟨x, y, e1, e2, p⟩ := h
  exact ⟨y, e2, x, e1, p⟩
theorem Two.toL {α β : Type} {a : Option α} {b : Option β} {Q : α → β → Prop} (h : Two a b Q) : Sm a (fun x => Sm b (fun y => Q x y)) := by
  obtain ⟨x, y, e1, e2, p⟩ := h
  exact ⟨x, e1, y, e2, p⟩
theorem Two.bindL {α β γ : Type} {a : Option γ} {f : γ → Option α} {b : Option β} {P : γ → Prop} {Q : α → β → Prop} (h : Sm a P) (k : ∀ x, P x → Two (f x) b Q) : Two (Option.bind a f) b Q := by
  obtain ⟨x, e, p⟩ := h
  rw [e]; exact k x p
theorem Two.bindR {α β γ : Type} {a : Option α} {g : γ → Option β} {b : Option γ} {P : γ → Prop} {Q : α → β → Prop} (h : Sm b P) (k : ∀ y, P y → Two a (g y) Q) : Two a (Option.bind b g) Q := by
  obtain ⟨x, e, p⟩ := h
  rw [e]; exact k x p
theorem Two.bind2 {α β γ δ : Type} {a : Option γ} {b : Option δ} {f : γ → Option α} {g : δ → Option β} {P : γ → δ → Prop} {Q : α → β → Prop} (h : Two a b P) (k : ∀ x y, P x y → Two (f x) (g y) Q) : Two (Option.bind a f) (Option.bind b g) Q := by
  obtain ⟨x, y, e1, e2, p⟩ := h
  rw [e1, e2]; exact k x y p
theorem Two.iteL {α β : Type} {c : Prop} [Decidable c] {t e : Option α} {b : Option β} {Q : α → β → Prop} (k1 : c → Two t b Q) (k2 : ¬ c → Two e b Q) : Two (if c then t else e) b Q := by
  by_cases h : c
  · rw [if_pos h]; exact k1 h
  · rw [if_neg h]; exact k2 h
theorem Two.iteR {α β : Type} {c : Prop} [Decidable c] {t e : Option β} {a : Option α} {Q : α → β → Prop} (k1 : c → Two a t Q) (k2 : ¬ c → Two a e Q) : Two a (if c then t else e) Q := by
  by_cases h : c
  · rw [if_pos h]; exact k1 h
  · rw [if_neg h]; exact k2 h
theorem Two.posL {α β : Type} {c : Prop} [Decidable c] {t e : Option α} {b : Option β} {Q : α → β → Prop} (h : c) (k1 : Two t b Q) : Two (if c then t else e) b Q := by
  rw [if_pos h]; exact k1
theorem Two.negL {α β : Type} {c : Prop} [Decidable c] {t e : Option α} {b : Option β} {Q : α → β → Prop} (h : ¬ c) (k1 : Two e b Q) : Two (if c then t else e) b Q := by
  rw [if_neg h]; exact k1
theorem Two.posR {α β : Type} {c : Prop} [Decidable c] {t e : Option β} {a : Option α} {Q : α → β → Prop} (h : c) (k1 : Two a t Q) : Two a (if c then t else e) Q := by
  rw [if_pos h]; exact k1
theorem Two.negR {α β : Type} {c : Prop} [Decidable c] {t e : Option β} {a : Option α} {Q : α → β → Prop} (h : ¬ c) (k1 : Two a e Q) : Two a (if c then t else e) Q := by
  rw [if_neg h]; exact k1
theorem Two.ltL {α β γ : Type} {a : γ} {f : γ → Option α} {b : Option β} {Q : α → β → Prop} (k : Two (f a) b Q) : Two (lt_ a f) b Q := k
theorem Two.eqR {α β : Type} {a : Option α} {b b2 : Option β} {Q : α → β → Prop} (e : b = b2) (h : Two a b2 Q) : Two a b Q := e ▸ h
theorem Two.eqL {α β : Type} {a a2 : Option α} {b : Option β} {Q : α → β → Prop} (e : a = a2) (h : Two a2 b Q) : Two a b Q := e ▸ h
/-! (1) the silos -/
def mixF (si x ra s : Int) : Int := if s = 0 then min si (x + ra) else x
theorem mixF_bd {si x ra s : Int} (h0 : 0 ≤ x ∧ x ≤ 200) (h1 : 10 ≤ si ∧ si ≤ 200) (h2 : 1 ≤ ra ∧ ra ≤ 10) : 0 ≤ mixF si x ra s ∧ mixF si x ra s ≤ 200 := by
  unfold mixF; split <;> omega
theorem mxC {V0 : VV} {w t : Int} {s : Nat → Int} (hp : 0 ≤ V0 10 4 ∧ V0 10 4 ≤ 3) (hw : V0 37 4 = w) (hs : ∀ V, HC V0 V → ∀ p : Nat, (p : Int) < V0 10 4 → f_Hours_isShut V w p t = s p) (hb : ∀ p : Nat, (p : Int) < V0 10 4 → (1 ≤ V0 12 p ∧ V0 12 p ≤ 10) ∧ (10 ≤ V0 13 p ∧ V0 13 p ≤ 200) ∧ 0 ≤ V0 38 p ∧ V0 38 p ≤ 200) : ∀ (k n : Nat) (V : VV) (p : Int), V0 10 4 - p ≤ (k : Int) → k < n → 0 ≤ p → p ≤ V0 10 4 → (∀ i, i ≠ 38 → V i = V0 i) → (∀ i : Nat, V 38 i = if (i : Int) < p then mixF (V0 13 i) (V0 38 i) (V0 12 i) (s i) else V0 38 i) → Sm (f_Haulage_makeMix_1 n V t p) (fun W => (∀ i, i ≠ 38 → W i = V0 i) ∧ ∀ i : Nat, (i : Int) < V0 10 4 → W 38 i = mixF (V0 13 i) (V0 38 i) (V0 12 i) (s i)) := by
  have fin : ∀ (V : VV) (p : Int), p ≤ V0 10 4 → ¬ p < V0 10 4 → (∀ i, i ≠ 38 → V i = V0 i) → (∀ i : Nat, V 38 i = if (i : Int) < p then mixF (V0 13 i) (V0 38 i) (V0 12 i) (s i) else V0 38 i) → Sm (some V) (fun W => (∀ i, i ≠ 38 → W i = V0 i) ∧ ∀ i : Nat, (i : Int) < V0 10 4 → W 38 i = mixF (V0 13 i) (V0 38 i) (V0 12 i) (s i)) := by
    intro V p h1 h2 b q
    exact Sm.ok ⟨b, fun i hi => by rw [q i, if_pos (by omega)]⟩
  intro k
  induction k with
  | zero =>
    intro n V p e1 e2 e3 e4 b q
    cases n with
    | zero => omega
    | succ n =>
      show Sm (if p < V 10 4 then _ else some V) _
      rw [b 10 (by omega)]
      exact Sm.neg (by omega) (fin V p e4 (by omega) b q)
  | succ k ih =>
    intro n V p e1 e2 e3 e4 b q
    cases n with
    | zero => omega
    | succ n =>
      show Sm (if p < V 10 4 then if (f_Hours_isShut V (V 37 4) p t) = 0 then lt_ (setV V 38 3 p (min (atV V 13 3 p) (w32 ((atV V 38 3 p) + (atV V 12 3 p))))) (fun q7 => f_Haulage_makeMix_9 (f_Haulage_makeMix_1 n) q7 t p) else f_Haulage_makeMix_9 (f_Haulage_makeMix_1 n) V t p else some V) _
      rw [b 10 (by omega)]
      refine Sm.ite (fun g => ?_) (fun g => fin V p e4 g b q)
      rw [b 37 (by omega), hw]
      obtain ⟨pn, rfl⟩ : ∃ pn : Nat, p = (pn : Int) := ⟨p.toNat, by omega⟩
      rw [hs V (fun i h1 h2 => b i (by omega)) pn g]
      obtain ⟨b1, b2, b3⟩ := hb pn g
      have eq38 := q pn
      rw [if_neg (by omega)] at eq38
      refine Sm.ite (fun z => Sm.lt0 ?_) (fun z => ?_)
      · show Sm (f_Haulage_makeMix_1 n _ t (w32 ((pn : Int) + 1))) _
        rw [atV_in (by omega) (by omega), atV_in (by omega) (by omega), atV_in (by omega) (by omega), show ((pn : Int)).toNat = pn by omega, b 13 (by omega), b 12 (by omega), eq38, w32_id (x := V0 38 pn + V0 12 pn) (by omega) (by omega), w32_id (by omega) (by omega), setV_in (by omega) (by omega), show ((pn : Int)).toNat = pn by omega]
        refine ih n _ _ (by omega) (by omega) (by omega) (by omega) (fun i hi => by rw [up_na _ _ _ hi]; exact b i hi) (fun i => ?_)
        by_cases hi : i = pn
        · subst hi
          rw [up_eq, if_pos (by omega)]
          unfold mixF
          rw [if_pos z]
        · rw [up_nf _ _ hi, q i]
          by_cases h2 : (i : Int) < pn
          · rw [if_pos h2, if_pos (by omega)]
          · rw [if_neg h2, if_neg (by omega)]
      · show Sm (f_Haulage_makeMix_1 n _ t (w32 ((pn : Int) + 1))) _
        rw [w32_id (by omega) (by omega)]
        refine ih n _ _ (by omega) (by omega) (by omega) (by omega) b (fun i => ?_)
        rw [q i]
        by_cases h2 : (i : Int) < pn
        · rw [if_pos h2, if_pos (by omega)]
        · by_cases h3 : i = pn
          · subst h3
            rw [if_neg h2, if_pos (by omega)]
            unfold mixF
            rw [if_neg z]
          · rw [if_neg h2, if_neg (by omega)]
theorem mixC {V0 : VV} {w t : Int} {s : Nat → Int} (hp : 0 ≤ V0 10 4 ∧ V0 10 4 ≤ 3) (hw : V0 37 4 = w) (hs : ∀ V, HC V0 V → ∀ p : Nat, (p : Int) < V0 10 4 → f_Hours_isShut V w p t = s p) (hb : ∀ p : Nat, (p : Int) < V0 10 4 → (1 ≤ V0 12 p ∧ V0 12 p ≤ 10) ∧ (10 ≤ V0 13 p ∧ V0 13 p ≤ 200) ∧ 0 ≤ V0 38 p ∧ V0 38 p ≤ 200) : Sm (f_Haulage_makeMix V0 t) (fun W => (∀ i, i ≠ 38 → W i = V0 i) ∧ ∀ i : Nat, (i : Int) < V0 10 4 → W 38 i = mixF (V0 13 i) (V0 38 i) (V0 12 i) (s i)) :=
  mxC hp hw hs hb 3 FU V0 0 (by omega) (by decide) (by omega) (by omega) (fun _ _ => rfl) (fun i => by rw [if_neg (by omega)])
theorem mixM {U0 : VV} {w t : Int} {s : Nat → Int} {k7 : VV → Int → Int → Option (VV × Int)} {Q : VV × Int → Prop} (hp : 0 ≤ U0 62 17 ∧ U0 62 17 ≤ 3) (hs : ∀ U, HM U0 U → ∀ p : Nat, (p : Int) < U0 62 17 → f_Mo_isShut U w p t = some (s p)) (hb : ∀ p : Nat, (p : Int) < U0 62 17 → (1 ≤ U0 72 p ∧ U0 72 p ≤ 10) ∧ (10 ≤ U0 73 p ∧ U0 73 p ≤ 200) ∧ 0 ≤ U0 91 p ∧ U0 91 p ≤ 200) (K : ∀ U, (∀ i, i ≠ 91 → U i = U0 i) → (∀ i : Nat, (i : Int) < U0 62 17 → U 91 i = mixF (U0 73 i) (U0 91 i) (U0 72 i) (s i)) → Sm (Option.bind (f_Mo_comeIn U t) (fun q2 => Option.bind (f_Mo_plantsGo q2 t) (fun q3 => f_Mo_goes_28 k7 FU q3 w t 0))) Q) : ∀ (k n : Nat) (U : VV) (p : Int), U0 62 17 - p ≤ (k : Int) → k < n → 0 ≤ p → p ≤ U0 62 17 → (∀ i, i ≠ 91 → U i = U0 i) → (∀ i : Nat, U 91 i = if (i : Int) < p then mixF (U0 73 i) (U0 91 i) (U0 72 i) (s i) else U0 91 i) → Sm (f_Mo_goes_10 k7 n U w t p) Q := by
  have fin : ∀ (U : VV) (p : Int), p ≤ U0 62 17 → ¬ p < U0 62 17 → (∀ i, i ≠ 91 → U i = U0 i) → (∀ i : Nat, U 91 i = if (i : Int) < p then mixF (U0 73 i) (U0 91 i) (U0 72 i) (s i) else U0 91 i) → Sm (Option.bind (f_Mo_comeIn U t) (fun q2 => Option.bind (f_Mo_plantsGo q2 t) (fun q3 => f_Mo_goes_28 k7 FU q3 w t 0))) Q := by
    intro U p h1 h2 b q
    exact K U b (fun i hi => by rw [q i, if_pos (by omega)])
  intro k
  induction k with
  | zero =>
    intro n U p e1 e2 e3 e4 b q
    cases n with
    | zero => omega
    | succ n =>
      show Sm (if p < U 62 17 then _ else _) _
      rw [b 62 (by omega)]
      exact Sm.neg (by omega) (fin U p e4 (by omega) b q)
  | succ k ih =>
    intro n U p e1 e2 e3 e4 b q
    cases n with
    | zero => omega
    | succ n =>
      show Sm (if p < U 62 17 then Option.bind (f_Mo_isShut U w p t) (fun q4 => if q4 = 0 then if 0 ≤ p ∧ p < (3 : Int) then if 0 ≤ p ∧ p < (3 : Int) then if 0 ≤ p ∧ p < (3 : Int) then if (U 73 p.toNat) < (w32 ((U 91 p.toNat) + (U 72 p.toNat))) then if 0 ≤ p ∧ p < (3 : Int) then f_Mo_goes_23 k7 (f_Mo_goes_10 k7 n) U w t p p (U 73 p.toNat) else none else if 0 ≤ p ∧ p < (3 : Int) then if 0 ≤ p ∧ p < (3 : Int) then f_Mo_goes_23 k7 (f_Mo_goes_10 k7 n) U w t p p (w32 ((U 91 p.toNat) + (U 72 p.toNat))) else none else none else none else none else none else f_Mo_goes_24 k7 (f_Mo_goes_10 k7 n) U w t p) else _) _
      rw [b 62 (by omega)]
      refine Sm.ite (fun g => ?_) (fun g => fin U p e4 g b q)
      obtain ⟨pn, rfl⟩ : ∃ pn : Nat, p = (pn : Int) := ⟨p.toNat, by omega⟩
      have hm : HM U0 U := ⟨by rw [b 62 (by omega)], fun i h1 h2 => b i (by omega)⟩
      rw [hs U hm pn g]
      obtain ⟨b1, b2, b3⟩ := hb pn g
      have eq91 := q pn
      rw [if_neg (by omega)] at eq91
      have step : ∀ x : Int, x = mixF (U0 73 pn) (U0 91 pn) (U0 72 pn) (s pn) → Sm (f_Mo_goes_23 k7 (f_Mo_goes_10 k7 n) U w t (pn : Int) (pn : Int) x) Q := by
        intro x hx
        show Sm (if 0 ≤ (pn : Int) ∧ (pn : Int) < (3 : Int) then f_Mo_goes_10 k7 n (up U 91 ((pn : Int)).toNat x) w t (w32 ((pn : Int) + 1)) else none) Q
        refine Sm.pos (by omega) ?_
        rw [w32_id (by omega) (by omega), show ((pn : Int)).toNat = pn by omega]
        refine ih n _ _ (by omega) (by omega) (by omega) (by omega) (fun i hi => by rw [up_na _ _ _ hi]; exact b i hi) (fun i => ?_)
        by_cases hi : i = pn
        · subst hi
          rw [up_eq, if_pos (by omega)]
          exact hx
        · rw [up_nf _ _ hi, q i]
          by_cases h2 : (i : Int) < pn
          · rw [if_pos h2, if_pos (by omega)]
          · rw [if_neg h2, if_neg (by omega)]
      show Sm (if s pn = 0 then _ else _) Q
      rw [show ((pn : Int)).toNat = pn by omega, b 73 (by omega), b 72 (by omega), eq91, w32_id (x := U0 91 pn + U0 72 pn) (by omega) (by omega)]
      refine Sm.ite (fun z => Sm.pos (by omega) (Sm.pos (by omega) (Sm.pos (by omega) (Sm.ite (fun y => Sm.pos (by omega) (step _ ?_)) (fun y => Sm.pos (by omega) (Sm.pos (by omega) (step _ ?_))))))) (fun z => ?_)
      · unfold mixF; rw [if_pos z]; omega
      · unfold mixF; rw [if_pos z]; omega
      · show Sm (f_Mo_goes_10 k7 n U w t (w32 ((pn : Int) + 1))) Q
        rw [w32_id (by omega) (by omega)]
        refine ih n _ _ (by omega) (by omega) (by omega) (by omega) b (fun i => ?_)
        rw [q i]
        by_cases h2 : (i : Int) < pn
        · rw [if_pos h2, if_pos (by omega)]
        · by_cases h3 : i = pn
          · subst h3
            rw [if_neg h2, if_pos (by omega)]
            unfold mixF
            rw [if_neg z]
          · rw [if_neg h2, if_neg (by omega)]
