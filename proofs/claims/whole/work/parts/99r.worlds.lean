/-! all worlds are marked -/
def M33 (V0 : VV) (n w i : Nat) (V : VV) : Prop := (∀ r, r ≠ 24 → V r = V0 r) ∧ (∀ x : Nat, ¬ (4320 * w ≤ x ∧ x < 4320 * w + 4320) → V 24 x = V0 24 x) ∧ ∀ t : Nat, t < 4320 → BITP (V 24 (4320 * w + t)) ((∀ j : Nat, j < i → ¬ RAIN V0 j w t) ∧ ((∀ j : Nat, j < n → ¬ OPC V0 j w) ∨ ∃ j : Nat, j < n ∧ OPC V0 j w ∧ cov V0 j t)) (SHT V0 n w 0 t) (SHT V0 n w 1 t) (SHT V0 n w 2 t)
theorem mw33 {V0 U : VV} {n w : Nat} (hr : HRW V0 U n) (hw : w < 3) : ∀ (k m i : Nat) (V : VV), n = i + k → k < m → M33 V0 n w i V → Sm (f_Hours_markWorld_33 m V (w : Int) (i : Int)) (M33 V0 n w n) := by
  obtain ⟨h1, h2, h3, h4⟩ := id hr
  intro k
  induction k with
  | zero =>
    intro m i V e e1 h
    cases m with
    | zero => omega
    | succ m =>
      have ei : i = n := by omega
      subst ei
      show Sm (if (i : Int) < (V 18 6) then _ else some V) _
      rw [h.1 18 (by omega), if_neg (by omega)]
      exact Sm.ok h
  | succ k ih =>
    intro m i V e e1 h
    cases m with
    | zero => omega
    | succ m =>
      obtain ⟨a1, a2, a3, a4, a5, a6, a7⟩ := h4 i (by omega)
      have at_ : ∀ r : Nat, r ≠ 24 → atV V r 40 (i : Int) = V0 r i := fun r hr => by rw [atV_in (by omega) (by omega), Int.toNat_natCast, h.1 r hr]
      have hc := holdsC (V := V) (w := w) (i := i) (by omega)
      have hV : hld V i w ↔ hld V0 i w := by unfold hld; rw [h.1 20 (by omega)]
      have nx : ∀ W, M33 V0 n w (i + 1) W → Sm (f_Hours_markWorld_39 (f_Hours_markWorld_33 m) W (w : Int) (i : Int)) (M33 V0 n w n) := fun W hW => by
        unfold f_Hours_markWorld_39
        rw [w32_id (x := (i : Int) + 1) (by omega) (by omega)]
        exact ih m (i + 1) W (by omega) (by omega) hW
      have all_s : ∀ t : Nat, (¬ RAIN V0 i w t) → ((∀ j : Nat, j < i → ¬ RAIN V0 j w t) ↔ ∀ j : Nat, j < i + 1 → ¬ RAIN V0 j w t) := fun t hn => ⟨fun x j hj => by
        by_cases ej : j = i
        · rw [ej]; exact hn
        · exact x j (by omega), fun x j hj => x j (by omega)⟩
      have skip : (∀ t : Nat, ¬ RAIN V0 i w t) → M33 V0 n w (i + 1) V := fun hn => ⟨h.1, h.2.1, fun t ht => (h.2.2 t ht).cg (by rw [all_s t (hn t)]) Iff.rfl Iff.rfl Iff.rfl⟩
      show Sm (if (i : Int) < (V 18 6) then if (atV V 19 40 (i : Int)) = 4 then if (f_Hours_holds V (i : Int) (w : Int)) = 0 then f_Hours_markWorld_39 (f_Hours_markWorld_33 m) V (w : Int) (i : Int) else Option.bind (f_Hours_wet V (w : Int) (i : Int)) (fun q6 => f_Hours_markWorld_39 (f_Hours_markWorld_33 m) q6 (w : Int) (i : Int)) else f_Hours_markWorld_39 (f_Hours_markWorld_33 m) V (w : Int) (i : Int) else some V) _
      rw [h.1 18 (by omega), if_pos (by omega), at_ 19 (by omega)]
      by_cases g : V0 19 i = 4
      · rw [if_pos g]
        by_cases g2 : hld V0 i w
        · rw [if_neg (fun y => hc.mp y (hV.mpr g2))]
          have b := (a7 (by omega)).2.2
          have m2 := wet2 (V := V) (w := w) (i := i) hw (by omega) (by rw [h.1 22 (by omega), h.1 23 (by omega)]; exact b)
          rw [h.1 22 (by omega), h.1 23 (by omega)] at m2
          refine Sm.bind m2 (fun W _ hW => nx W ⟨fun r hr => (hW.1 r hr).trans (h.1 r hr), fun x hx => ?_, fun t ht => ?_⟩)
          · rw [hW.2, if_neg (by omega)]; exact h.2.1 x hx
          · rw [hW.2]
            by_cases c : V0 22 i ≤ (t : Int) ∧ (t : Int) ≤ V0 23 i
            · rw [if_pos (by omega)]
              exact (h.2.2 t ht).clr.cg ⟨fun x => x.elim, fun x => x.1 i (by omega) ⟨⟨g, g2⟩, c⟩⟩ Iff.rfl Iff.rfl Iff.rfl
            · rw [if_neg (by omega)]
              exact (h.2.2 t ht).cg (by rw [all_s t (fun y => c y.2)]) Iff.rfl Iff.rfl Iff.rfl
        · rw [if_pos (hc.mpr (fun y => g2 (hV.mp y)))]
          exact nx V (skip (fun t y => g2 y.1.2))
      · rw [if_neg g]
        exact nx V (skip (fun t y => g y.1.1))
theorem mw10 {V0 U : VV} {n w : Nat} {acc : Int} (hr : HRW V0 U n) (hw : w < 3) (ha : acc = 0 ↔ ∀ j : Nat, j < n → ¬ OPC V0 j w) : ∀ (k m i : Nat) (V : VV), 4320 = i + k → k < m → (∀ r, r ≠ 24 → V r = V0 r) → (∀ x : Nat, ¬ (4320 * w ≤ x ∧ x < 4320 * w + 4320) → V 24 x = V0 24 x) → (∀ t : Nat, t < i → V 24 (4320 * w + t) = if acc = 0 then 1 else 0) → Sm (f_Hours_markWorld_10 m V (w : Int) acc (i : Int)) (M33 V0 n w n) := by
  intro k
  induction k with
  | zero =>
    intro m i V e e1 f1 f2 f3
    cases m with
    | zero => omega
    | succ m =>
      show Sm (if (i : Int) < 4320 then _ else f_Hours_markWorld_17 FU V (w : Int) 0) _
      rw [if_neg (by omega)]
      refine mw17 hr hw (fun V hV => mw33 hr hw n FU 0 V (by omega) (by have := hr.2.2.1; show n < 40000; omega) ⟨hV.1, hV.2.1, fun t ht => (hV.2.2 t ht).cg ⟨fun x => ⟨fun j hj => by omega, x⟩, fun x => x.2⟩ Iff.rfl Iff.rfl Iff.rfl⟩) n FU 0 V (by omega) (by have := hr.2.2.1; show n < 40000; omega) ⟨f1, f2, fun t ht => ?_⟩
      have no : ∀ P : Nat → Prop, ¬ ∃ j : Nat, j < 0 ∧ P j := fun P ⟨j, a, _⟩ => by omega
      rw [f3 t (by omega)]
      by_cases g : acc = 0
      · rw [if_pos g]
        exact ⟨1, 0, 0, 0, ⟨Or.inr rfl, Or.inl rfl, Or.inl rfl, Or.inl rfl⟩, rfl, ⟨fun _ => Or.inl (ha.mp g), fun _ => rfl⟩, ⟨fun x => by omega, fun x => absurd x (no _)⟩, ⟨fun x => by omega, fun x => absurd x (no _)⟩, ⟨fun x => by omega, fun x => absurd x (no _)⟩⟩
      · rw [if_neg g]
        exact ⟨0, 0, 0, 0, ⟨Or.inl rfl, Or.inl rfl, Or.inl rfl, Or.inl rfl⟩, rfl, ⟨fun x => by omega, fun x => x.elim (fun y => absurd (ha.mpr y) g) (fun y => absurd y (no _))⟩, ⟨fun x => by omega, fun x => absurd x (no _)⟩, ⟨fun x => by omega, fun x => absurd x (no _)⟩, ⟨fun x => by omega, fun x => absurd x (no _)⟩⟩
  | succ k ih =>
    intro m i V e e1 f1 f2 f3
    cases m with
    | zero => omega
    | succ m =>
      show Sm (if (i : Int) < 4320 then lt_ (setV V 24 12960 (w32 ((w32 ((w : Int) * 4320)) + (i : Int))) (if acc = 0 then 1 else 0 : Int)) (fun q3 => f_Hours_markWorld_10 m q3 (w : Int) acc (w32 ((i : Int) + 1))) else _) _
      rw [if_pos (by omega), w32_id (x := (w : Int) * 4320) (by omega) (by omega), w32_id (x := (w : Int) * 4320 + i) (by omega) (by omega), w32_id (x := (i : Int) + 1) (by omega) (by omega), setV_in (by omega) (by omega)]
      unfold lt_
      have ei : ((w : Int) * 4320 + (i : Int)).toNat = 4320 * w + i := by omega
      rw [ei]
      refine ih m (i + 1) _ (by omega) (by omega) (fun r hr => by rw [up_na _ _ _ hr]; exact f1 r hr) (fun x hx => ?_) (fun t ht => ?_)
      · rw [up_nf _ _ (by omega)]; exact f2 x hx
      · by_cases et : t = i
        · rw [et, up_eq]
        · rw [up_nf _ _ (by omega)]; exact f3 t (by omega)
theorem mw1 {V : VV} {U : VV} {n w : Nat} (hr : HRW V U n) (hw : w < 3) : ∀ (k m i : Nat) (acc : Int), n = i + k → k < m → (acc = 0 ∨ acc = 1) → (acc = 0 ↔ ∀ j : Nat, j < i → ¬ OPC V j w) → Sm (f_Hours_markWorld_1 m V (w : Int) acc (i : Int)) (M33 V n w n) := by
  obtain ⟨h1, h2, h3, h4⟩ := id hr
  intro k
  induction k with
  | zero =>
    intro m i acc e e1 b ha
    cases m with
    | zero => omega
    | succ m =>
      have ei : i = n := by omega
      subst ei
      show Sm (if (i : Int) < (V 18 6) then _ else f_Hours_markWorld_10 FU V (w : Int) acc 0) _
      rw [if_neg (by omega)]
      exact mw10 hr hw ha 4320 FU 0 V (by omega) (by decide) (fun _ _ => rfl) (fun _ _ => rfl) (fun t ht => by omega)
  | succ k ih =>
    intro m i acc e e1 b ha
    cases m with
    | zero => omega
    | succ m =>
      have hc := holdsC (V := V) (w := w) (i := i) (by omega)
      show Sm (if (i : Int) < (V 18 6) then f_Hours_markWorld_1 m V (w : Int) (iorI acc (if (atV V 19 40 (i : Int)) = 3 then (if (f_Hours_holds V (i : Int) (w : Int)) = 0 then 0 else 1 : Int) else 0 : Int)) (w32 ((i : Int) + 1)) else _) _
      rw [if_pos (by omega), atV_in (by omega) (by omega), Int.toNat_natCast, w32_id (x := (i : Int) + 1) (by omega) (by omega)]
      have o1 : iorI 0 0 = 0 ∧ iorI 0 1 = 1 ∧ iorI 1 0 = 1 ∧ iorI 1 1 = 1 := by decide
      by_cases g : OPC V i w
      · rw [if_pos g.1, if_neg (fun y => hc.mp y g.2)]
        have e2 : iorI acc 1 = 1 := by rcases b with rfl | rfl; exact o1.2.1; exact o1.2.2.2
        rw [e2]
        exact ih m (i + 1) 1 (by omega) (by omega) (Or.inr rfl) ⟨fun x => by omega, fun x => absurd g (x i (by omega))⟩
      · have e3 : (if V 19 i = 3 then (if (f_Hours_holds V (i : Int) (w : Int)) = 0 then 0 else 1 : Int) else 0 : Int) = 0 := by
          by_cases g1 : V 19 i = 3
          · rw [if_pos g1, if_pos (hc.mpr (fun y => g ⟨g1, y⟩))]
          · rw [if_neg g1]
        have e2 : iorI acc 0 = acc := by rcases b with rfl | rfl; exact o1.1; exact o1.2.2.1
        rw [e3, e2]
        refine ih m (i + 1) acc (by omega) (by omega) b (ha.trans ⟨fun x j hj => ?_, fun x j hj => x j (by omega)⟩)
        by_cases ej : j = i
        · rw [ej]; exact g
        · exact x j (by omega)
def WBIT (V : VV) (n w : Nat) : Prop := ∀ t : Nat, t < 4320 → BITP (V 24 (4320 * w + t)) (OPN V n w t) (SHT V n w 0 t) (SHT V n w 1 t) (SHT V n w 2 t)
theorem opn_fr {V W : VV} {n : Nat} {w t : Int} (h : ∀ r, 19 ≤ r → r ≤ 23 → W r = V r) : (OPN W n w t ↔ OPN V n w t) ∧ ∀ p : Int, SHT W n w p t ↔ SHT V n w p t := by
  unfold OPN RAIN OPC SHT SHC cov hld
  rw [h 19 (by omega) (by omega), h 20 (by omega) (by omega), h 21 (by omega) (by omega), h 22 (by omega) (by omega), h 23 (by omega) (by omega)]
  exact ⟨Iff.rfl, fun _ => Iff.rfl⟩
theorem markW {V U : VV} {n w : Nat} (hr : HRW V U n) (hw : w < 3) : Sm (f_Hours_markWorld V (w : Int)) (fun W => (∀ r, r ≠ 24 → W r = V r) ∧ (∀ x : Nat, ¬ (4320 * w ≤ x ∧ x < 4320 * w + 4320) → W 24 x = V 24 x) ∧ WBIT W n w) := by
  refine (mw1 hr hw n FU 0 0 (by omega) (by have := hr.2.2.1; show n < 40000; omega) (Or.inl rfl) ⟨fun _ j hj => by omega, fun _ => rfl⟩).imp (fun W hW => ⟨hW.1, hW.2.1, fun t ht => ?_⟩)
  have e := opn_fr (V := V) (W := W) (n := n) (w := (w : Int)) (t := (t : Int)) (fun r a b => hW.1 r (by omega))
  exact (hW.2.2 t ht).cg e.1.symm (e.2 0).symm (e.2 1).symm (e.2 2).symm
theorem rd7 {V0 U : VV} {n : Nat} {N : Int} (hr : HRW V0 U n) (hN : V0 18 7 = N) (hb : N ≤ 3) : ∀ (k m w : Nat) (V : VV), N - (w : Int) ≤ (k : Int) → k < m → (w : Int) ≤ N → (∀ r, r ≠ 24 → V r = V0 r) → (∀ x : Nat, x < w → WBIT V n x) → Sm (f_Hours_read_7 m V (w : Int)) (fun q => q.2 = 1 ∧ (∀ r, r ≠ 24 → q.1 r = V0 r) ∧ ∀ x : Nat, (x : Int) < N → WBIT q.1 n x) := by
  intro k
  induction k with
  | zero =>
    intro m w V e e1 e2 f1 f2
    cases m with
    | zero => omega
    | succ m =>
      show Sm (if (w : Int) < (V 18 7) then _ else some (V, (1 : Int))) _
      rw [f1 18 (by omega), if_neg (by omega)]
      exact Sm.ok ⟨rfl, f1, fun x hx => f2 x (by omega)⟩
  | succ k ih =>
    intro m w V e e1 e2 f1 f2
    cases m with
    | zero => omega
    | succ m =>
      show Sm (if (w : Int) < (V 18 7) then Option.bind (f_Hours_markWorld V (w : Int)) (fun q2 => f_Hours_read_7 m q2 (w32 ((w : Int) + 1))) else some (V, (1 : Int))) _
      rw [f1 18 (by omega), hN]
      refine Sm.ite (fun g => ?_) (fun g => Sm.ok ⟨rfl, f1, fun x hx => f2 x (by omega)⟩)
      have hrV : HRW V U n := by
        unfold HRW
        rw [f1 18 (by omega), f1 19 (by omega), f1 20 (by omega), f1 21 (by omega), f1 22 (by omega), f1 23 (by omega)]
        exact hr
      rw [w32_id (x := (w : Int) + 1) (by omega) (by omega)]
      refine Sm.bind (markW hrV (w := w) (by omega)) (fun W _ hW => ?_)
      refine ih m (w + 1) W (by omega) (by omega) (by omega) (fun r hr => (hW.1 r hr).trans (f1 r hr)) (fun x hx => ?_)
      by_cases ex : x = w
      · rw [ex]; exact hW.2.2
      · intro t ht
        have e' := opn_fr (V := V) (W := W) (n := n) (w := (x : Int)) (t := (t : Int)) (fun r a b => hW.1 r (by omega))
        rw [hW.2.1 (4320 * x + t) (by omega)]
        exact (f2 x (by omega) t ht).cg e'.1.symm (e'.2 0).symm (e'.2 1).symm (e'.2 2).symm
