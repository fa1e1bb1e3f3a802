/-! the class marks a world -/
def BITP (x : Int) (O S0 S1 S2 : Prop) : Prop := ∃ o a b c : Int, (bt o ∧ bt a ∧ bt b ∧ bt c) ∧ x = o + 2 * a + 4 * b + 8 * c ∧ (o = 1 ↔ O) ∧ (a = 1 ↔ S0) ∧ (b = 1 ↔ S1) ∧ (c = 1 ↔ S2)
theorem BITP.cg {x : Int} {O S0 S1 S2 O' S0' S1' S2' : Prop} (h : BITP x O S0 S1 S2) (e : O ↔ O') (e0 : S0 ↔ S0') (e1 : S1 ↔ S1') (e2 : S2 ↔ S2') : BITP x O' S0' S1' S2' := by
  obtain ⟨o, a, b, c, h1, h2, h3, h4, h5, h6⟩ := h
  exact ⟨o, a, b, c, h1, h2, h3.trans e, h4.trans e0, h5.trans e1, h6.trans e2⟩
theorem BITP.or1 {x : Int} {O S0 S1 S2 : Prop} (h : BITP x O S0 S1 S2) : BITP (iorI x 1) True S0 S1 S2 := by
  obtain ⟨o, a, b, c, ⟨q1, q2, q3, q4⟩, h2, h3, h4, h5, h6⟩ := h
  rw [h2, (bits_ops q1 q2 q3 q4).2.2.2.2.2.1]
  exact ⟨1, a, b, c, ⟨Or.inr rfl, q2, q3, q4⟩, rfl, ⟨fun _ => trivial, fun _ => rfl⟩, h4, h5, h6⟩
theorem BITP.or2 {x : Int} {O S0 S1 S2 : Prop} (h : BITP x O S0 S1 S2) : BITP (iorI x 2) O True S1 S2 := by
  obtain ⟨o, a, b, c, ⟨q1, q2, q3, q4⟩, h2, h3, h4, h5, h6⟩ := h
  rw [h2, (bits_ops q1 q2 q3 q4).2.2.2.2.2.2.1]
  exact ⟨o, 1, b, c, ⟨q1, Or.inr rfl, q3, q4⟩, by omega, h3, ⟨fun _ => trivial, fun _ => rfl⟩, h5, h6⟩
theorem BITP.or4 {x : Int} {O S0 S1 S2 : Prop} (h : BITP x O S0 S1 S2) : BITP (iorI x 4) O S0 True S2 := by
  obtain ⟨o, a, b, c, ⟨q1, q2, q3, q4⟩, h2, h3, h4, h5, h6⟩ := h
  rw [h2, (bits_ops q1 q2 q3 q4).2.2.2.2.2.2.2.1]
  exact ⟨o, a, 1, c, ⟨q1, q2, Or.inr rfl, q4⟩, by omega, h3, h4, ⟨fun _ => trivial, fun _ => rfl⟩, h6⟩
theorem BITP.or8 {x : Int} {O S0 S1 S2 : Prop} (h : BITP x O S0 S1 S2) : BITP (iorI x 8) O S0 S1 True := by
  obtain ⟨o, a, b, c, ⟨q1, q2, q3, q4⟩, h2, h3, h4, h5, h6⟩ := h
  rw [h2, (bits_ops q1 q2 q3 q4).2.2.2.2.2.2.2.2]
  exact ⟨o, a, b, 1, ⟨q1, q2, q3, Or.inr rfl⟩, by omega, h3, h4, h5, ⟨fun _ => trivial, fun _ => rfl⟩⟩
theorem BITP.clr {x : Int} {O S0 S1 S2 : Prop} (h : BITP x O S0 S1 S2) : BITP (iandI x (-2)) False S0 S1 S2 := by
  obtain ⟨o, a, b, c, ⟨q1, q2, q3, q4⟩, h2, h3, h4, h5, h6⟩ := h
  rw [h2, (bits_ops q1 q2 q3 q4).2.2.2.2.1]
  exact ⟨0, a, b, c, ⟨Or.inl rfl, q2, q3, q4⟩, by omega, ⟨fun x => by omega, fun x => x.elim⟩, h4, h5, h6⟩
theorem ex_s {P : Nat → Prop} {i : Nat} : (∃ j : Nat, j < i + 1 ∧ P j) ↔ (∃ j : Nat, j < i ∧ P j) ∨ P i := by
  constructor
  · rintro ⟨j, a, b⟩
    by_cases e : j = i
    · exact Or.inr (e ▸ b)
    · exact Or.inl ⟨j, by omega, b⟩
  · rintro (⟨j, a, b⟩ | b)
    · exact ⟨j, by omega, b⟩
    · exact ⟨i, by omega, b⟩
def M17 (V0 : VV) (n w i : Nat) (V : VV) : Prop := (∀ r, r ≠ 24 → V r = V0 r) ∧ (∀ x : Nat, ¬ (4320 * w ≤ x ∧ x < 4320 * w + 4320) → V 24 x = V0 24 x) ∧ ∀ t : Nat, t < 4320 → BITP (V 24 (4320 * w + t)) ((∀ j : Nat, j < n → ¬ OPC V0 j w) ∨ ∃ j : Nat, j < i ∧ OPC V0 j w ∧ cov V0 j t) (∃ j : Nat, j < i ∧ SHC V0 j w 0 t) (∃ j : Nat, j < i ∧ SHC V0 j w 1 t) (∃ j : Nat, j < i ∧ SHC V0 j w 2 t)
theorem M17.skip {V0 V : VV} {n w i : Nat} (h : M17 V0 n w i V) (k1 : ¬ OPC V0 i w) (k2 : ¬ (V0 19 i = 2 ∧ hld V0 i w)) : M17 V0 n w (i + 1) V := by
  refine ⟨h.1, h.2.1, fun t ht => (h.2.2 t ht).cg ?_ ?_ ?_ ?_⟩
  · rw [ex_s]; exact ⟨fun x => x.imp id Or.inl, fun x => x.imp id (fun y => y.elim id (fun z => absurd z.1 k1))⟩
  · rw [ex_s]; exact ⟨Or.inl, fun y => y.elim id (fun z => absurd z.1.1 k2)⟩
  · rw [ex_s]; exact ⟨Or.inl, fun y => y.elim id (fun z => absurd z.1.1 k2)⟩
  · rw [ex_s]; exact ⟨Or.inl, fun y => y.elim id (fun z => absurd z.1.1 k2)⟩
theorem M17.opn {V0 V W : VV} {n w i : Nat} (h : M17 V0 n w i V) (k1 : OPC V0 i w) (b : 0 ≤ V0 22 i ∧ V0 22 i ≤ V0 23 i ∧ V0 23 i ≤ 4319) (w1 : ∀ r, r ≠ 24 → W r = V r) (w2 : ∀ x : Nat, W 24 x = if 4320 * (w : Int) + V0 22 i ≤ (x : Int) ∧ (x : Int) ≤ 4320 * (w : Int) + V0 23 i then iorI (V 24 x) 1 else V 24 x) : M17 V0 n w (i + 1) W := by
  have n2 : ∀ p t : Int, ¬ SHC V0 i w p t := fun p t z => by have := z.1.1.1; have := k1.1; omega
  refine ⟨fun r hr => (w1 r hr).trans (h.1 r hr), fun x hx => ?_, fun t ht => ?_⟩
  · rw [w2, if_neg (by omega)]; exact h.2.1 x hx
  · rw [w2]
    by_cases g : V0 22 i ≤ (t : Int) ∧ (t : Int) ≤ V0 23 i
    · rw [if_pos (by omega)]
      refine (h.2.2 t ht).or1.cg ?_ ?_ ?_ ?_
      · rw [ex_s]; exact ⟨fun _ => Or.inr (Or.inr ⟨k1, g⟩), fun _ => trivial⟩
      all_goals rw [ex_s]; exact ⟨Or.inl, fun y => y.elim id (fun z => absurd z (n2 _ _))⟩
    · rw [if_neg (by omega)]
      refine (h.2.2 t ht).cg ?_ ?_ ?_ ?_
      · rw [ex_s]; exact ⟨fun x => x.imp id Or.inl, fun x => x.imp id (fun y => y.elim id (fun z => absurd z.2 g))⟩
      all_goals rw [ex_s]; exact ⟨Or.inl, fun y => y.elim id (fun z => absurd z (n2 _ _))⟩
theorem M17.sht {V0 V W : VV} {n w i : Nat} {mask : Int} (h : M17 V0 n w i V) (k1 : V0 19 i = 2 ∧ hld V0 i w) (b : 0 ≤ V0 22 i ∧ V0 22 i ≤ V0 23 i ∧ V0 23 i ≤ 4319) (hm : (V0 21 i = 0 ∧ mask = 2) ∨ (V0 21 i = 1 ∧ mask = 4) ∨ (V0 21 i = 2 ∧ mask = 8)) (w1 : ∀ r, r ≠ 24 → W r = V r) (w2 : ∀ x : Nat, W 24 x = if 4320 * (w : Int) + V0 22 i ≤ (x : Int) ∧ (x : Int) ≤ 4320 * (w : Int) + V0 23 i then iorI (V 24 x) mask else V 24 x) : M17 V0 n w (i + 1) W := by
  have n3 : ¬ OPC V0 i w := fun z => by have := z.1; have := k1.1; omega
  refine ⟨fun r hr => (w1 r hr).trans (h.1 r hr), fun x hx => ?_, fun t ht => ?_⟩
  · rw [w2, if_neg (by omega)]; exact h.2.1 x hx
  · have eO : ((∀ j : Nat, j < n → ¬ OPC V0 j w) ∨ ∃ j : Nat, j < i ∧ OPC V0 j w ∧ cov V0 j t) ↔ ((∀ j : Nat, j < n → ¬ OPC V0 j w) ∨ ∃ j : Nat, j < i + 1 ∧ OPC V0 j w ∧ cov V0 j t) := by
      rw [ex_s]; exact ⟨fun x => x.imp id Or.inl, fun x => x.imp id (fun y => y.elim id (fun z => absurd z.1 n3))⟩
    have eN : ∀ p : Int, ¬ SHC V0 i w p t → ((∃ j : Nat, j < i ∧ SHC V0 j w p t) ↔ ∃ j : Nat, j < i + 1 ∧ SHC V0 j w p t) := fun p hp => by
      rw [ex_s]; exact ⟨Or.inl, fun y => y.elim id (fun z => absurd z hp)⟩
    have eY : ∀ p : Int, SHC V0 i w p t → (True ↔ ∃ j : Nat, j < i + 1 ∧ SHC V0 j w p t) := fun p hp => ⟨fun _ => ⟨i, by omega, hp⟩, fun _ => trivial⟩
    rw [w2]
    by_cases g : V0 22 i ≤ (t : Int) ∧ (t : Int) ≤ V0 23 i
    · rw [if_pos (by omega)]
      have B := h.2.2 t ht
      rcases hm with ⟨p, q⟩ | ⟨p, q⟩ | ⟨p, q⟩
      · rw [q]; exact B.or2.cg eO (eY 0 ⟨⟨k1, p⟩, g⟩) (eN 1 (fun z => by have := z.1.2; omega)) (eN 2 (fun z => by have := z.1.2; omega))
      · rw [q]; exact B.or4.cg eO (eN 0 (fun z => by have := z.1.2; omega)) (eY 1 ⟨⟨k1, p⟩, g⟩) (eN 2 (fun z => by have := z.1.2; omega))
      · rw [q]; exact B.or8.cg eO (eN 0 (fun z => by have := z.1.2; omega)) (eN 1 (fun z => by have := z.1.2; omega)) (eY 2 ⟨⟨k1, p⟩, g⟩)
    · rw [if_neg (by omega)]
      exact (h.2.2 t ht).cg eO (eN 0 (fun z => g z.2)) (eN 1 (fun z => g z.2)) (eN 2 (fun z => g z.2))
theorem mw17 {V0 U : VV} {n w : Nat} (hr : HRW V0 U n) (hw : w < 3) {Q : VV → Prop} (K : ∀ V, M17 V0 n w n V → Sm (f_Hours_markWorld_33 FU V (w : Int) 0) Q) : ∀ (k m i : Nat) (V : VV), n = i + k → k < m → M17 V0 n w i V → Sm (f_Hours_markWorld_17 m V (w : Int) (i : Int)) Q := by
  obtain ⟨h1, h2, h3, h4⟩ := id hr
  intro k
  induction k with
  | zero =>
    intro m i V e e1 h
    cases m with
    | zero => omega
    | succ m =>
      have ei : i = n := by omega
      subst ei
      show Sm (if (i : Int) < (V 18 6) then _ else f_Hours_markWorld_33 FU V (w : Int) 0) Q
      rw [h.1 18 (by omega), if_neg (by omega)]
      exact K V h
  | succ k ih =>
    intro m i V e e1 h
    cases m with
    | zero => omega
    | succ m =>
      obtain ⟨a1, a2, a3, a4, a5, a6, a7⟩ := h4 i (by omega)
      have at_ : ∀ r : Nat, r ≠ 24 → atV V r 40 (i : Int) = V0 r i := fun r hr => by rw [atV_in (by omega) (by omega), Int.toNat_natCast, h.1 r hr]
      have hc := holdsC (V := V) (w := w) (i := i) (by omega)
      have hV : hld V i w ↔ hld V0 i w := by unfold hld; rw [h.1 20 (by omega)]
      have nx : ∀ W, M17 V0 n w (i + 1) W → Sm (f_Hours_markWorld_31 (f_Hours_markWorld_17 m) W (w : Int) (i : Int)) Q := fun W hW => by
        unfold f_Hours_markWorld_31
        rw [w32_id (x := (i : Int) + 1) (by omega) (by omega)]
        exact ih m (i + 1) W (by omega) (by omega) hW
      have m2 : ∀ mask : Int, (V0 19 i = 2 ∨ V0 19 i = 3) → Sm (f_Hours_mark V (w : Int) (i : Int) mask) (fun W => (∀ r, r ≠ 24 → W r = V r) ∧ ∀ x : Nat, W 24 x = if 4320 * (w : Int) + V0 22 i ≤ (x : Int) ∧ (x : Int) ≤ 4320 * (w : Int) + V0 23 i then iorI (V 24 x) mask else V 24 x) := fun mask hk => by
        have b := a7 (by omega)
        have := mark2 (V := V) (w := w) (i := i) (mask := mask) hw (by omega) (by rw [h.1 22 (by omega), h.1 23 (by omega)]; exact b.2.2)
        rw [h.1 22 (by omega), h.1 23 (by omega)] at this
        exact this
      have n24 : ¬ OPC V0 i w → Sm (f_Hours_markWorld_24 (f_Hours_markWorld_17 m) V (w : Int) (i : Int)) Q := by
        intro ho
        unfold f_Hours_markWorld_24
        rw [at_ 19 (by omega), at_ 21 (by omega)]
        by_cases g : V0 19 i = 2
        · rw [if_pos g]
          by_cases g2 : hld V0 i w
          · rw [if_neg (fun y => hc.mp y (hV.mpr g2))]
            refine Sm.bind (m2 _ (Or.inl g)) (fun W _ hW => ?_)
            have b := a7 (by omega)
            have p := (a5 (by omega)).2
            have sb := shutBits (V := V)
            refine nx W (h.sht ⟨g, g2⟩ b.2.2 ?_ hW.1 hW.2)
            have : V0 21 i = 0 ∨ V0 21 i = 1 ∨ V0 21 i = 2 := by omega
            rcases this with e | e | e
            · exact Or.inl ⟨e, by rw [e]; exact sb.1⟩
            · exact Or.inr (Or.inl ⟨e, by rw [e]; exact sb.2.1⟩)
            · exact Or.inr (Or.inr ⟨e, by rw [e]; exact sb.2.2⟩)
          · rw [if_pos (hc.mpr (fun y => g2 (hV.mp y)))]
            exact nx V (h.skip ho (fun y => g2 y.2))
        · rw [if_neg g]
          exact nx V (h.skip ho (fun y => g y.1))
      show Sm (if (i : Int) < (V 18 6) then if (atV V 19 40 (i : Int)) = 3 then if (f_Hours_holds V (i : Int) (w : Int)) = 0 then f_Hours_markWorld_24 (f_Hours_markWorld_17 m) V (w : Int) (i : Int) else Option.bind (f_Hours_mark V (w : Int) (i : Int) 1) (fun q6 => f_Hours_markWorld_31 (f_Hours_markWorld_17 m) q6 (w : Int) (i : Int)) else f_Hours_markWorld_24 (f_Hours_markWorld_17 m) V (w : Int) (i : Int) else _) Q
      rw [h.1 18 (by omega), if_pos (by omega), at_ 19 (by omega)]
      by_cases g : V0 19 i = 3
      · rw [if_pos g]
        by_cases g2 : hld V0 i w
        · rw [if_neg (fun y => hc.mp y (hV.mpr g2))]
          refine Sm.bind (m2 1 (Or.inr g)) (fun W _ hW => ?_)
          exact nx W (h.opn ⟨g, g2⟩ (a7 (by omega)).2.2 hW.1 hW.2)
        · rw [if_pos (hc.mpr (fun y => g2 (hV.mp y)))]
          exact n24 (fun y => g2 y.2)
      · rw [if_neg g]
        exact n24 (fun y => g y.1)
