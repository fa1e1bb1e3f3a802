/-! the class works out the best levels -/
theorem mul_bd {a b A B : Int} (a0 : 0 ≤ a) (a1 : a ≤ A) (b0 : 0 ≤ b) (b1 : b ≤ B) : 0 ≤ a * b ∧ a * b ≤ A * B := ⟨Int.mul_nonneg a0 b0, Int.mul_le_mul a1 b1 b0 (Int.le_trans a0 a1)⟩
def Tc (V : VV) (s h : Int) : Int := V 5 (61 * s + h).toNat
def RS (V : VV) : Prop := (0 ≤ V 1 8 ∧ V 1 8 ≤ 12) ∧ (0 ≤ V 1 9 ∧ V 1 9 ≤ 3) ∧ (20 ≤ V 1 10 ∧ V 1 10 ≤ 120) ∧ (0 ≤ V 1 11 ∧ V 1 11 ≤ 9) ∧ (0 ≤ V 1 12 ∧ V 1 12 ≤ 20) ∧ (1 ≤ V 1 13 ∧ V 1 13 ≤ 9) ∧ (1 ≤ V 1 14 ∧ V 1 14 ≤ 9) ∧ (∀ i : Nat, (i : Int) < V 1 8 → (10 ≤ V 2 i ∧ V 2 i ≤ 500) ∧ (0 ≤ V 3 i ∧ V 3 i ≤ 60)) ∧ (∀ i : Nat, (i : Int) < V 1 9 → (20 ≤ V 6 i ∧ V 6 i ≤ 200) ∧ (0 ≤ V 7 i ∧ V 7 i ≤ 2))
def oldC (V : VV) (s : Int) : Int := V 3 s.toNat
def ownC (V : VV) (s h : Int) : Int := if h < oldC V s then (oldC V s - h) * V 1 13 else (h - oldC V s) * V 1 14
theorem RS.old {V : VV} (r : RS V) {s : Int} (h0 : 0 ≤ s) (h1 : s < V 1 8) : 0 ≤ oldC V s ∧ oldC V s ≤ 60 := (r.2.2.2.2.2.2.2.1 s.toNat (by omega)).2
theorem RS.own {V : VV} (r : RS V) {s h : Int} (h0 : 0 ≤ s) (h1 : s < V 1 8) (a0 : 0 ≤ h) (a1 : h ≤ 60) : 0 ≤ ownC V s h ∧ ownC V s h ≤ 540 := by
  have := r.old h0 h1
  obtain ⟨-, -, -, -, -, r6, r7, -⟩ := r
  unfold ownC
  split
  · exact mul_bd (A := 60) (B := 9) (by omega) (by omega) (by omega) (by omega)
  · exact mul_bd (A := 60) (B := 9) (by omega) (by omega) (by omega) (by omega)
theorem RS.ok {V : VV} (r : RS V) : OwnOK (V 1 8) (V 1 12) (V 1 11) (oldC V) (ownC V) :=
  ⟨r.1.2, r.2.2.2.2.1.1, r.2.2.2.1.1, fun s h0 h1 => (r.old h0 h1).2, fun s h h0 h1 a0 a1 => r.own h0 h1 a0 a1⟩
theorem ch2 {V : VV} {s hi lo : Int} (hs0 : 0 ≤ s) (hs1 : s < 12) (h0 : 0 ≤ lo) : ∀ (k n : Nat) (c l h : Int), min 60 hi - h + 1 ≤ (k : Int) → k < n → lo ≤ h → h ≤ min 60 hi + 1 → Best (Tc V s) lo (h - 1) c l → Sm (f_Road_cheapest_2 n V s hi c l h) (fun q => ∃ l', Best (Tc V s) lo (min 60 hi) q l') := by
  intro k
  induction k with
  | zero =>
    intro n c l h e1 e2 e3 e4 b
    cases n with
    | zero => omega
    | succ n =>
      show Sm (if min 60 hi < h then some c else _) _
      refine Sm.pos (by omega) (Sm.ok ⟨l, ?_⟩)
      rw [show min 60 hi = h - 1 by omega]; exact b
  | succ k ih =>
    intro n c l h e1 e2 e3 e4 b
    cases n with
    | zero => omega
    | succ n =>
      show Sm (if min 60 hi < h then some c else f_Road_cheapest_2 n V s hi (if (atV V 5 732 (w32 ((w32 (s * 61)) + h))) < l then h else c) (if (atV V 5 732 (w32 ((w32 (s * 61)) + h))) < l then atV V 5 732 (w32 ((w32 (s * 61)) + h)) else l) (w32 (h + 1))) _
      refine Sm.ite (fun g => Sm.ok ⟨l, ?_⟩) (fun g => ?_)
      · rw [show min 60 hi = h - 1 by omega]; exact b
      · have e : atV V 5 732 (w32 ((w32 (s * 61)) + h)) = Tc V s h := by
          rw [w32_id (x := s * 61) (by omega) (by omega), w32_id (by omega) (by omega), atV_in (by omega) (by omega)]
          unfold Tc
          rw [show s * 61 + h = 61 * s + h by omega]
        rw [e, w32_id (by omega) (by omega)]
        refine ih n _ _ _ (by omega) (by omega) (by omega) (by omega) ?_
        rw [show h + 1 - 1 = h by omega]
        exact b.step e3 h0
theorem cheap {V : VV} {s lo hi : Int} (hs0 : 0 ≤ s) (hs1 : s < 12) (hne : max 0 lo ≤ min 60 hi) : Sm (f_Road_cheapest V s lo hi) (fun q => ∃ l, Best (Tc V s) (max 0 lo) (min 60 hi) q l) := by
  unfold f_Road_cheapest
  refine ch2 hs0 hs1 (by omega) 62 FU _ _ _ (by omega) (by decide) (Int.le_refl _) (by omega) (Or.inl ⟨rfl, rfl, fun u h1 h2 => by omega⟩)
def CostV (V : VV) (s h c : Int) : Prop := 0 ≤ c ∧ ∃ m, (s + 1 < V 1 8 → IsMin (Tc V (s + 1)) (max 0 (h - V 1 11)) (min 60 (h + V 1 11)) m) ∧ c = if h < oldC V s - V 1 12 then 1000000 else if s + 1 < V 1 8 then (if m = 1000000 then 1000000 else ownC V s h + m) else ownC V s h
theorem costF {V : VV} (r : RS V) {s h : Int} (h0 : 0 ≤ s) (h1 : s < V 1 8) (a0 : 0 ≤ h) (a1 : h ≤ 60) (t : s + 1 < V 1 8 → ∀ u, 0 ≤ u → u ≤ 60 → 0 ≤ Tc V (s + 1) u ∧ Tc V (s + 1) u ≤ 1000000) : Sm (f_Road_costFrom V s h) (CostV V s h) := by
  have ro := r.old h0 h1
  have rw_ := r.own h0 h1 a0 a1
  obtain ⟨r1, r2, r3, r4, r5, r6, r7, -, -⟩ := id r
  have e1 : atV V 3 12 s = oldC V s := atV_in h0 (by omega)
  have m1 : h < oldC V s → 0 ≤ (oldC V s - h) * V 1 13 ∧ (oldC V s - h) * V 1 13 ≤ 60 * 9 := fun _ => mul_bd (by omega) (by omega) (by omega) (by omega)
  have m2 : ¬ h < oldC V s → 0 ≤ (h - oldC V s) * V 1 14 ∧ (h - oldC V s) * V 1 14 ≤ 60 * 9 := fun _ => mul_bd (by omega) (by omega) (by omega) (by omega)
  have e2 : (if h < (oldC V s) then w32 ((w32 ((oldC V s) - h)) * (V 1 13)) else w32 ((w32 (h - (oldC V s))) * (V 1 14)) : Int) = ownC V s h := by
    unfold ownC
    split
    · next g => have := m1 g; rw [w32_id (x := oldC V s - h) (by omega) (by omega), w32_id (by omega) (by omega)]
    · next g => have := m2 g; rw [w32_id (x := h - oldC V s) (by omega) (by omega), w32_id (by omega) (by omega)]
  unfold f_Road_costFrom
  rw [e1, e2, w32_id (x := oldC V s - V 1 12) (by omega) (by omega), w32_id (x := s + 1) (by omega) (by omega)]
  refine Sm.ite (fun g => Sm.ok ⟨by omega, ?_⟩) (fun g => ?_)
  · by_cases hs : s + 1 < V 1 8
    · obtain ⟨q, -, l, b⟩ := cheap (V := V) (s := s + 1) (lo := h - V 1 11) (hi := h + V 1 11) (by omega) (by omega) (by omega)
      exact ⟨l, fun _ => b.min, by rw [if_pos g]⟩
    · exact ⟨0, fun z => absurd z hs, by rw [if_pos g]⟩
  refine Sm.ite (fun hs => ?_) (fun hs => Sm.ok ⟨rw_.1, 0, fun z => absurd z hs, by rw [if_neg g, if_neg hs]⟩)
  rw [w32_id (x := h - V 1 11) (by omega) (by omega), w32_id (x := h + V 1 11) (by omega) (by omega)]
  refine Sm.bind (cheap (by omega) (by omega) (by omega)) (fun q5 _ hq => Sm.ok ?_)
  obtain ⟨l, b⟩ := hq
  unfold CostV
  rcases id b with ⟨rfl, rfl, b1⟩ | ⟨b1, b2, b3, b4, b5⟩
  · rw [if_pos rfl]
    exact ⟨by omega, 1000000, fun _ => b.min, by rw [if_neg g, if_pos hs, if_pos rfl]⟩
  · have e3 : atV V 5 732 (w32 ((w32 ((s + 1) * 61)) + q5)) = Tc V (s + 1) q5 := by
      rw [w32_id (x := (s + 1) * 61) (by omega) (by omega), w32_id (by omega) (by omega), atV_in (by omega) (by omega)]
      unfold Tc
      rw [show (s + 1) * 61 + q5 = 61 * (s + 1) + q5 by omega]
    have t1 := t hs q5 (by omega) (by omega)
    rw [if_neg (by omega), e3, w32_id (by omega) (by omega), ← b3]
    exact ⟨by omega, l, fun _ => b.min, by rw [if_neg g, if_pos hs, if_neg (by omega)]⟩
/-- nothing but one cell has changed -/
def But (a : Nat) (V0 V : VV) : Prop := ∀ i, i ≠ a → V i = V0 i
theorem But.rf {a : Nat} {V : VV} : But a V V := fun _ _ => rfl
theorem But.up {a b : Nat} {x : Int} {V0 V : VV} (h : But a V0 V) : But a V0 (up V a b x) := fun i hi => (up_na V b x hi).trans (h i hi)
theorem But.tr {a : Nat} {V0 V V2 : VV} (h : But a V0 V) (h2 : But a V V2) : But a V0 V2 := fun i hi => (h2 i hi).trans (h i hi)
theorem RS.but {a : Nat} {V0 V : VV} (r : RS V0) (h : But a V0 V) (ha : a = 4 ∨ a = 5 ∨ a = 8 ∨ a = 9) : RS V := by
  unfold RS
  rw [h 1 (by omega), h 2 (by omega), h 3 (by omega), h 6 (by omega), h 7 (by omega)]
  exact r
theorem OC.but {V0 V : VV} (h : But 5 V0 V) : oldC V = oldC V0 ∧ ownC V = ownC V0 := by
  unfold ownC oldC
  rw [h 1 (by omega), h 3 (by omega)]
  exact ⟨rfl, rfl⟩
abbrev TPV (V0 V : VV) (s h : Int) : Prop := TP (V0 1 8) (V0 1 12) (V0 1 11) (oldC V0) (ownC V0) (Tc V) s h
theorem Tc_up {V : VV} {s h x s2 h2 : Int} (a : 0 ≤ s) (b : 0 ≤ h) (b2 : h ≤ 60) (c : 0 ≤ s2) (d : 0 ≤ h2) (d2 : h2 ≤ 60) : Tc (up V 5 (61 * s + h).toNat x) s2 h2 = if s2 = s ∧ h2 = h then x else Tc V s2 h2 := by
  unfold Tc
  rw [up_ap, if_pos rfl]
  by_cases e : s2 = s ∧ h2 = h
  · rw [if_pos e, if_pos (by rw [e.1, e.2])]
  · rw [if_neg e, if_neg (by omega)]
theorem wh3 {V0 : VV} (r : RS V0) {s : Int} (h0 : 0 ≤ s) (h1 : s < V0 1 8) {Q : VV → Prop} {k1 : VV → Int → Option VV} (K : ∀ V, But 5 V0 V → TPV V0 V (s - 1) 0 → Sm (k1 V (s - 1)) Q) : ∀ (k n : Nat) (V : VV) (h : Int), 61 - h ≤ (k : Int) → k < n → 0 ≤ h → h ≤ 61 → But 5 V0 V → TPV V0 V s h → Sm (f_Road_weighHeights_3 k1 n V s h) Q := by
  have base : ∀ (V : VV) (h : Int), h = 61 → But 5 V0 V → TPV V0 V s h → Sm (k1 V (w32 (s + -1))) Q := by
    intro V h e b t
    obtain ⟨r1, -⟩ := id r
    rw [w32_id (by omega) (by omega), show s + -1 = s - 1 by omega]
    refine K V b (fun s2 h2 a1 a2 a3 a4 a5 => ?_)
    subst e
    exact t s2 h2 a1 a2 a3 a4 (by omega)
  intro k
  induction k with
  | zero =>
    intro n V h e1 e2 e3 e4 b t
    cases n with
    | zero => omega
    | succ n =>
      show Sm (if h < 61 then _ else k1 V (w32 (s + -1))) _
      exact Sm.neg (by omega) (base V h (by omega) b t)
  | succ k ih =>
    intro n V h e1 e2 e3 e4 b t
    cases n with
    | zero => omega
    | succ n =>
      show Sm (if h < 61 then Option.bind (f_Road_costFrom V s h) (fun q2 => lt_ (setV V 5 732 (w32 ((w32 (s * 61)) + h)) q2) (fun q3 => f_Road_weighHeights_3 k1 n q3 s (w32 (h + 1)))) else k1 V (w32 (s + -1))) _
      refine Sm.ite (fun g => ?_) (fun g => base V h (by omega) b t)
      have rV := r.but b (by omega)
      obtain ⟨r1, -⟩ := id r
      have n1 : V 1 8 = V0 1 8 := by rw [b 1 (by omega)]
      have tf : s + 1 < V 1 8 → ∀ u, 0 ≤ u → u ≤ 60 → 0 ≤ Tc V (s + 1) u ∧ Tc V (s + 1) u ≤ 1000000 := by
        intro hs u u1 u2
        exact ⟨(t (s + 1) u (by omega) (by omega) u1 u2 (by omega)).1, ((t.fact r.ok (by omega) (by omega) (by omega)).2 u u1 u2).1⟩
      refine Sm.bind (costF rV h0 (by omega) e3 (by omega) tf) (fun q2 _ hq => Sm.lt0 ?_)
      rw [w32_id (x := s * 61) (by omega) (by omega), w32_id (x := s * 61 + h) (by omega) (by omega), w32_id (x := h + 1) (by omega) (by omega), setV_in (by omega) (by omega), show s * 61 + h = 61 * s + h by omega]
      refine ih n _ (h + 1) (by omega) (by omega) (by omega) (by omega) b.up ?_
      intro s2 h2 a1 a2 a3 a4 a5
      by_cases e : s2 = s ∧ h2 = h
      · obtain ⟨rfl, rfl⟩ := e
        obtain ⟨c1, m, c2, c3⟩ := hq
        have T1 : ∀ u, 0 ≤ u → u ≤ 60 → Tc (up V 5 (61 * s2 + h2).toNat q2) (s2 + 1) u = Tc V (s2 + 1) u := by
          intro u u1 u2
          rw [Tc_up h0 (by omega) (by omega) (by omega) u1 u2, if_neg (by omega)]
        refine CellOK.congr (T := fun a c => if a = s2 ∧ c = h2 then q2 else Tc V a c) ?_ ?_ ?_
        · obtain ⟨o1, o2⟩ := OC.but b
          rw [n1, o1, o2, b 1 (by omega)] at c3
          rw [n1, b 1 (by omega)] at c2
          refine ⟨by simpa using c1, m, fun hs => ?_, by simpa using c3⟩
          obtain ⟨d1, d2, d3⟩ := c2 hs
          refine ⟨d1, fun u u1 u2 => ?_, ?_⟩
          · show m ≤ (if s2 + 1 = s2 ∧ u = h2 then q2 else Tc V (s2 + 1) u)
            rw [if_neg (by omega)]; exact d2 u u1 u2
          · rcases d3 with d3 | ⟨u, u1, u2, u3⟩
            · exact Or.inl d3
            · exact Or.inr ⟨u, u1, u2, by show (if s2 + 1 = s2 ∧ u = h2 then q2 else Tc V (s2 + 1) u) = m; rw [if_neg (by omega)]; exact u3⟩
        · rw [Tc_up h0 (by omega) (by omega) h0 (by omega) (by omega)]
        · intro hs u u1 u2
          rw [T1 u u1 u2, if_neg (by omega)]
      · refine (t s2 h2 a1 a2 a3 a4 (by omega)).congr ?_ ?_
        · rw [Tc_up h0 (by omega) (by omega) a1 a3 a4, if_neg e]
        · intro hs u u1 u2
          rw [Tc_up h0 (by omega) (by omega) (by omega) u1 u2, if_neg (by omega)]
theorem wh1 {V0 : VV} (r : RS V0) : ∀ (k n : Nat) (V : VV) (s : Int), s + 1 ≤ (k : Int) → k < n → -1 ≤ s → s < V0 1 8 → But 5 V0 V → TPV V0 V s 0 → Sm (f_Road_weighHeights_1 n V s) (fun V => But 5 V0 V ∧ TPV V0 V (-1) 0) := by
  intro k
  induction k with
  | zero =>
    intro n V s e1 e2 e3 e4 b t
    cases n with
    | zero => omega
    | succ n =>
      show Sm (if s < 0 then some V else _) _
      refine Sm.pos (by omega) (Sm.ok ⟨b, ?_⟩)
      rw [show (-1 : Int) = s by omega]; exact t
  | succ k ih =>
    intro n V s e1 e2 e3 e4 b t
    cases n with
    | zero => omega
    | succ n =>
      show Sm (if s < 0 then some V else f_Road_weighHeights_3 (f_Road_weighHeights_1 n) FU V s 0) _
      refine Sm.ite (fun g => Sm.ok ⟨b, ?_⟩) (fun g => ?_)
      · rw [show (-1 : Int) = s by omega]; exact t
      · exact wh3 r (by omega) e4 (fun V b t => ih n V (s - 1) (by omega) (by omega) (by omega) (by omega) b t) 61 FU V 0 (by omega) (by decide) (by omega) (by omega) b t
theorem weigh {V0 : VV} (r : RS V0) : Sm (f_Road_weighHeights V0) (fun V => But 5 V0 V ∧ TPV V0 V (-1) 0) := by
  obtain ⟨r1, -⟩ := id r
  unfold f_Road_weighHeights
  rw [w32_id (by omega) (by omega)]
  exact wh1 r 12 FU V0 (V0 1 8 - 1) (by omega) (by decide) (by omega) (by omega) But.rf (fun s h a1 a2 a3 a4 a5 => by omega)
