/-! the reference finds the same levels and jobs -/
/-- what a run of the reference may change -/
def kM (i k : Nat) : Bool := match i with
  | 62 => Nat.beq k 13 || Nat.beq k 14 || Nat.beq k 63 || (Nat.ble 72 k && Nat.ble k 80) || (Nat.ble 91 k && Nat.ble k 92)
  | _ => (Nat.ble 67 i && Nat.ble i 70) || (Nat.ble 86 i && Nat.ble i 117) || Nat.beq i 121 || Nat.beq i 122
def MF (U0 U : VV) : Prop := ∀ i k, kM i k = false → U i k = U0 i k
theorem MF.rf {U : VV} : MF U U := fun _ _ _ => rfl
theorem MF.tr {U0 U U2 : VV} (h : MF U0 U) (h2 : MF U U2) : MF U0 U2 := fun i k e => (h2 i k e).trans (h i k e)
theorem MF.up {U0 U : VV} {a b : Nat} {x : Int} (hk : kM a b = true) (h : MF U0 U) : MF U0 (up U a b x) := by
  intro i k e
  rw [up_ap]
  split
  · split
    · next h1 h2 => rw [h1, h2, hk] at e; cases e
    · exact h i k e
  · exact h i k e
def SRoad (V U : VV) : Prop := U 62 0 = V 1 8 ∧ U 62 8 = V 1 9 ∧ U 62 3 = V 1 10 ∧ U 62 4 = V 1 11 ∧ U 62 5 = V 1 12 ∧ U 62 6 = V 1 13 ∧ U 62 7 = V 1 14 ∧ (∀ i : Nat, (i : Int) < V 1 8 → U 63 i = V 2 i ∧ U 64 i = V 3 i) ∧ ∀ i : Nat, (i : Int) < V 1 9 → U 65 i = V 6 i ∧ U 66 i = V 7 i
theorem SRoad.mf {V U U2 : VV} (s : SRoad V U) (h : MF U U2) : SRoad V U2 := by
  obtain ⟨a1, a2, a3, a4, a5, a6, a7, a8, a9⟩ := s
  refine ⟨by rw [h 62 0 rfl]; exact a1, by rw [h 62 8 rfl]; exact a2, by rw [h 62 3 rfl]; exact a3, by rw [h 62 4 rfl]; exact a4, by rw [h 62 5 rfl]; exact a5, by rw [h 62 6 rfl]; exact a6, by rw [h 62 7 rfl]; exact a7, fun i hi => ?_, fun i hi => ?_⟩
  · rw [h 63 i rfl, h 64 i rfl]; exact a8 i hi
  · rw [h 65 i rfl, h 66 i rfl]; exact a9 i hi
def Tm (U : VV) (s h : Int) : Int := U 67 (61 * s + h).toNat
theorem Tm_up {V : VV} {s h x s2 h2 : Int} (a : 0 ≤ s) (b : 0 ≤ h) (b2 : h ≤ 60) (c : 0 ≤ s2) (d : 0 ≤ h2) (d2 : h2 ≤ 60) : Tm (up V 67 (61 * s + h).toNat x) s2 h2 = if s2 = s ∧ h2 = h then x else Tm V s2 h2 := by
  unfold Tm
  rw [up_ap, if_pos rfl]
  by_cases e : s2 = s ∧ h2 = h
  · rw [if_pos e, if_pos (by rw [e.1, e.2])]
  · rw [if_neg e, if_neg (by omega)]
theorem IsMin.step {f : Int → Int} {lo u m : Int} (b : IsMin f lo (u - 1) m) (hl : lo ≤ u) : IsMin f lo u (if f u < m then f u else m) := by
  obtain ⟨b1, b2, b3⟩ := b
  refine ⟨by split <;> omega, fun v v1 v2 => ?_, ?_⟩
  · by_cases e : v = u
    · subst e; split <;> omega
    · have := b2 v v1 (by omega); split <;> omega
  · split
    · exact Or.inr ⟨u, hl, Int.le_refl _, rfl⟩
    · rcases b3 with b3 | ⟨v, v1, v2, v3⟩
      · exact Or.inl b3
      · exact Or.inr ⟨v, v1, by omega, v3⟩
theorem cost_m {V U : VV} (r : RS V) (q : SRoad V U) {s h : Int} (h0 : 0 ≤ s) (h1 : s < V 1 8) (a0 : 0 ≤ h) (a1 : h ≤ 60) : f_Mo_costOf U s h = some (if h < oldC V s - V 1 12 then 1000000 else ownC V s h) := by
  have ro := r.old h0 h1
  obtain ⟨r1, r2, r3, r4, r5, r6, r7, -, -⟩ := id r
  obtain ⟨q1, q2, q3, q4, q5, q6, q7, q8, -⟩ := q
  have e : U 64 s.toNat = oldC V s := (q8 s.toNat (by omega)).2
  unfold f_Mo_costOf
  rw [e, q5, q6, q7, if_pos (by omega), w32_id (x := oldC V s - V 1 12) (by omega) (by omega)]
  by_cases g : h < oldC V s - V 1 12
  · rw [if_pos g, if_pos g]
  · rw [if_neg g, if_neg g, if_pos (by omega)]
    unfold ownC
    by_cases g2 : h < oldC V s
    · have := mul_bd (a := oldC V s - h) (b := V 1 13) (A := 60) (B := 9) (by omega) (by omega) (by omega) (by omega)
      rw [if_pos g2, if_pos g2, if_pos (by omega), w32_id (x := oldC V s - h) (by omega) (by omega), Int.mul_comm, w32_id (by omega) (by omega)]
    · have := mul_bd (a := h - oldC V s) (b := V 1 14) (A := 60) (B := 9) (by omega) (by omega) (by omega) (by omega)
      rw [if_neg g2, if_neg g2, if_pos (by omega), w32_id (x := h - oldC V s) (by omega) (by omega), Int.mul_comm, w32_id (by omega) (by omega)]
theorem rest3 {U : VV} {s h sm : Int} (hs : U 62 4 = sm) (s0 : 0 ≤ s) (s1 : s < 11) (a0 : 0 ≤ h) (a1 : h ≤ 60) (m0 : 0 ≤ sm) (m1 : sm ≤ 9) : ∀ (k n : Nat) (b u : Int), h + sm + 1 - u ≤ (k : Int) → k < n → h - sm ≤ u → u ≤ h + sm + 1 → IsMin (Tm U (s + 1)) (max 0 (h - sm)) (min 60 (u - 1)) b → Sm (f_Mo_restOf_3 n U s h b u) (fun m => IsMin (Tm U (s + 1)) (max 0 (h - sm)) (min 60 (h + sm)) m) := by
  intro k
  induction k with
  | zero =>
    intro n b u e1 e2 e3 e4 i
    cases n with
    | zero => omega
    | succ n =>
      show Sm (if (w32 (h + (U 62 4))) < u then some b else _) _
      rw [hs, w32_id (by omega) (by omega)]
      refine Sm.pos (by omega) (Sm.ok ?_)
      rw [show h + sm = u - 1 by omega]; exact i
  | succ k ih =>
    intro n b u e1 e2 e3 e4 i
    cases n with
    | zero => omega
    | succ n =>
      show Sm (if (w32 (h + (U 62 4))) < u then some b else if (f_Mo_isIn U u 0 60) = 0 then f_Mo_restOf_3 n U s h b (w32 (u + 1)) else if 0 ≤ (w32 ((w32 (61 * (w32 (s + 1)))) + u)) ∧ (w32 ((w32 (61 * (w32 (s + 1)))) + u)) < (732 : Int) then if (U 67 ((w32 ((w32 (61 * (w32 (s + 1)))) + u)).toNat)) < b then if 0 ≤ (w32 ((w32 (61 * (w32 (s + 1)))) + u)) ∧ (w32 ((w32 (61 * (w32 (s + 1)))) + u)) < (732 : Int) then f_Mo_restOf_3 n U s h (U 67 ((w32 ((w32 (61 * (w32 (s + 1)))) + u)).toNat)) (w32 (u + 1)) else none else f_Mo_restOf_3 n U s h b (w32 (u + 1)) else none) _
      rw [hs, w32_id (x := h + sm) (by omega) (by omega), w32_id (x := u + 1) (by omega) (by omega)]
      refine Sm.ite (fun g => Sm.ok ?_) (fun g => Sm.ite (fun g2 => ?_) (fun g2 => ?_))
      · rw [show h + sm = u - 1 by omega]; exact i
      · rw [isIn_0] at g2
        refine ih n b (u + 1) (by omega) (by omega) (by omega) (by omega) ?_
        obtain ⟨i1, i2, i3⟩ := i
        refine ⟨i1, fun v v1 v2 => i2 v v1 (by clear i3; omega), ?_⟩
        rcases i3 with i3 | ⟨v, v1, v2, v3⟩
        · exact Or.inl i3
        · exact Or.inr ⟨v, v1, by omega, v3⟩
      · rw [isIn_0] at g2
        rw [w32_id (x := s + 1) (by omega) (by omega), w32_id (x := 61 * (s + 1)) (by omega) (by omega), w32_id (x := 61 * (s + 1) + u) (by omega) (by omega)]
        have st := IsMin.step (f := Tm U (s + 1)) (lo := max 0 (h - sm)) (u := u) (m := b) (by rw [show u - 1 = min 60 (u - 1) by omega]; exact i) (by omega)
        have eu : min 60 (u + 1 - 1) = u := by omega
        refine Sm.pos (by omega) (Sm.ite (fun g3 => Sm.pos (by omega) ?_) (fun g3 => ?_))
        · refine ih n _ (u + 1) (by omega) (by omega) (by omega) (by omega) ?_
          rw [eu]
          have : Tm U (s + 1) u < b := g3
          rw [if_pos this] at st
          exact st
        · refine ih n _ (u + 1) (by omega) (by omega) (by omega) (by omega) ?_
          rw [eu]
          have : ¬ Tm U (s + 1) u < b := g3
          rw [if_neg this] at st
          exact st
theorem rest_m {V U : VV} (r : RS V) (q : SRoad V U) {s h : Int} (h0 : 0 ≤ s) (h1 : s < V 1 8) (a0 : 0 ≤ h) (a1 : h ≤ 60) : Sm (f_Mo_restOf U s h) (fun m => if s + 1 < V 1 8 then IsMin (Tm U (s + 1)) (max 0 (h - V 1 11)) (min 60 (h + V 1 11)) m else m = 0) := by
  obtain ⟨r1, r2, r3, r4, r5, r6, r7, -, -⟩ := id r
  obtain ⟨q1, q2, q3, q4, q5, q6, q7, q8, -⟩ := q
  unfold f_Mo_restOf
  rw [q1, w32_id (x := V 1 8 - 1) (by omega) (by omega)]
  refine Sm.ite (fun g => Sm.ok ?_) (fun g => ?_)
  · rw [if_neg (by omega)]
  · rw [q4, w32_id (by omega) (by omega)]
    exact (rest3 q4 h0 (by omega) a0 a1 r4.1 r4.2 20 FU _ _ (by omega) (by decide) (by omega) (by omega) ⟨by omega, fun u u1 u2 => by omega, Or.inl rfl⟩).imp (fun m hm => by rw [if_pos (by omega)]; exact hm)
abbrev TPM (V U : VV) (s h : Int) : Prop := TP (V 1 8) (V 1 12) (V 1 11) (oldC V) (ownC V) (Tm U) s h
def jM (i k : Nat) : Bool := (Nat.beq i 62 && (Nat.beq k 13 || Nat.beq k 14)) || (Nat.ble 67 i && Nat.ble i 70)
/-- cells that hasJobs may change -/
def MJ (U0 U : VV) : Prop := ∀ i k, jM i k = false → U i k = U0 i k
theorem MJ.rf {U : VV} : MJ U U := fun _ _ _ => rfl
theorem MJ.tr {U0 U U2 : VV} (h : MJ U0 U) (h2 : MJ U U2) : MJ U0 U2 := fun i k e => (h2 i k e).trans (h i k e)
theorem MJ.up {U0 U : VV} {a b : Nat} {x : Int} (hk : jM a b = true) (h : MJ U0 U) : MJ U0 (up U a b x) := by
  intro i k e
  rw [up_ap]
  split
  · split
    · next h1 h2 => subst h1; subst h2; rw [e] at hk; cases hk
    · exact h i k e
  · exact h i k e
theorem MJ.mf {U U2 : VV} (h : MJ U U2) : MF U U2 := by
  intro i k e
  refine h i k ?_
  by_cases e62 : i = 62
  · subst e62
    by_cases a : k = 13
    · subst a; cases e
    · by_cases b : k = 14
      · subst b; cases e
      · have h1 : Nat.beq k 13 = false := by cases q : Nat.beq k 13; rfl; exact absurd (Nat.eq_of_beq_eq_true q) a
        have h2 : Nat.beq k 14 = false := by cases q : Nat.beq k 14; rfl; exact absurd (Nat.eq_of_beq_eq_true q) b
        unfold jM
        rw [h1, h2]
        rfl
  · have h1 : Nat.beq i 62 = false := by cases q : Nat.beq i 62; rfl; exact absurd (Nat.eq_of_beq_eq_true q) e62
    unfold jM
    rw [h1]
    cases q : (Nat.ble 67 i && Nat.ble i 70)
    · rfl
    · exfalso
      have : 67 ≤ i ∧ i ≤ 70 := by
        cases q1 : Nat.ble 67 i
        · rw [q1] at q; cases q
        · cases q2 : Nat.ble i 70
          · rw [q1, q2] at q; cases q
          · exact ⟨Nat.le_of_ble_eq_true q1, Nat.le_of_ble_eq_true q2⟩
      have : i = 67 ∨ i = 68 ∨ i = 69 ∨ i = 70 := by omega
      rcases this with rfl | rfl | rfl | rfl <;> cases e
theorem fi5 {V : VV} (r : RS V) {U0 : VV} (q0 : SRoad V U0) {s : Int} (h0 : 0 ≤ s) (h1 : s < V 1 8) {Q : VV × Int → Prop} {k3 : VV → Int → Option (VV × Int)} (K : ∀ U, MJ U0 U → TPM V U (s - 1) 0 → Sm (k3 U (s - 1)) Q) : ∀ (k n : Nat) (U : VV) (h : Int), 61 - h ≤ (k : Int) → k < n → 0 ≤ h → h ≤ 61 → MJ U0 U → TPM V U s h → Sm (f_Mo_find_5 k3 n U s h) Q := by
  have base : ∀ (U : VV) (h : Int), h = 61 → MJ U0 U → TPM V U s h → Sm (k3 U (w32 (s + -1))) Q := by
    intro U h e b t
    obtain ⟨r1, -⟩ := id r
    rw [w32_id (by omega) (by omega), show s + -1 = s - 1 by omega]
    refine K U b (fun s2 h2 a1 a2 a3 a4 a5 => ?_)
    subst e
    exact t s2 h2 a1 a2 a3 a4 (by omega)
  intro k
  induction k with
  | zero =>
    intro n U h e1 e2 e3 e4 b t
    cases n with
    | zero => omega
    | succ n =>
      show Sm (if h < 61 then _ else k3 U (w32 (s + -1))) _
      exact Sm.neg (by omega) (base U h (by omega) b t)
  | succ k ih =>
    intro n U h e1 e2 e3 e4 b t
    cases n with
    | zero => omega
    | succ n =>
      show Sm (if h < 61 then Option.bind (f_Mo_costOf U s h) (fun q2 => Option.bind (f_Mo_restOf U s h) (fun q3 => if 0 ≤ (w32 ((w32 (61 * s)) + h)) ∧ (w32 ((w32 (61 * s)) + h)) < (732 : Int) then f_Mo_find_5 k3 n (up U 67 ((w32 ((w32 (61 * s)) + h)).toNat) (if 1000000 < (w32 (q2 + q3)) then 1000000 else w32 (q2 + q3) : Int)) s (w32 (h + 1)) else none)) else k3 U (w32 (s + -1))) _
      refine Sm.ite (fun g => ?_) (fun g => base U h (by omega) b t)
      have q := q0.mf b.mf
      obtain ⟨r1, -⟩ := id r
      have ro := r.own h0 h1 e3 (by omega)
      rw [cost_m r q h0 h1 e3 (by omega)]
      refine Sm.bind (Sm.ok (P := fun c => c = if h < oldC V s - V 1 12 then 1000000 else ownC V s h) rfl) (fun q2 _ hq2 => ?_)
      refine Sm.bind (P := fun m => if s + 1 < V 1 8 then IsMin (Tm U (s + 1)) (max 0 (h - V 1 11)) (min 60 (h + V 1 11)) m else m = 0) (rest_m r q h0 h1 e3 (by omega)) (fun q3 _ hq => ?_)
      -- what the rest may be
      have hq0 : 0 ≤ q3 ∧ q3 ≤ 1000000 ∧ (s + 1 < V 1 8 → q3 < 1000000 → q3 ≤ 6000) := by
        by_cases hs : s + 1 < V 1 8
        · rw [if_pos hs] at hq
          obtain ⟨i1, i2, i3⟩ := hq
          rcases i3 with i3 | ⟨u, u1, u2, u3⟩
          · omega
          · have c1 := (t (s + 1) u (by omega) hs (by omega) (by omega) (by omega)).1
            have c2 := ((t.fact r.ok (by omega) hs (by omega)).2 u (by omega) (by omega)).2
            omega
        · rw [if_neg hs] at hq; omega
      have hc : ∀ c : Int, c = (if h < oldC V s - V 1 12 then 1000000 else ownC V s h) → w32 (c + q3) = c + q3 := fun c e => w32_id (by split at e <;> omega) (by split at e <;> omega)
      rw [hc _ hq2, w32_id (x := 61 * s) (by omega) (by omega), w32_id (x := 61 * s + h) (by omega) (by omega), w32_id (x := h + 1) (by omega) (by omega)]
      refine Sm.pos (by omega) ?_
      refine ih n _ (h + 1) (by omega) (by omega) (by omega) (by omega) (b.up rfl) ?_
      intro s2 h2 a1 a2 a3 a4 a5
      by_cases e : s2 = s ∧ h2 = h
      · obtain ⟨rfl, rfl⟩ := e
        unfold CellOK
        rw [Tm_up h0 (by omega) (by omega) h0 (by omega) (by omega), if_pos ⟨rfl, rfl⟩, hq2]
        refine ⟨by split <;> split <;> omega, if s2 + 1 < V 1 8 then q3 else 0, fun hs => ?_, ?_⟩
        · rw [if_pos hs] at hq ⊢
          obtain ⟨d1, d2, d3⟩ := hq
          refine ⟨d1, fun u u1 u2 => ?_, ?_⟩
          · rw [Tm_up h0 (by omega) (by omega) (by omega) (by omega) (by omega), if_neg (by omega)]; exact d2 u u1 u2
          · rcases d3 with d3 | ⟨u, u1, u2, u3⟩
            · exact Or.inl d3
            · exact Or.inr ⟨u, u1, u2, by rw [Tm_up h0 (by omega) (by omega) (by omega) (by omega) (by omega), if_neg (by omega)]; exact u3⟩
        · by_cases g1 : h2 < oldC V s2 - V 1 12
          · rw [if_pos g1, if_pos g1]; split <;> omega
          · rw [if_neg g1, if_neg g1]
            by_cases hs : s2 + 1 < V 1 8
            · rw [if_pos hs, if_pos hs]
              by_cases g2 : q3 = 1000000
              · rw [if_pos g2]; split <;> omega
              · have := hq0.2.2 hs (by omega)
                rw [if_neg g2]; split <;> omega
            · rw [if_neg hs] at hq ⊢; subst hq; split <;> omega
      · refine (t s2 h2 a1 a2 a3 a4 (by omega)).congr ?_ ?_
        · rw [Tm_up h0 (by omega) (by omega) a1 a3 a4, if_neg e]
        · intro hs u u1 u2
          rw [Tm_up h0 (by omega) (by omega) (by omega) u1 u2, if_neg (by omega)]
