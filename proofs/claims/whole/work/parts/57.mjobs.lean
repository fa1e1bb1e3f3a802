/-! hasJobs -/
def sumT (V : VV) : Nat → Int
  | 0 => 0
  | k + 1 => sumT V k + V 9 k
theorem sumT_bd {V : VV} (d : DR V) : ∀ k : Nat, (k : Int) ≤ nJ V → 0 ≤ sumT V k ∧ sumT V k ≤ 3744 * (k : Int) := by
  intro k
  induction k with
  | zero => intro _; exact ⟨Int.le_refl _, by show (0 : Int) ≤ 3744 * ((0 : Nat) : Int); omega⟩
  | succ k ih =>
    intro h
    have h1 := ih (by omega)
    have h2 := (d.2.2.2.2 k (by omega)).2
    have h3 := (ton_bd d.1 d.lb (j := (k : Int)) (by omega) (by omega)).2.2
    show 0 ≤ sumT V k + V 9 k ∧ sumT V k + V 9 k ≤ _
    omega
theorem sumT_congr {V W : VV} (h : W 9 = V 9) (k : Nat) : sumT W k = sumT V k := by
  induction k with
  | zero => rfl
  | succ k ih => show sumT W k + W 9 k = sumT V k + V 9 k; rw [ih, h]
/-- the reference's jobs are the class's -/
def SJobs (V U : VV) : Prop := U 62 13 = nJ V ∧ (∀ s : Nat, (s : Int) < V 1 8 → U 68 s = V 4 s) ∧ ∀ j : Nat, (j : Int) < nJ V → U 69 j = V 8 j ∧ U 70 j = V 9 j
theorem hj5 {V : VV} (d : DR V) {U0 : VV} (q0 : SRoad V U0) : ∀ (k n : Nat) (U : VV) (j : Int), nJ V - j ≤ (k : Int) → k < n → 0 ≤ j → j ≤ nJ V → MJ U0 U → U 62 13 = nJ V → (∀ s : Nat, (s : Int) < V 1 8 → U 68 s = V 4 s) → (∀ i : Nat, (i : Int) < j → U 69 i = V 8 i ∧ U 70 i = V 9 i) → U 62 14 = sumT V j.toNat → Sm (f_Mo_hasJobs_5 n U j) (fun z => MJ U0 z.1 ∧ SJobs V z.1 ∧ z.1 62 14 = sumT V (nJ V).toNat ∧ z.2 = if 0 < nJ V then 1 else 0) := by
  intro k
  induction k with
  | zero =>
    intro n U j e1 e2 e3 e4 b c1 c2 c3 c4
    cases n with
    | zero => omega
    | succ n =>
      show Sm (if j < (U 62 13) then _ else some (U, (if 0 < (U 62 13) then 1 else 0 : Int))) _
      have ej : j = nJ V := by omega
      subst ej
      rw [c1]
      exact Sm.neg (by omega) (Sm.ok ⟨b, ⟨c1, c2, c3⟩, c4, rfl⟩)
  | succ k ih =>
    intro n U j e1 e2 e3 e4 b c1 c2 c3 c4
    cases n with
    | zero => omega
    | succ n =>
      have q := q0.mf b.mf
      show Sm (if j < (U 62 13) then if (U 62 0) = 0 then none else if (U 62 0) = 0 then none else if 0 ≤ (w32 (Int.tdiv j (U 62 0))) ∧ (w32 (Int.tdiv j (U 62 0))) < (3 : Int) then if j < (U 62 0) then if 0 ≤ (Int.tmod j (U 62 0)) ∧ (Int.tmod j (U 62 0)) < (12 : Int) then if 0 ≤ (Int.tmod j (U 62 0)) ∧ (Int.tmod j (U 62 0)) < (12 : Int) then if (U 64 ((Int.tmod j (U 62 0)).toNat)) < (U 68 ((Int.tmod j (U 62 0)).toNat)) then if 0 ≤ (Int.tmod j (U 62 0)) ∧ (Int.tmod j (U 62 0)) < (12 : Int) then if 0 ≤ (Int.tmod j (U 62 0)) ∧ (Int.tmod j (U 62 0)) < (12 : Int) then f_Mo_hasJobs_17 (f_Mo_hasJobs_5 n) U j (Int.tmod j (U 62 0)) j (U 65 ((w32 (Int.tdiv j (U 62 0))).toNat)) (w32 ((U 68 ((Int.tmod j (U 62 0)).toNat)) - (U 64 ((Int.tmod j (U 62 0)).toNat)))) else none else none else f_Mo_hasJobs_17 (f_Mo_hasJobs_5 n) U j (Int.tmod j (U 62 0)) j (U 65 ((w32 (Int.tdiv j (U 62 0))).toNat)) 0 else none else none else f_Mo_hasJobs_17 (f_Mo_hasJobs_5 n) U j (Int.tmod j (U 62 0)) j (U 65 ((w32 (Int.tdiv j (U 62 0))).toNat)) 0 else none else some (U, (if 0 < (U 62 13) then 1 else 0 : Int))) _
      rw [c1]
      refine Sm.ite (fun g => ?_) (fun g => ?_)
      · have hnJ := d.1.nJb
        obtain ⟨s1, s2, s3, s4, s5⟩ := d.1.split e3 g
        obtain ⟨r1, r2, r3, -, -, -, -, r8, r9⟩ := id d.1
        have b3 := r8 (j % V 1 8).toNat (by omega)
        have b4 := d.lb (j % V 1 8).toNat (by omega)
        have b6 := r9 (j / V 1 8).toNat (by omega)
        have dd := dep_bd d.1 d.lb e3 g
        obtain ⟨m1, m2, m3⟩ := ton_bd d.1 d.lb e3 g
        have q8 := q.2.2.2.2.2.2.2.1 (j % V 1 8).toNat (by omega)
        have q9 := q.2.2.2.2.2.2.2.2 (j / V 1 8).toNat (by omega)
        have q68 := c2 (j % V 1 8).toNat (by omega)
        have d8 := d.2.2.2.2 j.toNat (by omega)
        rw [show ((j.toNat : Nat) : Int) = j by omega] at d8
        have sm := sumT_bd d j.toNat (by omega)
        have last : ∀ t3 : Int, V 6 (j / V 1 8).toNat + t3 = depC V j → Sm (f_Mo_hasJobs_17 (f_Mo_hasJobs_5 n) U j (j % V 1 8) j (V 6 (j / V 1 8).toNat) t3) (fun z => MJ U0 z.1 ∧ SJobs V z.1 ∧ z.1 62 14 = sumT V (nJ V).toNat ∧ z.2 = if 0 < nJ V then 1 else 0) := by
          intro t3 ht
          unfold f_Mo_hasJobs_17
          rw [ht, w32_id (x := depC V j) (by omega) (by omega), up_eq, q8.1, q.2.2.1, w32_id (x := V 2 _ * V 1 10) (by omega) (by omega), w32_id (x := V 2 _ * V 1 10 * depC V j) (by omega) (by omega), w32_id (x := V 2 _ * V 1 10 * depC V j * 24) (by omega) (by omega), w32_id (x := V 2 _ * V 1 10 * depC V j * 24 + 99999) (by omega) (by omega), Int.tdiv_eq_ediv_of_nonneg (by omega)]
          rw [show (V 2 (j % V 1 8).toNat * V 1 10 * depC V j * 24 + 99999) / 100000 = tonC V j from rfl, w32_id (x := tonC V j) (by omega) (by omega), up_eq, c4, w32_id (x := sumT V j.toNat + tonC V j) (by omega) (by omega), w32_id (x := j + 1) (by omega) (by omega)]
          refine Sm.pos (by omega) (Sm.pos (by omega) (Sm.pos (by omega) (Sm.pos (by omega) (Sm.pos (by omega) ?_))))
          refine ih n _ (j + 1) (by omega) (by omega) (by omega) (by omega) (((b.up rfl).up rfl).up rfl) ?_ ?_ ?_ ?_
          · rw [up_nf _ _ (by omega), up_na _ _ _ (by omega), up_na _ _ _ (by omega)]; exact c1
          · intro s hs
            rw [up_na _ _ _ (by omega), up_na _ _ _ (by omega), up_na _ _ _ (by omega)]; exact c2 s hs
          · intro i hi
            show (if i = j.toNat then depC V j else U 69 i) = _ ∧ (if i = j.toNat then tonC V j else U 70 i) = _
            by_cases e : i = j.toNat
            · rw [if_pos e, if_pos e, e]; exact ⟨d8.1.symm, d8.2.symm⟩
            · rw [if_neg e, if_neg e]; exact c3 i (by omega)
          · rw [up_eq, show (j + 1).toNat = j.toNat + 1 by omega]
            show _ = sumT V j.toNat + V 9 j.toNat
            rw [d8.2]
        rw [q.1, Int.tdiv_eq_ediv_of_nonneg e3, Int.tmod_eq_emod_of_nonneg e3, w32_id (x := j / V 1 8) (by omega) (by omega), q8.2, q9.1, q68]
        refine Sm.neg (by omega) (Sm.neg (by omega) (Sm.pos (by omega) (Sm.ite (fun g2 => ?_) (fun g2 => ?_))))
        · have ed : j / V 1 8 = 0 := Int.ediv_eq_zero_of_lt e3 g2
          refine Sm.pos (by omega) (Sm.pos (by omega) (Sm.ite (fun g3 => Sm.pos (by omega) (Sm.pos (by omega) ?_)) (fun g3 => ?_)))
          · rw [w32_id (x := V 4 _ - V 3 _) (by omega) (by omega)]
            refine last _ ?_
            unfold depC
            rw [if_pos ed]; omega
          · refine last _ ?_
            unfold depC
            rw [if_pos ed]; omega
        · refine last _ ?_
          have ed : ¬ j / V 1 8 = 0 := by
            intro e
            have := Int.lt_ediv_add_one_mul_self j s1
            rw [e] at this; omega
          unfold depC
          rw [if_neg ed]
      · have ej : j = nJ V := by omega
        subst ej
        exact Sm.ok ⟨b, ⟨c1, c2, c3⟩, c4, rfl⟩
theorem hasJobs_mj {V U : VV} (d : DR V) (q : SRoad V U) : Sm (f_Mo_hasJobs U) (fun z => MJ U z.1 ∧ SJobs V z.1 ∧ z.1 62 14 = sumT V (nJ V).toNat ∧ z.2 = if 0 < nJ V then 1 else 0) := by
  have hnJ := d.1.nJb
  unfold f_Mo_hasJobs
  refine Sm.bind (find_mj d q) (fun z _ hz => ?_)
  obtain ⟨z1, z2, z3⟩ := hz
  have q' := q.mf z1.mf
  have hj : (if z.2 < 0 then 0 else w32 ((z.1 62 8) * (z.1 62 0)) : Int) = nJ V := by
    rw [z2, d.2.2.2.1, q'.1, q'.2.1]
    by_cases h0 : V 1 8 = 0
    · rw [if_pos h0, if_pos (by omega)]; unfold nJ; rw [h0, Int.zero_mul]
    · have l0 := d.2.2.1 0 (by omega) (by have := d.1.1.1; omega)
      have t0 := (d.2.1 0 (bC V 0) (by omega) (by have := d.1.1.1; omega) l0.2.1 l0.2.2.1 (by omega)).1
      rw [if_neg h0, if_neg (by omega), Int.mul_comm]
      exact w32_id (by unfold nJ at hnJ; omega) (by unfold nJ at hnJ; omega)
  rw [hj]
  refine hj5 d q 36 FU _ 0 (by omega) (by decide) (by omega) hnJ.1 ((z1.up rfl).up rfl) ?_ ?_ (fun i hi => by omega) ?_
  · rw [up_nf _ _ (by omega), up_eq]
  · intro s hs
    rw [up_na _ _ _ (by omega), up_na _ _ _ (by omega)]; exact z3 s hs
  · rw [up_eq]; rfl
theorem alT {V : VV} (d : DR V) (hn : 0 < nJ V) : ∀ (k n : Nat) (s j : Int), nJ V - j ≤ (k : Int) → k < n → 0 ≤ j → j ≤ nJ V → s = sumT V j.toNat → Sm (f_Road_allTonnes_1 n V s j) (fun z => z = sumT V (nJ V).toNat) := by
  have hc : V 1 15 ≠ -1 := by
    have hnJ := d.1.split (j := 0) (by omega) hn
    have l0 := d.2.2.1 0 (by omega) (by omega)
    have t0 := (d.2.1 0 (bC V 0) (by omega) (by omega) l0.2.1 l0.2.2.1 (by omega)).1
    rw [d.2.2.2.1, if_neg (by omega)]; omega
  intro k
  induction k with
  | zero =>
    intro n s j e1 e2 e3 e4 e5
    cases n with
    | zero => omega
    | succ n =>
      show Sm (if j < (f_Road_jobs V) then _ else some s) _
      rw [d.1.jobs]
      have ej : j = nJ V := by omega
      exact Sm.neg (by omega) (Sm.ok (by rw [e5, ej]))
  | succ k ih =>
    intro n s j e1 e2 e3 e4 e5
    cases n with
    | zero => omega
    | succ n =>
      show Sm (if j < (f_Road_jobs V) then if (V 1 15) = (-1) then some s else f_Road_allTonnes_1 n V (w32 (s + (atV V 9 36 j))) (w32 (j + 1)) else some s) _
      rw [d.1.jobs]
      have hnJ := d.1.nJb
      refine Sm.ite (fun g => Sm.neg hc ?_) (fun g => Sm.ok ?_)
      · have sm := sumT_bd d j.toNat (by omega)
        have d8 := d.2.2.2.2 j.toNat (by omega)
        rw [show ((j.toNat : Nat) : Int) = j by omega] at d8
        have m3 := (ton_bd d.1 d.lb e3 g).2.2
        rw [atV_in e3 (by omega), w32_id (x := j + 1) (by omega) (by omega), e5, w32_id (by omega) (by omega)]
        refine ih n _ (j + 1) (by omega) (by omega) (by omega) (by omega) ?_
        rw [show (j + 1).toNat = j.toNat + 1 by omega]; rfl
      · rw [e5, show j = nJ V by omega]
theorem allT_ok {V : VV} (d : DR V) : f_Road_allTonnes V = some (sumT V (nJ V).toNat) := by
  have hnJ := d.1.nJb
  by_cases hn : 0 < nJ V
  · obtain ⟨z, e, p⟩ := alT d hn 36 FU 0 0 (by omega) (by decide) (by omega) hnJ.1 rfl
    show f_Road_allTonnes_1 FU V 0 0 = _
    rw [e, p]
  · show f_Road_allTonnes_1 (39999 + 1) V 0 0 = _
    show (if 0 < (f_Road_jobs V) then _ else some 0) = _
    rw [d.1.jobs, if_neg hn, show nJ V = 0 by omega]
    rfl
theorem cost_neg {V : VV} (d : DR V) : V 1 15 = -1 ↔ V 1 8 = 0 := by
  rw [d.2.2.2.1]
  by_cases h0 : V 1 8 = 0
  · rw [if_pos h0]; exact ⟨fun _ => h0, fun _ => rfl⟩
  · have l0 := d.2.2.1 0 (by omega) (by have := d.1.1.1; omega)
    have t0 := (d.2.1 0 (bC V 0) (by omega) (by have := d.1.1.1; omega) l0.2.1 l0.2.2.1 (by omega)).1
    rw [if_neg h0]
    exact ⟨fun e => by omega, fun e => absurd e h0⟩
theorem hasJobs_ok {V U : VV} (d : DR V) (q : SRoad V U) : Sm (f_Mo_hasJobs U) (fun z => MF U z.1 ∧ SJobs V z.1 ∧ z.1 62 14 = sumT V (nJ V).toNat ∧ z.2 = if 0 < nJ V then 1 else 0) := (hasJobs_mj d q).imp (fun _ h => ⟨h.1.mf, h.2⟩)
