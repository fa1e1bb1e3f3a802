/-! the jobs, as the class measures them -/
def depC (V : VV) (j : Int) : Int := V 6 (j / V 1 8).toNat + (if j / V 1 8 = 0 then max 0 (V 4 (j % V 1 8).toNat - V 3 (j % V 1 8).toNat) else 0)
def tonC (V : VV) (j : Int) : Int := (V 2 (j % V 1 8).toNat * V 1 10 * depC V j * 24 + 99999) / 100000
def nJ (V : VV) : Int := V 1 8 * V 1 9
theorem RS.nJb {V : VV} (r : RS V) : 0 ≤ nJ V ∧ nJ V ≤ 36 := by
  obtain ⟨r1, r2, -⟩ := r
  exact mul_bd (A := 12) (B := 3) (by omega) (by omega) (by omega) (by omega)
theorem RS.jobs {V : VV} (r : RS V) : f_Road_jobs V = nJ V := by
  have := r.nJb
  unfold f_Road_jobs
  exact w32_id (by unfold nJ at this; omega) (by unfold nJ at this; omega)
theorem RS.split {V : VV} (r : RS V) {j : Int} (h0 : 0 ≤ j) (h1 : j < nJ V) : 0 < V 1 8 ∧ 0 ≤ j / V 1 8 ∧ j / V 1 8 < V 1 9 ∧ 0 ≤ j % V 1 8 ∧ j % V 1 8 < V 1 8 := by
  obtain ⟨r1, r2, -⟩ := r
  unfold nJ at h1
  have hn : 0 < V 1 8 := by
    rcases Int.lt_or_eq_of_le r1.1 with h | h
    · exact h
    · rw [← h, Int.zero_mul] at h1; omega
  refine ⟨hn, Int.ediv_nonneg h0 r1.1, Int.ediv_lt_of_lt_mul hn (by rw [Int.mul_comm]; exact h1), Int.emod_nonneg _ (by omega), Int.emod_lt_of_pos _ hn⟩
theorem RS.sec {V : VV} (r : RS V) {j : Int} (h0 : 0 ≤ j) (h1 : j < nJ V) : f_Road_sectionOf V j = some (j % V 1 8) := by
  have := r.split h0 h1
  unfold f_Road_sectionOf
  rw [if_neg (by omega), if_neg (by omega), Int.tmod_eq_emod_of_nonneg h0]
theorem RS.lay {V : VV} (r : RS V) {j : Int} (h0 : 0 ≤ j) (h1 : j < nJ V) : f_Road_layerOf V j = j / V 1 8 := by
  have := r.split h0 h1
  obtain ⟨r1, r2, -⟩ := r
  unfold f_Road_layerOf cutV
  rw [if_neg (by omega), Int.tdiv_eq_ediv_of_nonneg h0, w32_id (by omega) (by omega)]
/-- the levels lie where levels may lie -/
def LB (V : VV) : Prop := ∀ s : Nat, (s : Int) < V 1 8 → 0 ≤ V 4 s ∧ V 4 s ≤ 60
theorem dep_bd {V : VV} (r : RS V) (lb : LB V) {j : Int} (h0 : 0 ≤ j) (h1 : j < nJ V) : 20 ≤ depC V j ∧ depC V j ≤ 260 := by
  obtain ⟨s1, s2, s3, s4, s5⟩ := r.split h0 h1
  obtain ⟨-, -, -, -, -, -, -, r8, r9⟩ := id r
  have a := r9 (j / V 1 8).toNat (by omega)
  have b := lb (j % V 1 8).toNat (by omega)
  have c := r8 (j % V 1 8).toNat (by omega)
  unfold depC
  split <;> omega
theorem ton_bd {V : VV} (r : RS V) (lb : LB V) {j : Int} (h0 : 0 ≤ j) (h1 : j < nJ V) : (200 ≤ V 2 (j % V 1 8).toNat * V 1 10 ∧ V 2 (j % V 1 8).toNat * V 1 10 ≤ 60000) ∧ (4000 ≤ V 2 (j % V 1 8).toNat * V 1 10 * depC V j ∧ V 2 (j % V 1 8).toNat * V 1 10 * depC V j ≤ 15600000) ∧ 1 ≤ tonC V j ∧ tonC V j ≤ 3744 := by
  obtain ⟨s1, s2, s3, s4, s5⟩ := r.split h0 h1
  have d := dep_bd r lb h0 h1
  obtain ⟨-, -, r3, -, -, -, -, r8, r9⟩ := id r
  have c := r8 (j % V 1 8).toNat (by omega)
  have m1 := mul_bd (a := V 2 (j % V 1 8).toNat) (b := V 1 10) (A := 500) (B := 120) (by omega) (by omega) (by omega) (by omega)
  have m2 : 10 * 20 ≤ V 2 (j % V 1 8).toNat * V 1 10 := Int.mul_le_mul c.1.1 r3.1 (by omega) (by omega)
  have m3 := mul_bd (a := V 2 (j % V 1 8).toNat * V 1 10) (b := depC V j) (A := 60000) (B := 260) (by omega) (by omega) (by omega) (by omega)
  have m4 : 200 * 20 ≤ V 2 (j % V 1 8).toNat * V 1 10 * depC V j := Int.mul_le_mul (by omega) d.1 (by omega) (by omega)
  unfold tonC
  generalize V 2 (j % V 1 8).toNat * V 1 10 * depC V j = z at *
  refine ⟨by omega, by omega, by omega, by omega⟩
def But89 (V0 V : VV) : Prop := ∀ i, i ≠ 8 → i ≠ 9 → V i = V0 i
theorem mea {V0 : VV} (r : RS V0) (lb : LB V0) : ∀ (k n : Nat) (V : VV) (j : Int), nJ V0 - j ≤ (k : Int) → k < n → 0 ≤ j → j ≤ nJ V0 → But89 V0 V → (∀ i : Nat, (i : Int) < j → V 8 i = depC V0 i ∧ V 9 i = tonC V0 i) → Sm (f_Road_measureJobs_1 n V j) (fun V => But89 V0 V ∧ ∀ i : Nat, (i : Int) < nJ V0 → V 8 i = depC V0 i ∧ V 9 i = tonC V0 i) := by
  intro k
  induction k with
  | zero =>
    intro n V j e1 e2 e3 e4 b l
    cases n with
    | zero => omega
    | succ n =>
      show Sm (if j < f_Road_jobs V then _ else some V) _
      have hj : f_Road_jobs V = nJ V0 := by unfold f_Road_jobs; rw [b 1 (by omega) (by omega)]; exact r.jobs
      rw [hj]
      exact Sm.neg (by omega) (Sm.ok ⟨b, fun i hi => l i (by omega)⟩)
  | succ k ih =>
    intro n V j e1 e2 e3 e4 b l
    cases n with
    | zero => omega
    | succ n =>
      show Sm (if j < f_Road_jobs V then Option.bind (f_Road_sectionOf V j) (fun q3 => lt_ (setV V 8 36 j (w32 ((atV V 6 3 (f_Road_layerOf V j)) + (if (f_Road_layerOf V j) = 0 then max 0 (w32 ((atV V 4 12 q3) - (atV V 3 12 q3))) else 0 : Int)))) (fun q7 => lt_ (setV q7 9 36 j (w32 (Int.tdiv (w32 ((w32 ((w32 ((w32 ((atV q7 2 12 q3) * (q7 1 10))) * (w32 ((atV V 6 3 (f_Road_layerOf V j)) + (if (f_Road_layerOf V j) = 0 then max 0 (w32 ((atV V 4 12 q3) - (atV V 3 12 q3))) else 0 : Int))))) * 24)) + 99999)) 100000))) (fun q10 => f_Road_measureJobs_1 n q10 (w32 (j + 1))))) else some V) _
      have hj : f_Road_jobs V = nJ V0 := by unfold f_Road_jobs; rw [b 1 (by omega) (by omega)]; exact r.jobs
      have hnJ := r.nJb
      rw [hj]
      refine Sm.ite (fun g => ?_) (fun g => Sm.ok ⟨b, fun i hi => l i (by omega)⟩)
      obtain ⟨s1, s2, s3, s4, s5⟩ := r.split e3 g
      obtain ⟨r1, r2, r3, -, -, -, -, r8, r9⟩ := id r
      have hs : f_Road_sectionOf V j = some (j % V0 1 8) := by
        have := r.sec e3 g
        unfold f_Road_sectionOf at this ⊢
        rw [b 1 (by omega) (by omega)]; exact this
      have hl : f_Road_layerOf V j = j / V0 1 8 := by
        have := r.lay e3 g
        unfold f_Road_layerOf at this ⊢
        rw [b 1 (by omega) (by omega)]; exact this
      rw [hs, hl]
      show Sm (lt_ (setV V 8 36 j (w32 ((atV V 6 3 (j / V0 1 8)) + (if (j / V0 1 8) = 0 then max 0 (w32 ((atV V 4 12 (j % V0 1 8)) - (atV V 3 12 (j % V0 1 8)))) else 0 : Int)))) (fun q7 => lt_ (setV q7 9 36 j (w32 (Int.tdiv (w32 ((w32 ((w32 ((w32 ((atV q7 2 12 (j % V0 1 8)) * (q7 1 10))) * (w32 ((atV V 6 3 (j / V0 1 8)) + (if (j / V0 1 8) = 0 then max 0 (w32 ((atV V 4 12 (j % V0 1 8)) - (atV V 3 12 (j % V0 1 8)))) else 0 : Int))))) * 24)) + 99999)) 100000))) (fun q10 => f_Road_measureJobs_1 n q10 (w32 (j + 1))))) _
      have b3 := r8 (j % V0 1 8).toNat (by omega)
      have b4 := lb (j % V0 1 8).toNat (by omega)
      have b6 := r9 (j / V0 1 8).toNat (by omega)
      have d := dep_bd r lb e3 g
      have hd : w32 ((atV V 6 3 (j / V0 1 8)) + (if (j / V0 1 8) = 0 then max 0 (w32 ((atV V 4 12 (j % V0 1 8)) - (atV V 3 12 (j % V0 1 8)))) else 0 : Int)) = depC V0 j := by
        rw [atV_in (V := V) (id := 6) (by omega) (by omega), atV_in (V := V) (id := 4) (by omega) (by omega), atV_in (V := V) (id := 3) (by omega) (by omega), b 6 (by omega) (by omega), b 4 (by omega) (by omega), b 3 (by omega) (by omega), w32_id (x := V0 4 _ - V0 3 _) (by omega) (by omega)]
        exact w32_id (by unfold depC at d; omega) (by unfold depC at d; omega)
      rw [hd]
      obtain ⟨m1, m2, m3⟩ := ton_bd r lb e3 g
      refine Sm.lt (fun q7 e7 => Sm.lt (fun q10 e10 => ?_))
      have h7 : ∀ i, i ≠ 8 → q7 i = V i := fun i hi => by rw [e7, setV_in e3 (by omega), up_na V _ _ hi]
      have ht : w32 (Int.tdiv (w32 ((w32 ((w32 ((w32 ((atV q7 2 12 (j % V0 1 8)) * (q7 1 10))) * (depC V0 j))) * 24)) + 99999)) 100000) = tonC V0 j := by
        rw [atV_in (V := q7) (id := 2) (by omega) (by omega), h7 2 (by omega), h7 1 (by omega), b 2 (by omega) (by omega), b 1 (by omega) (by omega), w32_id (x := V0 2 _ * V0 1 10) (by omega) (by omega), w32_id (x := V0 2 _ * V0 1 10 * depC V0 j) (by omega) (by omega), w32_id (x := V0 2 _ * V0 1 10 * depC V0 j * 24) (by omega) (by omega), w32_id (x := V0 2 _ * V0 1 10 * depC V0 j * 24 + 99999) (by omega) (by omega), Int.tdiv_eq_ediv_of_nonneg (by omega)]
        exact w32_id (by unfold tonC at m3; omega) (by unfold tonC at m3; omega)
      rw [ht] at e10
      rw [w32_id (x := j + 1) (by omega) (by omega)]
      have h10 : ∀ i, i ≠ 9 → q10 i = q7 i := fun i hi => by rw [e10, setV_in e3 (by omega), up_na q7 _ _ hi]
      refine ih n q10 (j + 1) (by omega) (by omega) (by omega) (by omega) (fun i h8 h9 => by rw [h10 i h9, h7 i h8]; exact b i h8 h9) (fun i hi => ?_)
      have x8 : q10 8 i = if (i : Int) = j then depC V0 j else V 8 i := by
        rw [h10 8 (by omega), e7, setV_in e3 (by omega), up_ap, if_pos rfl]
        by_cases e : (i : Int) = j
        · rw [if_pos e, if_pos (by omega)]
        · rw [if_neg e, if_neg (by omega)]
      have x9 : q10 9 i = if (i : Int) = j then tonC V0 j else V 9 i := by
        rw [e10, setV_in e3 (by omega), up_ap, if_pos rfl]
        by_cases e : (i : Int) = j
        · rw [if_pos e, if_pos (by omega)]
        · rw [if_neg e, if_neg (by omega), h7 9 (by omega)]
      rw [x8, x9]
      by_cases e : (i : Int) = j
      · rw [if_pos e, if_pos e, e]; exact ⟨rfl, rfl⟩
      · rw [if_neg e, if_neg e]; exact l i (by omega)
/-- what holds of the road between calls -/
def DR (V : VV) : Prop := RS V ∧ TPV V V (-1) 0 ∧ Lev (V 1 8) (V 1 11) (Tc V) (bC V) ∧ (V 1 15 = if V 1 8 = 0 then -1 else Tc V 0 (bC V 0)) ∧ ∀ i : Nat, (i : Int) < nJ V → V 8 i = depC V i ∧ V 9 i = tonC V i
theorem DR.lb {V : VV} (d : DR V) : LB V := by
  intro s hs
  obtain ⟨-, l1, l2, -⟩ := d.2.2.1 (s : Int) (by omega) hs
  exact ⟨l1, l2⟩
def FrR (V0 V : VV) : Prop := (∀ i, i ≠ 1 → i ≠ 4 → i ≠ 5 → i ≠ 8 → i ≠ 9 → V i = V0 i) ∧ ∀ k, k ≠ 15 → V 1 k = V0 1 k
theorem settle_ok {V : VV} (r : RS V) : Sm (f_Road_settle V) (fun W => DR W ∧ FrR V W) := by
  unfold f_Road_settle
  refine Sm.bind (weigh r) (fun V1 _ h1 => ?_)
  obtain ⟨b1, t1⟩ := h1
  have r1 := r.but b1 (by omega)
  have e1 : V1 1 = V 1 := b1 1 (by omega)
  have t1' : TPV V1 V1 (-1) 0 := by
    obtain ⟨o1, o2⟩ := OC.but b1
    show TP (V1 1 8) (V1 1 12) (V1 1 11) (oldC V1) (ownC V1) (Tc V1) (-1) 0
    rw [o1, o2, e1]; exact t1
  refine Sm.bind (choose_ r1 t1') (fun V2 _ h2 => ?_)
  obtain ⟨b2, l2, c2⟩ := h2
  have r2 := r1.butL b2
  have lb2 : LB V2 := by
    intro s hs
    rw [b2.2 8 (by omega)] at hs
    obtain ⟨-, x1, x2, -⟩ := l2 (s : Int) (by omega) hs
    exact ⟨x1, x2⟩
  have mm_ := mea r2 lb2 36 FU V2 0 (by have := r2.nJb; omega) (by decide) (by omega) r2.nJb.1 (fun _ _ _ => rfl) (fun i hi => by omega)
  refine Sm.bind (Sm.eq (b := f_Road_measureJobs_1 FU V2 0) rfl mm_) (fun V3 _ h3 => Sm.ok ?_)
  obtain ⟨b3, j3⟩ := h3
  have f1 : V3 1 = V2 1 := b3 1 (by omega) (by omega)
  have f2 : V3 2 = V2 2 := b3 2 (by omega) (by omega)
  have f3 : V3 3 = V2 3 := b3 3 (by omega) (by omega)
  have f4 : V3 4 = V2 4 := b3 4 (by omega) (by omega)
  have f5 : V3 5 = V2 5 := b3 5 (by omega) (by omega)
  have f6 : V3 6 = V2 6 := b3 6 (by omega) (by omega)
  have f7 : V3 7 = V2 7 := b3 7 (by omega) (by omega)
  have g5 : V2 5 = V1 5 := b2.1 5 (by omega) (by omega)
  have g3 : V2 3 = V1 3 := b2.1 3 (by omega) (by omega)
  have g8 := b2.2 8 (by omega)
  have g11 := b2.2 11 (by omega)
  have g12 := b2.2 12 (by omega)
  have g13 := b2.2 13 (by omega)
  have g14 := b2.2 14 (by omega)
  refine ⟨⟨?_, ?_, ?_, ?_, ?_⟩, fun i i1 i4 i5 i8 i9 => by rw [b3 i i8 i9, b2.1 i i4 i1, b1 i i5], fun k hk => by rw [f1, b2.2 k hk, e1]⟩
  · unfold RS; rw [f1, f2, f3, f6, f7]; exact r2
  · show TP (V3 1 8) (V3 1 12) (V3 1 11) (oldC V3) (ownC V3) (Tc V3) (-1) 0
    have a1 : oldC V3 = oldC V1 := by funext s; unfold oldC; rw [f3, g3]
    have a2 : ownC V3 = ownC V1 := by funext s h; unfold ownC; rw [a1, f1, g13, g14]
    have a3 : Tc V3 = Tc V1 := by funext s h; unfold Tc; rw [f5, g5]
    rw [a1, a2, a3, f1, g8, g11, g12]; exact t1'
  · have a3 : Tc V3 = Tc V1 := by funext s h; unfold Tc; rw [f5, g5]
    have a4 : bC V3 = bC V2 := by funext s; unfold bC; rw [f4]
    rw [a3, a4, f1, g8, g11]; exact l2
  · have a3 : Tc V3 = Tc V1 := by funext s h; unfold Tc; rw [f5, g5]
    have a4 : bC V3 = bC V2 := by funext s; unfold bC; rw [f4]
    rw [a3, a4, f1, c2, g8]
  · have a1 : nJ V3 = nJ V2 := by unfold nJ; rw [f1]
    have a2 : depC V3 = depC V2 := by funext j; unfold depC; rw [f1, f6, f4, f3]
    have a3 : tonC V3 = tonC V2 := by funext j; unfold tonC; rw [a2, f1, f2]
    rw [a1, a2, a3]; exact j3
theorem DR.congr {V W : VV} (d : DR V) (h : ∀ i, 1 ≤ i → i ≤ 9 → W i = V i) : DR W := by
  unfold DR TPV RS nJ depC tonC depC ownC oldC Tc bC at *
  rw [h 1 (by omega) (by omega), h 2 (by omega) (by omega), h 3 (by omega) (by omega), h 4 (by omega) (by omega), h 5 (by omega) (by omega), h 6 (by omega) (by omega), h 7 (by omega) (by omega), h 8 (by omega) (by omega), h 9 (by omega) (by omega)]
  exact d
