/-! how a run begins -/
def BegC (B : VV) : Prop := B 28 2 = 0 ∧ B 28 3 = 0 ∧ B 37 6 = 0 ∧ (∀ p : Nat, p < 3 → B 38 p = 0 ∧ B 39 p = -1 ∧ B 41 p = 0) ∧ (∀ k : Nat, k < 16 → B 42 k = 0) ∧ (∀ j : Nat, j < 36 → B 45 j = 0) ∧ (B 46 8 = 0 ∧ B 46 12 = 0 ∧ B 46 13 = 0 ∧ B 46 15 = 0) ∧ (B 47 0 = 0 ∧ B 47 3 = -1 ∧ B 47 4 = 0 ∧ B 47 5 = 0)
def BegM (U : VV) : Prop := (U 62 63 = 0 ∧ U 62 72 = 0 ∧ U 62 73 = 0 ∧ U 62 74 = 0 ∧ U 62 75 = 0 ∧ U 62 76 = 0 ∧ U 62 78 = -1 ∧ U 62 79 = 0 ∧ U 62 80 = 0) ∧ (∀ k : Nat, (k : Int) < U 62 22 → U 86 k = 0) ∧ (∀ p : Nat, (p : Int) < U 62 17 → U 91 p = 0 ∧ U 92 p = -1) ∧ ∀ j : Nat, (j : Int) < U 62 13 → U 94 j = 0 ∧ U 95 j = 0
theorem sm_zero {f : Nat → Int} : ∀ {n : Nat}, (∀ k, k < n → f k = 0) → sm f n = 0 := by
  intro n
  induction n with
  | zero => intro _; rfl
  | succ n ih =>
    intro h
    show sm f n + f n = 0
    rw [ih (fun k hk => h k (by omega)), h n (by omega)]
    rfl
theorem MR.init {V U : VV} {h : HP} (e : EN V U) (hh : HOK h) (b : BegC V) (m : BegM U) : MR V U h 0 V U := by
  obtain ⟨b1, b2, b3, b4, b5, b6, ⟨b7, b8, b9, b10⟩, b11, b12, b13, b14⟩ := b
  obtain ⟨⟨m1, m2, m3, m4, m5, m6, m7, m8, m9⟩, m10, m11, m12⟩ := m
  have r0 : R0 V U V h U := ⟨CFr.rf, MFr.rf, hh⟩
  obtain ⟨nN, nP, nw, np, -, -⟩ := e.nv r0
  obtain ⟨jb1, jb2, jb3, jb4, -, -, -⟩ := e.jobs r0
  obtain ⟨o1, o2, o3⟩ := hh.bd
  have s0 : sm (busy U) (U 62 22).toNat = 0 := sm_zero (fun k hk => by unfold busy; rw [if_pos (m10 k (by omega))])
  have p0 : ∀ j, sm (pend U j) (U 62 22).toNat = 0 := fun j => sm_zero (fun k hk => by unfold pend; rw [if_neg (fun z => z.1 (m10 k (by omega)))])
  refine ⟨r0, ⟨fun k hk => ?_, fun k hk z => absurd (m10 k hk) z, fun k hk => ?_, fun k k' hk hk' z => ?_, fun p hp => ?_, fun p hp => ?_, ?_⟩, ⟨?_, ?_, ?_, ?_⟩, ⟨?_, ?_, ?_⟩, by omega, by omega, fun l hl => absurd hl (by omega)⟩
  · rw [b5 k (by omega), m10 k hk]; omega
  · have := m10 k hk
    exact ⟨fun z => by omega, fun z => by omega⟩
  · have := m10 k hk
    omega
  · obtain ⟨x1, x2, -⟩ := b4 p (by omega)
    obtain ⟨y1, y2⟩ := m11 p hp
    rw [x1, x2, y1, y2]
    exact ⟨rfl, by omega, rfl, Or.inl rfl⟩
  · rw [(b4 p (by omega)).2.2]
    exact (sm_zero (fun k hk => by unfold cntS; rw [m10 k (by omega), if_neg (by omega)])).symm
  · refine ⟨fun _ => 0, (sm_zero (fun _ _ => rfl)).trans m2.symm, fun k hk => ?_⟩
    have := m10 k hk
    dsimp only
    exact ⟨by omega, fun _ => by omega, fun z => by omega, fun z => by omega, fun z => by omega, fun z => by omega, fun z => by omega⟩
  · exact ⟨by rw [b2, m2], by omega, fun l hl => by omega⟩
  · unfold gLO
    rw [b1, m2, m3, m5, m8, s0]
    exact ⟨by omega, by omega, by omega, fun i hi => by omega, fun l hl => by omega, rfl, by omega⟩
  · unfold gJO
    rw [b3, m4, m5]
    refine ⟨by omega, fun j hj => by omega, fun j hj => ?_⟩
    obtain ⟨y1, y2⟩ := m12 j hj
    have := (e.ton r0 hj).2.2.1
    rw [b6 j (by omega), y1, y2, p0]
    exact ⟨rfl, by split <;> omega, by omega⟩
  · unfold gJL
    rw [b7, b8, b9, b10, m4, m5]
    refine ⟨rfl, by omega, fun j hj => ?_, by omega, fun _ => ?_, rfl, by omega, fun z => by omega, by rw [if_neg (by omega)]⟩
    · rw [(m12 j hj).2, if_neg (by omega)]
      split <;> rfl
    · have := (e.ton r0 (j := 0) (by omega)).2.2.1
      rw [show (0 : Int).toNat = 0 from rfl]; omega
  · unfold gSU
    rw [b9, b11, b12, b13, b14, m3, m4, m6, m7, m8, m9]
    exact ⟨rfl, by omega, rfl, by omega, rfl, rfl, by omega, by omega, fun z => by omega⟩
  · unfold gCA
    rw [b9, m4, m5]
    exact ⟨fun j hj => by omega, fun z => absurd rfl z, fun z => by omega⟩
  · intro j hj; omega
/-- the class begins -/
def begV (V : VV) (w p n : Int) : VV := f_Haulage_begin (up (up (up (f_Paving_clear V) 46 9 w) 46 10 p) 46 11 n) w n
theorem fill_na {V : VV} {a n i : Nat} {x : Int} (h : i ≠ a) : fillV V a n x i = V i := by funext b; unfold fillV; rw [if_neg h]
theorem fill_in {V : VV} {a n k : Nat} {x : Int} (h : k < n) : fillV V a n x a k = x := by unfold fillV; rw [if_pos rfl, if_pos h]
theorem begV_eq (V : VV) (w p n : Int) : begV V w p n = fillV (fillV (fillV (fillV (fillV (fillV (fillV (fillV (up (up (up (up (up (up (up (up (fillV (up (fillV (up (up (up (up (up V 46 2 (w32 (V 46 2 + 1))) 46 8 0) 46 12 0) 46 13 0) 46 15 0) 47 6 0) 47 3 (-1)) 48 36 (-1)) 46 9 w) 46 10 p) 46 11 n) 37 4 w) 37 5 n) 37 6 0) 28 3 0) 28 2 0) 38 3 0) 39 3 (-1)) 40 3 0) 41 3 0) 42 16 0) 43 16 0) 44 16 (-1)) 45 36 0 := by
  unfold begV f_Haulage_begin f_Paving_clear f_Loads_clear
  simp only [lt_eq]
  rw [setV_in (by omega) (by omega)]
  rfl
theorem begC_ok (V : VV) (w p n : Int) : BegC (begV V w p n) ∧ (∀ i, i ≠ 28 → i ≠ 37 → ¬ (38 ≤ i ∧ i ≤ 48) → begV V w p n i = V i) ∧ begV V w p n 37 4 = w ∧ begV V w p n 37 5 = n ∧ begV V w p n 46 9 = w ∧ begV V w p n 46 10 = p ∧ begV V w p n 46 11 = n ∧ begV V w p n 46 2 = w32 (V 46 2 + 1) ∧ (∀ x, x ≠ 4 → x ≠ 5 → x ≠ 6 → begV V w p n 37 x = V 37 x) ∧ (∀ x, x ≠ 2 → x ≠ 8 → x ≠ 9 → x ≠ 10 → x ≠ 11 → x ≠ 12 → x ≠ 13 → x ≠ 15 → begV V w p n 46 x = V 46 x) := by
  rw [begV_eq]
  refine ⟨⟨?_, ?_, ?_, fun p hp => ⟨?_, ?_, ?_⟩, fun k hk => ?_, fun j hj => ?_, ⟨?_, ?_, ?_, ?_⟩, ?_, ?_, ?_, ?_⟩, fun i h1 h2 h3 => ?_, ?_, ?_, ?_, ?_, ?_, ?_, fun x a b c => ?_, fun x a b c d e f g h => ?_⟩
  all_goals first
    | (simp only [fillV, up_ap, Nat.reduceEqDiff, Nat.reduceLT, reduceIte]; done)
    | (simp only [fillV, up_ap, Nat.reduceEqDiff, Nat.reduceLT, reduceIte]; rw [if_pos (by assumption)])
    | skip
  · iterate 8 rw [fill_na (by omega)]
    iterate 8 rw [up_na _ _ _ (by omega)]
    rw [fill_na (by omega), up_na _ _ _ (by omega), fill_na (by omega)]
    iterate 5 rw [up_na _ _ _ (by omega)]
  · simp only [fillV, up_ap, Nat.reduceEqDiff, reduceIte]
    rw [if_neg c, if_neg b, if_neg a]
  · simp only [fillV, up_ap, Nat.reduceEqDiff, reduceIte]
    rw [if_neg e, if_neg d, if_neg c, if_neg h, if_neg g, if_neg f, if_neg b, if_neg a]
/-- the reference begins -/
theorem bgM10 {U0 : VV} {Q : VV → Prop} (hn : 0 ≤ U0 62 13 ∧ U0 62 13 ≤ 36) (K : ∀ U, (∀ i, i ≠ 94 → i ≠ 95 → U i = U0 i) → (∀ j : Nat, (j : Int) < U0 62 13 → U 94 j = 0 ∧ U 95 j = 0) → Sm (some U) Q) : ∀ (k n : Nat) (U : VV) (j : Int), U0 62 13 - j ≤ (k : Int) → k < n → 0 ≤ j → j ≤ U0 62 13 → (∀ i, i ≠ 94 → i ≠ 95 → U i = U0 i) → (∀ i : Nat, (i : Int) < j → U 94 i = 0 ∧ U 95 i = 0) → Sm (f_Mo_begin_10 n U j) Q := by
  intro k
  induction k with
  | zero =>
    intro n U j e1 e2 e3 e4 b q
    cases n with
    | zero => omega
    | succ n =>
      show Sm (if j < U 62 13 then _ else some U) _
      rw [b 62 (by omega) (by omega)]
      exact Sm.neg (by omega) (K U b (fun i hi => q i (by omega)))
  | succ k ih =>
    intro n U j e1 e2 e3 e4 b q
    cases n with
    | zero => omega
    | succ n =>
      show Sm (if j < U 62 13 then if 0 ≤ j ∧ j < (36 : Int) then if 0 ≤ j ∧ j < (36 : Int) then f_Mo_begin_10 n (up (up U 94 j.toNat 0) 95 j.toNat 0) (w32 (j + 1)) else none else none else some U) _
      rw [b 62 (by omega) (by omega)]
      refine Sm.ite (fun g => Sm.pos (by omega) (Sm.pos (by omega) ?_)) (fun g => K U b (fun i hi => q i (by omega)))
      rw [w32_id (by omega) (by omega)]
      refine ih n _ (j + 1) (by omega) (by omega) (by omega) (by omega) (fun i x1 x2 => by rw [up_na _ _ _ x2, up_na _ _ _ x1]; exact b i x1 x2) (fun i hi => ?_)
      rw [up_na _ _ _ (show (94 : Nat) ≠ 95 by omega), up_ap, if_pos rfl, up_ap, if_pos rfl, up_na _ _ _ (show (95 : Nat) ≠ 94 by omega)]
      by_cases z : i = j.toNat
      · rw [if_pos z, if_pos z]; exact ⟨rfl, rfl⟩
      · rw [if_neg z, if_neg z]; exact q i (by omega)
theorem bgM5 {U0 : VV} {Q : VV → Prop} (hn : 0 ≤ U0 62 17 ∧ U0 62 17 ≤ 3) (K : ∀ U, (∀ i, i ≠ 91 → i ≠ 92 → U i = U0 i) → (∀ j : Nat, (j : Int) < U0 62 17 → U 91 j = 0 ∧ U 92 j = -1) → Sm (f_Mo_begin_10 FU U 0) Q) : ∀ (k n : Nat) (U : VV) (j : Int), U0 62 17 - j ≤ (k : Int) → k < n → 0 ≤ j → j ≤ U0 62 17 → (∀ i, i ≠ 91 → i ≠ 92 → U i = U0 i) → (∀ i : Nat, (i : Int) < j → U 91 i = 0 ∧ U 92 i = -1) → Sm (f_Mo_begin_5 n U j) Q := by
  intro k
  induction k with
  | zero =>
    intro n U j e1 e2 e3 e4 b q
    cases n with
    | zero => omega
    | succ n =>
      show Sm (if j < U 62 17 then _ else _) _
      rw [b 62 (by omega) (by omega)]
      exact Sm.neg (by omega) (K U b (fun i hi => q i (by omega)))
  | succ k ih =>
    intro n U j e1 e2 e3 e4 b q
    cases n with
    | zero => omega
    | succ n =>
      show Sm (if j < U 62 17 then if 0 ≤ j ∧ j < (3 : Int) then if 0 ≤ j ∧ j < (3 : Int) then f_Mo_begin_5 n (up (up U 91 j.toNat 0) 92 j.toNat (-1)) (w32 (j + 1)) else none else none else f_Mo_begin_10 FU U 0) _
      rw [b 62 (by omega) (by omega)]
      refine Sm.ite (fun g => Sm.pos (by omega) (Sm.pos (by omega) ?_)) (fun g => K U b (fun i hi => q i (by omega)))
      rw [w32_id (by omega) (by omega)]
      refine ih n _ (j + 1) (by omega) (by omega) (by omega) (by omega) (fun i x1 x2 => by rw [up_na _ _ _ x2, up_na _ _ _ x1]; exact b i x1 x2) (fun i hi => ?_)
      rw [up_na _ _ _ (show (91 : Nat) ≠ 92 by omega), up_ap, if_pos rfl, up_ap, if_pos rfl, up_na _ _ _ (show (92 : Nat) ≠ 91 by omega)]
      by_cases z : i = j.toNat
      · rw [if_pos z, if_pos z]; exact ⟨rfl, rfl⟩
      · rw [if_neg z, if_neg z]; exact q i (by omega)
theorem bgM1 {U0 : VV} {Q : VV → Prop} (hn : 1 ≤ U0 62 22 ∧ U0 62 22 ≤ 16) (K : ∀ U, (∀ i, i ≠ 86 → U i = U0 i) → (∀ j : Nat, (j : Int) < U0 62 22 → U 86 j = 0) → Sm (f_Mo_begin_5 FU U 0) Q) : ∀ (k n : Nat) (U : VV) (j : Int), U0 62 22 - j ≤ (k : Int) → k < n → 0 ≤ j → j ≤ U0 62 22 → (∀ i, i ≠ 86 → U i = U0 i) → (∀ i : Nat, (i : Int) < j → U 86 i = 0) → Sm (f_Mo_begin_1 n U j) Q := by
  intro k
  induction k with
  | zero =>
    intro n U j e1 e2 e3 e4 b q
    cases n with
    | zero => omega
    | succ n =>
      show Sm (if j < U 62 22 then _ else _) _
      rw [b 62 (by omega)]
      exact Sm.neg (by omega) (K U b (fun i hi => q i (by omega)))
  | succ k ih =>
    intro n U j e1 e2 e3 e4 b q
    cases n with
    | zero => omega
    | succ n =>
      show Sm (if j < U 62 22 then if 0 ≤ j ∧ j < (16 : Int) then f_Mo_begin_1 n (up U 86 j.toNat 0) (w32 (j + 1)) else none else f_Mo_begin_5 FU U 0) _
      rw [b 62 (by omega)]
      refine Sm.ite (fun g => Sm.pos (by omega) ?_) (fun g => K U b (fun i hi => q i (by omega)))
      rw [w32_id (by omega) (by omega)]
      refine ih n _ (j + 1) (by omega) (by omega) (by omega) (by omega) (fun i x1 => by rw [up_na _ _ _ x1]; exact b i x1) (fun i hi => ?_)
      rw [up_ap, if_pos rfl]
      by_cases z : i = j.toNat
      · rw [if_pos z]
      · rw [if_neg z]; exact q i (by omega)
theorem begM_ok {U : VV} {w p : Int} (h1 : 1 ≤ U 62 22 ∧ U 62 22 ≤ 16) (h2 : 0 ≤ U 62 17 ∧ U 62 17 ≤ 3) (h3 : 0 ≤ U 62 13 ∧ U 62 13 ≤ 36) : Sm (f_Mo_begin U w p) (fun W => BegM W ∧ W 62 91 = w ∧ W 62 92 = p ∧ (∀ i, i ≠ 62 → i ≠ 86 → i ≠ 91 → i ≠ 92 → i ≠ 94 → i ≠ 95 → W i = U i) ∧ ∀ x, x ≠ 63 → ¬ (72 ≤ x ∧ x ≤ 80) → x ≠ 91 → x ≠ 92 → W 62 x = U 62 x) := by
  unfold f_Mo_begin
  obtain ⟨Z, hZ⟩ : ∃ Z, Z = up (up (up (up (up (up (up (up (up (up (up (up U 62 91 w) 62 92 p) 62 63 0) 62 72 0) 62 73 0) 62 74 0) 62 75 0) 62 76 0) 62 77 (-1)) 62 78 (-1)) 62 79 0) 62 80 0 := ⟨_, rfl⟩
  have z62 : ∀ x, x ≠ 63 → ¬ (72 ≤ x ∧ x ≤ 80) → x ≠ 91 → x ≠ 92 → Z 62 x = U 62 x := by
    intro x a b c d
    rw [hZ]
    iterate 12 rw [up_nf _ _ (by omega)]
  have z0 : ∀ i, i ≠ 62 → Z i = U i := by
    intro i hi
    rw [hZ]
    iterate 12 rw [up_na _ _ _ hi]
  have zv : (Z 62 63 = 0 ∧ Z 62 72 = 0 ∧ Z 62 73 = 0 ∧ Z 62 74 = 0 ∧ Z 62 75 = 0 ∧ Z 62 76 = 0 ∧ Z 62 78 = -1 ∧ Z 62 79 = 0 ∧ Z 62 80 = 0) ∧ Z 62 91 = w ∧ Z 62 92 = p := by
    rw [hZ]
    refine ⟨⟨?_, ?_, ?_, ?_, ?_, ?_, ?_, ?_, ?_⟩, ?_, ?_⟩ <;> simp only [up_ap, Nat.reduceEqDiff, reduceIte]
  rw [← hZ]
  clear hZ
  have e22 := z62 22 (by omega) (by omega) (by omega) (by omega)
  have e17 := z62 17 (by omega) (by omega) (by omega) (by omega)
  have e13 := z62 13 (by omega) (by omega) (by omega) (by omega)
  refine bgM1 (U0 := Z) (by omega) (fun A a0 a86 => ?_) 16 FU Z 0 (by omega) (by decide) (by omega) (by omega) (fun _ _ => rfl) (fun i hi => by omega)
  have A62 := a0 62 (by omega)
  refine bgM5 (U0 := A) (by rw [A62]; omega) (fun B b0 b91 => ?_) 3 FU A 0 (by rw [A62]; omega) (by decide) (by omega) (by rw [A62]; omega) (fun _ _ _ => rfl) (fun i hi => by omega)
  have B62 := b0 62 (by omega) (by omega)
  refine bgM10 (U0 := B) (by rw [B62, A62]; omega) (fun C c0 c94 => ?_) 36 FU B 0 (by rw [B62, A62]; omega) (by decide) (by omega) (by rw [B62, A62]; omega) (fun _ _ _ => rfl) (fun i hi => by omega)
  have C62 : C 62 = Z 62 := (c0 62 (by omega) (by omega)).trans (B62.trans A62)
  refine Sm.ok ⟨?_, by rw [C62]; exact zv.2.1, by rw [C62]; exact zv.2.2, fun i x1 x2 x3 x4 x5 x6 => by rw [c0 i x5 x6, b0 i x3 x4, a0 i x2, z0 i x1], fun x a b c d => by rw [C62]; exact z62 x a b c d⟩
  unfold BegM
  rw [C62]
  refine ⟨zv.1, fun k hk => ?_, fun p hp => ?_, fun j hj => c94 j (by rw [B62, A62]; exact hj)⟩
  · rw [c0 86 (by omega) (by omega), b0 86 (by omega) (by omega)]; exact a86 k hk
  · rw [c0 91 (by omega) (by omega), c0 92 (by omega) (by omega)]; exact b91 p (by rw [A62]; exact hp)
