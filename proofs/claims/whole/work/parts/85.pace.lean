/-! the pace and the fewest trucks -/
theorem CI.fr {V V2 : VV} {h : HP} (c : CI V h) (r : ∀ i, ((1 ≤ i ∧ i ≤ 15) ∨ (19 ≤ i ∧ i ≤ 24) ∨ (28 ≤ i ∧ i ≤ 48) ∨ 123 ≤ i) → V2 i = V i) (r6 : V2 18 6 = V 18 6) (r7 : V2 18 7 = V 18 7) : CI V2 h := by
  have ss : SS V V2 := ⟨fun i a b => r i (by omega), r6, r7, fun i a b => r i (by omega)⟩
  obtain ⟨hh, g⟩ := c
  obtain ⟨i1, i2, i3⟩ := hh.lie
  refine ⟨hh, fun hz => ?_⟩
  rw [r 46 (by omega)] at hz
  obtain ⟨B, h0, q, bC, hh0, sB, bb, eq, e2, rows, r37, e8, ck, x1, x2, x3, x4, x5⟩ := g hz
  refine ⟨B, h0, q, bC, hh0, ss.sy.tr sB, ?_, eq, e2, fun i hi => ?_, ?_, ?_, fun j hj => ?_, ?_, x2.ss ss, ?_, ?_, ?_⟩
  · rw [r 46 (by omega)]; exact bb
  · rw [r i (by omega)]; exact rows i hi
  · rw [r 37 (by omega)]; exact r37
  · rw [r 46 (by omega)]; exact e8
  · rw [r 46 (by omega)] at hj
    have := ck j hj
    unfold CoolK shJ mnJ at this ⊢
    rw [r 34 (by omega), r 35 (by omega), r 36 (by omega), r 8 (by omega), r 33 (by omega), r 15 (by omega)]
    exact this
  · rw [nJ_ss ss]; exact x1
  · rw [r 46 (by omega), r7]; exact x3
  · rw [r 46 (by omega)]; exact x4
  · rw [r 46 (by omega)]; exact x5
/-- class cells that a query may change -/
def CQ1 (V V2 : VV) : Prop := ∀ i, ¬ (28 ≤ i ∧ i ≤ 48) → i ≠ 59 → i ≠ 60 → i < 123 → V2 i = V i
theorem CQ1.rf {V : VV} : CQ1 V V := fun _ _ _ _ _ => rfl
theorem CQ1.tr {V V2 V3 : VV} (h : CQ1 V V2) (h2 : CQ1 V2 V3) : CQ1 V V3 := fun i a b c d => (h2 i a b c d).trans (h i a b c d)
theorem CQ0.q1 {V V2 : VV} (h : CQ0 V V2) : CQ1 V V2 := fun i a _ _ d => h i a d
theorem CQ1.ss {V V2 : VV} (h : CQ1 V V2) : SS V V2 := ⟨fun i a b => h i (by omega) (by omega) (by omega) (by omega), by rw [h 18 (by omega) (by omega) (by omega) (by omega)], by rw [h 18 (by omega) (by omega) (by omega) (by omega)], fun i a b => h i (by omega) (by omega) (by omega) (by omega)⟩
theorem CI.up {V : VV} {h : HP} {a b : Nat} {x : Int} (c : CI V h) (ha : a = 0 ∨ a = 49 ∨ (55 ≤ a ∧ a ≤ 61)) : CI (up V a b x) h := c.fr (fun i hi => up_na _ _ _ (by omega)) (by rw [up_na _ _ _ (by omega)]) (by rw [up_na _ _ _ (by omega)])
/-- what a run that is done says -/
theorem RA.sums {V U : VV} {h : HP} (r : RA V h U) : V 47 0 = U 62 76 ∧ (0 ≤ U 62 76 ∧ U 62 76 ≤ 4320) ∧ V 47 1 = U 62 77 ∧ (0 ≤ nJ V → 0 < nJ V → 0 ≤ U 62 77 ∧ U 62 77 ≤ 4320) := by
  obtain ⟨hh, rj, ⟨⟨s1, s2, s3, s4, s5, s6, s7, s8, s9⟩, ca, ka⟩, hd, hn, -⟩ := r
  obtain ⟨t1, t2⟩ := s9 hd
  refine ⟨s1, s2, t1, fun _ hj => ?_⟩
  have := (ca.1 (nJ V - 1).toNat (by omega)).2.1
  rw [t2, show U 62 74 - 1 = nJ V - 1 by omega]
  exact this
/-- the cells of the reference that its calls may change -/
def MG (U0 U : VV) : Prop := ∀ i k, kM i k = false → ¬ (i = 62 ∧ 93 ≤ k ∧ k ≤ 95) → U i k = U0 i k
theorem MG.rf {U : VV} : MG U U := fun _ _ _ _ => rfl
theorem MG.tr {U0 U U2 : VV} (h : MG U0 U) (h2 : MG U U2) : MG U0 U2 := fun i k e f => (h2 i k e f).trans (h i k e f)
theorem MF.mg {U0 U : VV} (h : MF U0 U) : MG U0 U := fun i k e _ => h i k e
theorem MG.up {U0 U : VV} {b : Nat} {x : Int} (h : MG U0 U) (hb : 93 ≤ b ∧ b ≤ 95) : MG U0 (up U 62 b x) := by
  intro i k e f
  rw [up_ap]
  split
  · split
    · next h1 h2 => exact absurd ⟨h1, by omega, by omega⟩ f
    · exact h i k e f
  · exact h i k e f
theorem SETR.mg {V U U2 : VV} (s : SETR V U) (h : MG U U2) : SETR V U2 := by
  have s' := s.mf (U2 := fun i k => if i = 62 ∧ 93 ≤ k ∧ k ≤ 95 then U i k else U2 i k) (fun i k e => by
    dsimp only
    by_cases f : i = 62 ∧ 93 ≤ k ∧ k ≤ 95
    · rw [if_pos f]
    · rw [if_neg f]; exact h i k e f)
  have e : ∀ i k, ¬ (i = 62 ∧ 93 ≤ k ∧ k ≤ 95) → (fun i k => if i = 62 ∧ 93 ≤ k ∧ k ≤ 95 then U i k else U2 i k : VV) i k = U2 i k := fun i k f => if_neg f
  generalize (fun i k => if i = 62 ∧ 93 ≤ k ∧ k ≤ 95 then U i k else U2 i k : VV) = U3 at *
  have er : ∀ i, i ≠ 62 → U3 i = U2 i := fun i hi => by funext k; exact e i k (fun f => hi f.1)
  have ec : ∀ k, ¬ (93 ≤ k ∧ k ≤ 95) → U2 62 k = U3 62 k := fun k hk => (e 62 k (fun f => hk f.2)).symm
  obtain ⟨s1, s2, s3, s4, s5, s6⟩ := s'
  refine ⟨s1, ?_, ?_, ⟨s4.1, fun k hk => ?_⟩, ?_, fun w a b => (s6 w a b).of ⟨rfl, fun _ _ _ => rfl⟩ ⟨ec 48 (by omega), fun i x y k hk => by rw [er i (by omega)]⟩⟩
  · unfold SRoad
    rw [ec 0 (by omega), ec 8 (by omega), ec 3 (by omega), ec 4 (by omega), ec 5 (by omega), ec 6 (by omega), ec 7 (by omega), ← er 63 (by omega), ← er 64 (by omega), ← er 65 (by omega), ← er 66 (by omega)]
    exact s2
  · unfold SPl
    rw [ec 17 (by omega), ec 23 (by omega), ← er 71 (by omega), ← er 72 (by omega), ← er 73 (by omega), ← er 74 (by omega)]
    exact s3
  · rw [ec (24 + k) (by omega)]; exact s4.2 k hk
  · unfold f_Mo_manyWorlds
    rw [ec 49 (by omega)]
    exact s5
/-- the rolling, when it is made -/
def rollX (V : VV) (x : Int) : Option VV := lt_ (fillV (up V 49 10 x) 55 6 0) (fun q2 => lt_ (fillV q2 56 108 0) (fun q3 => lt_ (fillV q3 57 36 (-1)) (fun q4 => f_Rolling_roll_9 FU q4 (w32 ((atV q4 32 36 (w32 ((f_Road_jobs q4) - 1))) + 600)) (w32 ((atV q4 32 36 0) + 1)))))
def Rolled (V : VV) : Prop := ∃ (Vg Vr : VV) (x : Int), SS V Vg ∧ Vg 49 11 = V 49 11 ∧ (∀ i, 50 ≤ i → i ≤ 54 → Vg i = V i) ∧ Vg 32 = V 32 ∧ Vg 33 = V 33 ∧ (∀ j : Nat, (j : Int) < nJ V → CoolK Vg j) ∧ rollX Vg x = some Vr ∧ Vr 56 = V 56 ∧ Vr 57 = V 57
def ROLC (V : VV) : Prop := V 49 10 ≤ V 46 2 ∧ (V 49 10 = V 46 2 → V 46 7 ≠ 0 → Rolled V)
def INVR (V : VV) (h : HP) : Prop := CI V h ∧ ROLC V ∧ 0 ≤ V 46 2 ∧ V 46 2 ≤ 1000000
theorem Rolled.fr {V V2 : VV} (r : Rolled V) (ss : SS V V2) (h : ∀ i, (i = 32 ∨ i = 33 ∨ (49 ≤ i ∧ i ≤ 57)) → V2 i = V i) : Rolled V2 := by
  obtain ⟨Vg, Vr, x, r1, r2, r3, r4, r5, r6, r7, r8, r9⟩ := r
  refine ⟨Vg, Vr, x, ss.sy.tr r1, by rw [h 49 (by omega)]; exact r2, fun i a b => by rw [h i (by omega)]; exact r3 i a b, by rw [h 32 (by omega)]; exact r4, by rw [h 33 (by omega)]; exact r5, fun j hj => r6 j (by rw [← nJ_ss ss]; exact hj), r7, by rw [h 56 (by omega)]; exact r8, by rw [h 57 (by omega)]; exact r9⟩
theorem INVR.fr {V V2 : VV} {h : HP} (v : INVR V h) (r : ∀ i, ((1 ≤ i ∧ i ≤ 15) ∨ (19 ≤ i ∧ i ≤ 24) ∨ (28 ≤ i ∧ i ≤ 57) ∨ 123 ≤ i) → V2 i = V i) (r6 : V2 18 6 = V 18 6) (r7 : V2 18 7 = V 18 7) : INVR V2 h := by
  obtain ⟨c, ⟨l1, l2⟩, s⟩ := v
  have ss : SS V V2 := ⟨fun i a b => r i (by omega), r6, r7, fun i a b => r i (by omega)⟩
  refine ⟨c.fr (fun i hi => r i (by omega)) r6 r7, ⟨by rw [r 49 (by omega), r 46 (by omega)]; exact l1, fun a b => ?_⟩, by rw [r 46 (by omega)]; exact s⟩
  rw [r 49 (by omega), r 46 (by omega)] at a
  rw [r 46 (by omega)] at b
  exact (l2 a b).fr ss (fun i hi => r i (by omega))
theorem isDone3 {V U : VV} {h : HP} {w p n : Int} (s : SETR V U) (v : INVR V h) (hb : V 46 2 < 1000000) (hw : 0 ≤ w ∧ w < V 18 7) (hp : 1 ≤ p ∧ p ≤ 20) (hn : 1 ≤ n ∧ n ≤ 16) (hj : 0 < nJ V) (hk : KIN V) (ht : U 62 22 = n) : Two (f_Paving_isDone V h w p n) (f_Mo_goes U w p) (fun q z => q.2 = z.2 ∧ (z.2 = 0 ∨ z.2 = 1) ∧ INVR q.1.1 q.1.2 ∧ CQ0 V q.1.1 ∧ MF U z.1 ∧ (V 46 2 ≤ q.1.1 46 2 ∧ q.1.1 46 2 ≤ V 46 2 + 1) ∧ q.1.1 46 7 = 1 ∧ (z.2 = 1 → RA q.1.1 q.1.2 z.1)) := by
  refine (isDone2 s v.1 hw hp hn hj hk ht).imp (fun q z hq => ?_)
  obtain ⟨a1, a2, a3, a4, a5, a6, a7, a8⟩ := hq
  obtain ⟨c, ⟨l1, l2⟩, s1, s2⟩ := v
  rcases a6 with ⟨e1, e2⟩ | e
  · refine ⟨a1, a2, ⟨a3, ?_, ?_⟩, a4, a5, ?_, a7, a8⟩
    · rw [e1]; exact ⟨l1, l2⟩
    · rw [e1]; exact ⟨s1, s2⟩
    · rw [e1]; omega
  · rw [w32_id (by omega) (by omega)] at e
    have e49 : q.1.1 49 10 = V 49 10 := by rw [a4 49 (by omega) (by omega)]
    exact ⟨a1, a2, ⟨a3, ⟨by omega, fun z => by omega⟩, by omega⟩, a4, a5, by omega, a7, a8⟩
theorem CQ0.kp {V V2 : VV} (c : CQ0 V V2) {n0 : Int} (hv : V 10 5 = n0) : V2 10 5 = n0 := by rw [c 10 (by omega) (by omega)]; exact hv
/-- the pace's trial in all worlds -/
theorem tryP {pace n0 : Int} (hp : 1 ≤ pace ∧ pace ≤ 20) (hn : 1 ≤ n0 ∧ n0 ≤ 16) : ∀ (k n m : Nat) (V U : VV) (h : HP) (a b c w : Int), V 18 7 - w ≤ (k : Int) → k < n → k < m → 0 ≤ w → w ≤ V 18 7 → SETR V U → INVR V h → V 46 2 ≤ 900000 + w → 0 < nJ V → KIN V → U 62 22 = n0 → V 10 5 = n0 → U 62 93 = a → U 62 94 = b → U 62 95 = c → (0 ≤ a ∧ a ≤ 4320) → (0 ≤ b ∧ b ≤ 4320 * w) → (0 ≤ c ∧ c ≤ 4320) → Two (f_Br_tryPace_1 n V h pace a b c w) (f_Mo_goInAll_1 m U pace w) (fun q z => q.2 = z.2 ∧ (z.2 = 0 ∨ z.2 = 1) ∧ INVR q.1.1 q.1.2 ∧ CQ1 V q.1.1 ∧ q.1.1 60 = V 60 ∧ MG U z.1 ∧ (V 46 2 ≤ q.1.1 46 2 ∧ q.1.1 46 2 ≤ V 46 2 + (V 18 7 - w)) ∧ (z.2 = 1 → q.1.1 59 0 = z.1 62 93 ∧ q.1.1 59 1 = z.1 62 94 ∧ q.1.1 59 2 = z.1 62 95)) := by
  have fin : ∀ (V U : VV) (h : HP) (a b c w : Int), w ≤ V 18 7 → INVR V h → U 62 93 = a → U 62 94 = b → U 62 95 = c → Two (lt_ (setV V 59 3 0 a) (fun q2 => lt_ (setV q2 59 3 1 b) (fun q3 => lt_ (setV q3 59 3 2 c) (fun q4 => some ((q4, h), (1 : Int)))))) (some (U, (1 : Int))) (fun q z => q.2 = z.2 ∧ (z.2 = 0 ∨ z.2 = 1) ∧ INVR q.1.1 q.1.2 ∧ CQ1 V q.1.1 ∧ q.1.1 60 = V 60 ∧ MG U z.1 ∧ (V 46 2 ≤ q.1.1 46 2 ∧ q.1.1 46 2 ≤ V 46 2 + (V 18 7 - w)) ∧ (z.2 = 1 → q.1.1 59 0 = z.1 62 93 ∧ q.1.1 59 1 = z.1 62 94 ∧ q.1.1 59 2 = z.1 62 95)) := by
    intro V U h a b c w hw ci ua ub uc
    rw [lt_eq, lt_eq, lt_eq, setV_in (by omega) (by omega), setV_in (by omega) (by omega), setV_in (by omega) (by omega)]
    have r : ∀ i, i ≠ 59 → up (up (up V 59 (0 : Int).toNat a) 59 (1 : Int).toNat b) 59 (2 : Int).toNat c i = V i := fun i hi => by rw [up_na _ _ _ hi, up_na _ _ _ hi, up_na _ _ _ hi]
    refine Two.ok ⟨rfl, Or.inr rfl, ci.fr (fun i hi => r i (by omega)) (by dsimp only; rw [r 18 (by omega)]) (by dsimp only; rw [r 18 (by omega)]), fun i x y z w => r i y, r 60 (by omega), MG.rf, ?_, fun _ => ⟨?_, ?_, ?_⟩⟩
    · dsimp only
      rw [r 46 (by omega)]; omega
    · dsimp only
      rw [up_nf _ _ (by decide), up_nf _ _ (by decide), ua]
      exact up_eq _ _ _ _
    · dsimp only
      rw [up_nf _ _ (by decide), ub]
      exact up_eq _ _ _ _
    · dsimp only
      rw [uc]
      exact up_eq _ _ _ _
  intro k
  induction k with
  | zero =>
    intro n m V U h a b c w e1 e2 e3 w0 w1 s ci st hj hk ht hv ua ub uc ba bb bc
    cases n with
    | zero => omega
    | succ n =>
      cases m with
      | zero => omega
      | succ m =>
        show Two (if w < V 18 7 then _ else _) (if w < f_Mo_manyWorlds U then _ else some (U, 1)) _
        rw [s.2.2.2.2.1.2.2]
        exact Two.negL (by omega) (Two.negR (by omega) (fin V U h a b c w w1 ci ua ub uc))
  | succ k ih =>
    intro n m V U h a b c w e1 e2 e3 w0 w1 s ci st hj hk ht hv ua ub uc ba bb bc
    cases n with
    | zero => omega
    | succ n =>
      cases m with
      | zero => omega
      | succ m =>
        show Two (if w < V 18 7 then Option.bind (f_Paving_isDone V h w pace (V 10 5)) (fun q5 => if q5.2 = 0 then some ((q5.1.1, (q5.1.2)), 0) else f_Br_tryPace_1 n q5.1.1 (q5.1.2) pace (max a (atV q5.1.1 47 6 0)) (w32 (b + (atV q5.1.1 47 6 0))) (max c (atV q5.1.1 47 6 1)) (w32 (w + 1))) else lt_ (setV V 59 3 0 a) (fun q2 => lt_ (setV q2 59 3 1 b) (fun q3 => lt_ (setV q3 59 3 2 c) (fun q4 => some ((q4, h), 1))))) (if w < f_Mo_manyWorlds U then Option.bind (f_Mo_goes U w pace) (fun q3 => if q3.2 = 0 then some (q3.1, 0) else if (q3.1 62 93) < (q3.1 62 76) then f_Mo_goInAll_8 (f_Mo_goInAll_1 m) (up q3.1 62 93 (q3.1 62 76)) pace w else f_Mo_goInAll_8 (f_Mo_goInAll_1 m) q3.1 pace w) else some (U, 1)) _
        have wc := s.2.2.2.2.1
        rw [wc.2.2]
        refine Two.iteL (fun g => Two.posR g ?_) (fun g => Two.negR g (fin V U h a b c w w1 ci ua ub uc))
        rw [hv]
        refine Two.bind2 (isDone3 s ci (by omega) ⟨w0, g⟩ hp hn hj hk ht) (fun q z hq => ?_)
        obtain ⟨a1, a2, a3, a4, a5, a6, a7, a8⟩ := hq
        have q60 : q.1.1 60 = V 60 := a4 60 (by omega) (by omega)
        rw [a1]
        rcases a2 with z0 | z1
        · rw [z0, if_pos rfl, if_pos rfl]
          exact Two.ok ⟨rfl, Or.inl rfl, a3, a4.q1, q60, a5.mg, by dsimp only; omega, fun x => by cases x⟩
        · rw [z1, if_neg (by omega), if_neg (by omega)]
          have ra := a8 z1
          have ssq := a4.ss
          obtain ⟨s1, s2, s3, s4⟩ := ra.sums
          have nq := nJ_ss ssq
          have s4' := s4 (by omega) (by omega)
          have m93 : z.1 62 93 = a := by rw [a5 62 93 rfl]; exact ua
          have m94 : z.1 62 94 = b := by rw [a5 62 94 rfl]; exact ub
          have m95 : z.1 62 95 = c := by rw [a5 62 95 rfl]; exact uc
          have at0 : ∀ _ : Nat, atV q.1.1 47 6 0 = z.1 62 76 := fun _ => (atV_in (by omega) (by omega)).trans s1
          have at1 : ∀ _ : Nat, atV q.1.1 47 6 1 = z.1 62 77 := fun _ => (atV_in (by omega) (by omega)).trans s3
          rw [at0 0, at1 0, w32_id (x := w + 1) (by omega) (by omega), w32_id (x := b + z.1 62 76) (by omega) (by omega), m93]
          -- behind the three sums
          have key : ∀ U2 : VV, MG z.1 U2 → (∀ x, ¬ (93 ≤ x ∧ x ≤ 95) → U2 62 x = z.1 62 x) → U2 62 93 = max a (z.1 62 76) → U2 62 94 = b + z.1 62 76 → U2 62 95 = max c (z.1 62 77) → Two (f_Br_tryPace_1 n q.1.1 q.1.2 pace (max a (z.1 62 76)) (b + z.1 62 76) (max c (z.1 62 77)) (w + 1)) (f_Mo_goInAll_1 m U2 pace (w32 (w + 1))) (fun q z => q.2 = z.2 ∧ (z.2 = 0 ∨ z.2 = 1) ∧ INVR q.1.1 q.1.2 ∧ CQ1 V q.1.1 ∧ q.1.1 60 = V 60 ∧ MG U z.1 ∧ (V 46 2 ≤ q.1.1 46 2 ∧ q.1.1 46 2 ≤ V 46 2 + (V 18 7 - w)) ∧ (z.2 = 1 → q.1.1 59 0 = z.1 62 93 ∧ q.1.1 59 1 = z.1 62 94 ∧ q.1.1 59 2 = z.1 62 95)) := by
            intro U2 mg c0 c93 c94 c95
            have q18 : q.1.1 18 7 = V 18 7 := ssq.2.2.1
            rw [w32_id (x := w + 1) (by omega) (by omega)]
            refine (ih n m q.1.1 U2 q.1.2 (max a (z.1 62 76)) (b + z.1 62 76) (max c (z.1 62 77)) (w + 1) (by omega) (by omega) (by omega) (by omega) (by omega) (((s.mf a5).mg mg).ss ssq) a3 (by omega) (by omega) (hk.ss ssq) (by rw [c0 22 (by omega), a5 62 22 rfl]; exact ht) (a4.kp hv) c93 c94 c95 (by omega) (by omega) (by omega)).imp (fun q' z' hq' => ?_)
            obtain ⟨b1, b2, b3, b4, b5, b6, b7, b8⟩ := hq'
            exact ⟨b1, b2, b3, a4.q1.tr b4, b5.trans q60, (a5.mg.tr mg).tr b6, by omega, b8⟩
          have p8 : ∀ U2 : VV, MG z.1 U2 → (∀ x, ¬ (93 ≤ x ∧ x ≤ 95) → U2 62 x = z.1 62 x) → U2 62 93 = max a (z.1 62 76) → U2 62 94 = b → U2 62 95 = c → Two (f_Br_tryPace_1 n q.1.1 q.1.2 pace (max a (z.1 62 76)) (b + z.1 62 76) (max c (z.1 62 77)) (w + 1)) (f_Mo_goInAll_8 (f_Mo_goInAll_1 m) U2 pace w) (fun q z => q.2 = z.2 ∧ (z.2 = 0 ∨ z.2 = 1) ∧ INVR q.1.1 q.1.2 ∧ CQ1 V q.1.1 ∧ q.1.1 60 = V 60 ∧ MG U z.1 ∧ (V 46 2 ≤ q.1.1 46 2 ∧ q.1.1 46 2 ≤ V 46 2 + (V 18 7 - w)) ∧ (z.2 = 1 → q.1.1 59 0 = z.1 62 93 ∧ q.1.1 59 1 = z.1 62 94 ∧ q.1.1 59 2 = z.1 62 95)) := by
            intro U2 mg c0 c93 c94 c95
            unfold f_Mo_goInAll_8 f_Mo_goInAll_10
            rw [c94, c95, c0 76 (by omega), c0 77 (by omega), w32_id (x := b + z.1 62 76) (by omega) (by omega)]
            refine Two.iteR (fun g2 => key _ ((mg.up (by omega)).up (by omega)) (fun x hx => by rw [up_nf _ _ (by omega), up_nf _ _ (by omega)]; exact c0 x hx) ?_ ?_ ?_) (fun g2 => key _ (mg.up (by omega)) (fun x hx => by rw [up_nf _ _ (by omega)]; exact c0 x hx) ?_ ?_ ?_)
            · rw [up_nf _ _ (by omega), up_nf _ _ (by omega)]; exact c93
            · rw [up_nf _ _ (by omega), up_eq]
            · rw [up_eq]; omega
            · rw [up_nf _ _ (by omega)]; exact c93
            · rw [up_eq]
            · rw [up_nf _ _ (by omega), c95]; omega
          refine Two.iteR (fun g1 => p8 _ (MG.rf.up (by omega)) (fun x hx => up_nf _ _ (by omega)) ?_ ?_ ?_) (fun g1 => p8 z.1 MG.rf (fun _ _ => rfl) ?_ m94 m95)
          · rw [up_eq]; omega
          · rw [up_nf _ _ (by omega)]; exact m94
          · rw [up_nf _ _ (by omega)]; exact m95
          · rw [m93]; omega
