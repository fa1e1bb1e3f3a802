/-! the fewest trucks -/
theorem SETR.up22 {V U : VV} {x : Int} (s : SETR V U) : SETR V (up U 62 22 x) := by
  obtain ⟨s1, s2, s3, s4, s5, s6⟩ := s
  refine ⟨s1, ?_, ?_, ⟨s4.1, fun k hk => by rw [up_nf _ _ (by omega)]; exact s4.2 k hk⟩, ?_, fun w a b => (s6 w a b).of ⟨rfl, fun _ _ _ => rfl⟩ ⟨up_nf _ _ (by omega), fun i x y k hk => by rw [up_na _ _ _ (by omega)]⟩⟩
  · unfold SRoad
    rw [up_nf _ _ (by omega), up_nf _ _ (by omega), up_nf _ _ (by omega), up_nf _ _ (by omega), up_nf _ _ (by omega), up_nf _ _ (by omega), up_nf _ _ (by omega), up_na _ _ _ (by omega), up_na _ _ _ (by omega), up_na _ _ _ (by omega), up_na _ _ _ (by omega)]
    exact s2
  · unfold SPl
    rw [up_nf _ _ (by omega), up_nf _ _ (by omega), up_na _ _ _ (by omega), up_na _ _ _ (by omega), up_na _ _ _ (by omega), up_na _ _ _ (by omega)]
    exact s3
  · unfold f_Mo_manyWorlds
    rw [up_nf _ _ (by omega)]
    exact s5
/-- the reference goes on through the worlds, though there was a stop -/
theorem goM {p n0 : Int} (hp : 1 ≤ p ∧ p ≤ 20) (hn : 1 ≤ n0 ∧ n0 ≤ 16) : ∀ (k m : Nat) (V U : VV) (h : HP) (w : Int), V 18 7 - w ≤ (k : Int) → k < m → 0 ≤ w → w ≤ V 18 7 → SETR V U → INVR V h → V 46 2 < 1000000 → 0 < nJ V → KIN V → U 62 22 = n0 → 1 ≤ U 62 93 → Sm (f_Mo_goInAll_1 m U p w) (fun z => (z.2 = 0 ∨ z.2 = 1) ∧ (z.2 = 1 → 1 ≤ z.1 62 93) ∧ MG U z.1) := by
  intro k
  induction k with
  | zero =>
    intro m V U h w e1 e3 w0 w1 s v st hj hk ht h93
    cases m with
    | zero => omega
    | succ m =>
      show Sm (if w < f_Mo_manyWorlds U then _ else some (U, 1)) _
      rw [s.2.2.2.2.1.2.2]
      exact Sm.neg (by omega) (Sm.ok ⟨Or.inr rfl, fun _ => h93, MG.rf⟩)
  | succ k ih =>
    intro m V U h w e1 e3 w0 w1 s v st hj hk ht h93
    cases m with
    | zero => omega
    | succ m =>
      show Sm (if w < f_Mo_manyWorlds U then Option.bind (f_Mo_goes U w p) (fun q3 => if q3.2 = 0 then some (q3.1, 0) else if (q3.1 62 93) < (q3.1 62 76) then f_Mo_goInAll_8 (f_Mo_goInAll_1 m) (up q3.1 62 93 (q3.1 62 76)) p w else f_Mo_goInAll_8 (f_Mo_goInAll_1 m) q3.1 p w) else some (U, 1)) _
      have wc := s.2.2.2.2.1
      rw [wc.2.2]
      refine Sm.ite (fun g => ?_) (fun g => Sm.ok ⟨Or.inr rfl, fun _ => h93, MG.rf⟩)
      refine Sm.bind (isDone3 s v st ⟨w0, g⟩ hp hn hj hk ht).toR (fun z _ hz => ?_)
      obtain ⟨q, -, a1, a2, a3, a4, a5, a6, a7, a8⟩ := hz
      rcases a2 with z0 | z1
      · rw [z0, if_pos rfl]
        exact Sm.ok ⟨Or.inl rfl, fun x => (by cases x), a5.mg⟩
      · rw [z1, if_neg (by omega)]
        have m93 : z.1 62 93 = U 62 93 := a5 62 93 rfl
        have p8 : ∀ U2 : VV, MG z.1 U2 → (∀ x, ¬ (93 ≤ x ∧ x ≤ 95) → U2 62 x = z.1 62 x) → 1 ≤ U2 62 93 → Sm (f_Mo_goInAll_8 (f_Mo_goInAll_1 m) U2 p w) (fun z => (z.2 = 0 ∨ z.2 = 1) ∧ (z.2 = 1 → 1 ≤ z.1 62 93) ∧ MG U z.1) := by
          intro U2 mg c0 c93
          have nx : ∀ U3 : VV, MG z.1 U3 → (∀ x, ¬ (93 ≤ x ∧ x ≤ 95) → U3 62 x = z.1 62 x) → 1 ≤ U3 62 93 → Sm (f_Mo_goInAll_10 (f_Mo_goInAll_1 m) U3 p w) (fun z => (z.2 = 0 ∨ z.2 = 1) ∧ (z.2 = 1 → 1 ≤ z.1 62 93) ∧ MG U z.1) := by
            intro U3 mg3 d0 d93
            unfold f_Mo_goInAll_10
            rw [w32_id (by omega) (by omega)]
            refine (ih m V U3 h (w + 1) (by omega) (by omega) (by omega) (by omega) ((s.mf a5).mg mg3) v st hj hk (by rw [d0 22 (by omega), a5 62 22 rfl]; exact ht) d93).imp (fun z' hz' => ?_)
            exact ⟨hz'.1, hz'.2.1, (a5.mg.tr mg3).tr hz'.2.2⟩
          unfold f_Mo_goInAll_8
          refine Sm.ite (fun _ => nx _ ((mg.up (by omega)).up (by omega)) (fun x hx => by rw [up_nf _ _ (by omega), up_nf _ _ (by omega)]; exact c0 x hx) ?_) (fun _ => nx _ (mg.up (by omega)) (fun x hx => by rw [up_nf _ _ (by omega)]; exact c0 x hx) ?_)
          · rw [up_nf _ _ (by omega), up_nf _ _ (by omega)]; exact c93
          · rw [up_nf _ _ (by omega)]; exact c93
        refine Sm.ite (fun g1 => p8 _ (MG.rf.up (by omega)) (fun x hx => up_nf _ _ (by omega)) ?_) (fun g1 => p8 z.1 MG.rf (fun _ _ => rfl) (by omega))
        rw [up_eq]; omega
theorem neverL {p n0 : Int} (hp : 1 ≤ p ∧ p ≤ 20) (hn : 1 ≤ n0 ∧ n0 ≤ 16) : ∀ (k n m : Nat) (V U : VV) (h : HP) (w : Int), V 18 7 - w ≤ (k : Int) → k < n → k < m → 0 ≤ w → w ≤ V 18 7 → SETR V U → INVR V h → V 46 2 ≤ 900000 + w → 0 < nJ V → KIN V → U 62 22 = n0 → U 62 93 = 0 → Two (f_Br_neverStops_1 n V h p n0 w) (f_Mo_goInAll_1 m U p w) (fun q z => (q.2 = 0 ∨ q.2 = 1) ∧ (z.2 = 0 ∨ z.2 = 1) ∧ (q.2 = 1 ↔ (z.2 = 1 ∧ z.1 62 93 = 0)) ∧ INVR q.1.1 q.1.2 ∧ CQ1 V q.1.1 ∧ MG U z.1 ∧ (V 46 2 ≤ q.1.1 46 2 ∧ q.1.1 46 2 ≤ V 46 2 + (V 18 7 - w))) := by
  intro k
  induction k with
  | zero =>
    intro n m V U h w e1 e2 e3 w0 w1 s v st hj hk ht h93
    cases n with
    | zero => omega
    | succ n =>
      cases m with
      | zero => omega
      | succ m =>
        show Two (if w < V 18 7 then _ else some ((V, h), 1)) (if w < f_Mo_manyWorlds U then _ else some (U, 1)) _
        rw [s.2.2.2.2.1.2.2]
        exact Two.negL (by omega) (Two.negR (by omega) (Two.ok ⟨Or.inr rfl, Or.inr rfl, ⟨fun _ => ⟨rfl, h93⟩, fun _ => rfl⟩, v, CQ1.rf, MG.rf, by dsimp only; omega⟩))
  | succ k ih =>
    intro n m V U h w e1 e2 e3 w0 w1 s v st hj hk ht h93
    cases n with
    | zero => omega
    | succ n =>
      cases m with
      | zero => omega
      | succ m =>
        show Two (if w < V 18 7 then Option.bind (f_Paving_isDone V h w p n0) (fun q2 => if q2.2 = 0 then some ((q2.1.1, (q2.1.2)), 0) else if (atV q2.1.1 47 6 0) = 0 then f_Br_neverStops_1 n q2.1.1 (q2.1.2) p n0 (w32 (w + 1)) else some ((q2.1.1, (q2.1.2)), 0)) else some ((V, h), 1)) (if w < f_Mo_manyWorlds U then Option.bind (f_Mo_goes U w p) (fun q3 => if q3.2 = 0 then some (q3.1, 0) else if (q3.1 62 93) < (q3.1 62 76) then f_Mo_goInAll_8 (f_Mo_goInAll_1 m) (up q3.1 62 93 (q3.1 62 76)) p w else f_Mo_goInAll_8 (f_Mo_goInAll_1 m) q3.1 p w) else some (U, 1)) _
        have wc := s.2.2.2.2.1
        rw [wc.2.2]
        refine Two.iteL (fun g => Two.posR g ?_) (fun g => Two.negR g (Two.ok ⟨Or.inr rfl, Or.inr rfl, ⟨fun _ => ⟨rfl, h93⟩, fun _ => rfl⟩, v, CQ1.rf, MG.rf, by dsimp only; omega⟩))
        refine Two.bind2 (isDone3 s v (by omega) ⟨w0, g⟩ hp hn hj hk ht) (fun q z hq => ?_)
        obtain ⟨a1, a2, a3, a4, a5, a6, a7, a8⟩ := hq
        rw [a1]
        rcases a2 with z0 | z1
        · rw [z0, if_pos rfl, if_pos rfl]
          exact Two.ok ⟨Or.inl rfl, Or.inl rfl, ⟨fun x => (by cases x), fun x => (by cases x.1)⟩, a3, a4.q1, a5.mg, by dsimp only; omega⟩
        · rw [z1, if_neg (show ¬ (1 : Int) = 0 by omega), if_neg (show ¬ (1 : Int) = 0 by omega)]
          have ra := a8 z1
          have ssq := a4.ss
          obtain ⟨s1, s2, s3, s4⟩ := ra.sums
          have nq := nJ_ss ssq
          have m93 : z.1 62 93 = 0 := by rw [a5 62 93 rfl]; exact h93
          have at0 : ∀ _ : Nat, atV q.1.1 47 6 0 = z.1 62 76 := fun _ => (atV_in (by omega) (by omega)).trans s1
          have q18 : q.1.1 18 7 = V 18 7 := ssq.2.2.1
          rw [at0 0, w32_id (x := w + 1) (by omega) (by omega), m93]
          by_cases g0 : z.1 62 76 = 0
          · rw [if_pos g0, if_neg (by omega)]
            have nx : ∀ U2 : VV, MG z.1 U2 → (∀ x, ¬ (94 ≤ x ∧ x ≤ 95) → U2 62 x = z.1 62 x) → Two (f_Br_neverStops_1 n q.1.1 q.1.2 p n0 (w + 1)) (f_Mo_goInAll_10 (f_Mo_goInAll_1 m) U2 p w) (fun q z => (q.2 = 0 ∨ q.2 = 1) ∧ (z.2 = 0 ∨ z.2 = 1) ∧ (q.2 = 1 ↔ (z.2 = 1 ∧ z.1 62 93 = 0)) ∧ INVR q.1.1 q.1.2 ∧ CQ1 V q.1.1 ∧ MG U z.1 ∧ (V 46 2 ≤ q.1.1 46 2 ∧ q.1.1 46 2 ≤ V 46 2 + (V 18 7 - w))) := by
              intro U2 mg c0
              unfold f_Mo_goInAll_10
              rw [w32_id (by omega) (by omega)]
              refine (ih n m q.1.1 U2 q.1.2 (w + 1) (by omega) (by omega) (by omega) (by omega) (by omega) (((s.mf a5).mg mg).ss ssq) a3 (by omega) (by omega) (hk.ss ssq) (by rw [c0 22 (by omega), a5 62 22 rfl]; exact ht) (by rw [c0 93 (by omega)]; exact m93)).imp (fun q' z' hq' => ?_)
              obtain ⟨b1, b2, b3, b4, b5, b6, b7⟩ := hq'
              exact ⟨b1, b2, b3, b4, a4.q1.tr b5, (a5.mg.tr mg).tr b6, by omega⟩
            unfold f_Mo_goInAll_8
            refine Two.iteR (fun _ => nx _ ((MG.rf.up (by omega)).up (by omega)) (fun x hx => by rw [up_nf _ _ (by omega), up_nf _ _ (by omega)])) (fun _ => nx _ (MG.rf.up (by omega)) (fun x hx => by rw [up_nf _ _ (by omega)]))
          · rw [if_neg g0, if_pos (by omega)]
            refine Two.ofR ?_
            have nx : ∀ U3 : VV, MG z.1 U3 → (∀ x, ¬ (93 ≤ x ∧ x ≤ 95) → U3 62 x = z.1 62 x) → 1 ≤ U3 62 93 → Sm (f_Mo_goInAll_10 (f_Mo_goInAll_1 m) U3 p w) (fun y => Sm (some ((q.1.1, q.1.2), (0 : Int))) (fun x => (x.2 = 0 ∨ x.2 = 1) ∧ (y.2 = 0 ∨ y.2 = 1) ∧ (x.2 = 1 ↔ (y.2 = 1 ∧ y.1 62 93 = 0)) ∧ INVR x.1.1 x.1.2 ∧ CQ1 V x.1.1 ∧ MG U y.1 ∧ (V 46 2 ≤ x.1.1 46 2 ∧ x.1.1 46 2 ≤ V 46 2 + (V 18 7 - w)))) := by
              intro U3 mg3 d0 d93
              unfold f_Mo_goInAll_10
              rw [w32_id (by omega) (by omega)]
              refine (goM hp hn k m q.1.1 U3 q.1.2 (w + 1) (by omega) (by omega) (by omega) (by omega) (((s.mf a5).mg mg3).ss ssq) a3 (by omega) (by omega) (hk.ss ssq) (by rw [d0 22 (by omega), a5 62 22 rfl]; exact ht) d93).imp (fun z' hz' => ?_)
              refine Sm.ok ⟨Or.inl rfl, hz'.1, ⟨fun x => (by cases x), fun x => ?_⟩, a3, a4.q1, (a5.mg.tr mg3).tr hz'.2.2, by dsimp only; omega⟩
              have := hz'.2.1 x.1
              omega
            unfold f_Mo_goInAll_8
            refine Sm.ite (fun _ => nx _ (((MG.rf.up (by omega)).up (by omega)).up (by omega)) (fun x hx => by rw [up_nf _ _ (by omega), up_nf _ _ (by omega), up_nf _ _ (by omega)]) ?_) (fun _ => nx _ ((MG.rf.up (by omega)).up (by omega)) (fun x hx => by rw [up_nf _ _ (by omega), up_nf _ _ (by omega)]) ?_)
            · rw [up_nf _ _ (by omega), up_nf _ _ (by omega), up_eq]; omega
            · rw [up_nf _ _ (by omega), up_eq]; omega
/-- the row of what is known of the fewest -/
def CQ3 (p : Int) (V V2 : VV) : Prop := ∀ i, ¬ (28 ≤ i ∧ i ≤ 48) → i ≠ 59 → i ≠ 60 → i < 123 → (∀ k, ¬ (i = 61 ∧ k = p.toNat) → V2 i k = V i k)
theorem CQ1.q3 {V V2 : VV} {p : Int} (h : CQ1 V V2) : CQ3 p V V2 := fun i a b c d k _ => by rw [h i a b c d]
theorem CQ3.tr {V V2 V3 : VV} {p : Int} (h : CQ3 p V V2) (h2 : CQ3 p V2 V3) : CQ3 p V V3 := fun i a b c d k e => (h2 i a b c d k e).trans (h i a b c d k e)
theorem goInNo22 {V U : VV} {p x : Int} (s : SETR V U) (h : ¬ (0 < nJ V ∧ KIN V)) : Sm (f_Mo_goInAll (up U 62 22 x) p) (fun z => z.2 = 0 ∧ MG (up U 62 22 x) z.1) := goInNo s.up22 h
theorem fewL {p had : Int} (hp : 1 ≤ p ∧ p ≤ 20) : ∀ (k n m : Nat) (V U : VV) (h : HP) (best nn : Int), 17 - nn ≤ (k : Int) → k < n → k < m → 1 ≤ nn → nn ≤ 17 → SETR V U → INVR V h → V 46 2 ≤ 800000 + 3 * nn → (best = -1 ∨ (1 ≤ best ∧ best ≤ 16)) → Two (f_Br_fewest_8 n V h p best nn) (f_Mo_fewest_4 m U p had best nn) (fun q z => q.2 = z.2 ∧ (z.2 = -1 ∨ (1 ≤ z.2 ∧ z.2 ≤ 16)) ∧ INVR q.1.1 q.1.2 ∧ CQ3 p V q.1.1 ∧ q.1.1 61 p.toNat = q.2 ∧ MG (up U 62 22 had) z.1 ∧ (V 46 2 ≤ q.1.1 46 2 ∧ q.1.1 46 2 ≤ V 46 2 + 3 * (17 - nn))) := by
  have fin : ∀ (V U : VV) (h : HP) (best nn : Int), nn ≤ 17 → INVR V h → (best = -1 ∨ (1 ≤ best ∧ best ≤ 16)) → Two (f_Br_fewest_16 V h p best) (f_Mo_fewest_11 U had best) (fun q z => q.2 = z.2 ∧ (z.2 = -1 ∨ (1 ≤ z.2 ∧ z.2 ≤ 16)) ∧ INVR q.1.1 q.1.2 ∧ CQ3 p V q.1.1 ∧ q.1.1 61 p.toNat = q.2 ∧ MG (up U 62 22 had) z.1 ∧ (V 46 2 ≤ q.1.1 46 2 ∧ q.1.1 46 2 ≤ V 46 2 + 3 * (17 - nn))) := by
    intro V U h best nn hnn v hb
    unfold f_Br_fewest_16 f_Mo_fewest_11
    rw [lt_eq, setV_in (by omega) (by omega)]
    refine Two.ok ⟨rfl, hb, v.row (fun i _ _ _ _ a => up_na _ _ _ a), fun i a b c d k e => ?_, by dsimp only; exact up_eq _ _ _ _, MG.rf, ?_⟩
    · dsimp only
      rw [up_ap]
      by_cases i0 : i = 61
      · rw [if_pos i0, if_neg (fun x => e ⟨i0, x⟩), i0]
      · rw [if_neg i0]
    · dsimp only
      rw [up_na _ _ _ (by omega)]; omega
  intro k
  induction k with
  | zero =>
    intro n m V U h best nn e1 e2 e3 p0 p1 s v st hb
    cases n with
    | zero => omega
    | succ n =>
      cases m with
      | zero => omega
      | succ m =>
        show Two (if 16 < nn then f_Br_fewest_16 V h p best else _) (if 16 < nn then f_Mo_fewest_11 U had best else _) _
        exact Two.posL (by omega) (Two.posR (by omega) (fin V U h best nn p1 v hb))
  | succ k ih =>
    intro n m V U h best nn e1 e2 e3 p0 p1 s v st hb
    cases n with
    | zero => omega
    | succ n =>
      cases m with
      | zero => omega
      | succ m =>
        show Two (if 16 < nn then f_Br_fewest_16 V h p best else if best = (-1) then Option.bind (f_Br_canBePaved V) (fun q3 => if q3 = 0 then f_Br_fewest_8 n V h p best (w32 (nn + 1)) else Option.bind (f_Br_neverStops V h p nn) (fun q5 => f_Br_fewest_8 n q5.1.1 q5.1.2 p (if q5.2 = 0 then best else nn : Int) (w32 (nn + 1)))) else f_Br_fewest_16 V h p best) (if 16 < nn then f_Mo_fewest_11 U had best else if best < 0 then Option.bind (f_Mo_goInAll (up U 62 22 nn) p) (fun q3 => f_Mo_fewest_4 m q3.1 p had (if q3.2 = 0 then best else (if (q3.1 62 93) = 0 then nn else best : Int) : Int) (w32 (nn + 1))) else f_Mo_fewest_11 U had best) _
        refine Two.iteL (fun g => Two.posR g (fin V U h best nn p1 v hb)) (fun g => Two.negR g ?_)
        refine Two.iteL (fun gb => Two.posR (by omega) ?_) (fun gb => Two.negR (by omega) (fin V U h best nn p1 v hb))
        rw [w32_id (x := nn + 1) (by omega) (by omega)]
        have nx : ∀ (V2 U2 : VV) (h2 : HP) (b2 : Int), INVR V2 h2 → CQ1 V V2 → MG (up U 62 22 nn) U2 → (V 46 2 ≤ V2 46 2 ∧ V2 46 2 ≤ V 46 2 + 3) → (b2 = -1 ∨ (1 ≤ b2 ∧ b2 ≤ 16)) → Two (f_Br_fewest_8 n V2 h2 p b2 (nn + 1)) (f_Mo_fewest_4 m U2 p had b2 (nn + 1)) (fun q z => q.2 = z.2 ∧ (z.2 = -1 ∨ (1 ≤ z.2 ∧ z.2 ≤ 16)) ∧ INVR q.1.1 q.1.2 ∧ CQ3 p V q.1.1 ∧ q.1.1 61 p.toNat = q.2 ∧ MG (up U 62 22 had) z.1 ∧ (V 46 2 ≤ q.1.1 46 2 ∧ q.1.1 46 2 ≤ V 46 2 + 3 * (17 - nn))) := by
          intro V2 U2 h2 b2 v2 c2 m2 st2 hb2
          refine (ih n m V2 U2 h2 b2 (nn + 1) (by omega) (by omega) (by omega) (by omega) (by omega) ((s.up22.mg m2).ss c2.ss) v2 (by omega) hb2).imp (fun q' z' hq' => ?_)
          obtain ⟨b1, b2', b3, b4, b5, b6, b7⟩ := hq'
          refine ⟨b1, b2', b3, c2.q3.tr b4, b5, ?_, by omega⟩
          intro i kk e f
          rw [b6 i kk e f]
          by_cases x : i = 62 ∧ kk = 22
          · rw [x.1, x.2, up_eq, up_eq]
          · have := m2 i kk e f
            rw [up_ap] at this ⊢
            rw [up_ap]
            by_cases i0 : i = 62
            · rw [if_pos i0, if_neg (fun y => x ⟨i0, y⟩)] at this
              rw [if_pos i0, if_pos i0, if_neg (fun y => x ⟨i0, y⟩), if_neg (fun y => x ⟨i0, y⟩)]
              exact this
            · rw [if_neg i0] at this
              rw [if_neg i0, if_neg i0]
              exact this
        refine Two.bindL (canC s.1 s.2.2.1.2.1) (fun q2 hq2 => ?_)
        rcases hq2 with ⟨c1, c2, c3⟩ | ⟨c1, c2⟩
        · rw [c1, if_neg (by omega)]
          unfold f_Br_neverStops f_Mo_goInAll
          have m0 : MG (up U 62 22 nn) (up (up (up (up U 62 22 nn) 62 93 0) 62 94 0) 62 95 0) := ((MG.rf.up (by omega)).up (by omega)).up (by omega)
          have z93 : up (up (up (up U 62 22 nn) 62 93 0) 62 94 0) 62 95 0 62 93 = 0 := by rw [up_nf _ _ (by omega), up_nf _ _ (by omega), up_eq]
          have z22 : up (up (up (up U 62 22 nn) 62 93 0) 62 94 0) 62 95 0 62 22 = nn := by rw [up_nf _ _ (by omega), up_nf _ _ (by omega), up_nf _ _ (by omega), up_eq]
          generalize up (up (up (up U 62 22 nn) 62 93 0) 62 94 0) 62 95 0 = U1 at *
          have wc := s.2.2.2.2.1
          refine Two.bind2 (neverL hp ⟨p0, by omega⟩ 3 FU FU V U1 h 0 (by omega) (by decide) (by decide) (by omega) (by omega) (s.up22.mg m0) v (by omega) c2 c3 z22 z93) (fun q z hq => ?_)
          obtain ⟨a1, a2, a3, a4, a5, a6, a7⟩ := hq
          have eb : (if z.2 = 0 then best else (if (z.1 62 93) = 0 then nn else best : Int) : Int) = (if q.2 = 0 then best else nn : Int) := by
            rcases a1 with q0 | q1
            · rw [if_pos q0]
              rcases a2 with z0 | z1
              · rw [if_pos z0]
              · rw [if_neg (by omega), if_neg (fun x => by have := a3.mpr ⟨z1, x⟩; omega)]
            · obtain ⟨y1, y2⟩ := a3.mp q1
              rw [if_neg (show ¬ z.2 = 0 by omega), if_pos y2, if_neg (show ¬ q.2 = 0 by omega)]
          rw [eb]
          refine nx q.1.1 z.1 q.1.2 _ a4 a5 (m0.tr a6) (by omega) ?_
          split
          · exact hb
          · exact Or.inr ⟨by omega, by omega⟩
        · rw [c1, if_pos rfl]
          refine Two.bindR (goInNo22 s c2) (fun z hz => ?_)
          rw [hz.1, if_pos rfl]
          exact nx V z.1 h best v CQ1.rf hz.2 (by omega) hb
