/-! rate -/
theorem cpF {m : Nat} (hm : m ≤ 100) : ∀ (k n i : Nat) (V : VV), i + k = m → k < n → V 16 1 = (m : Int) → Sm (f_Tape_copyFrom_1 n V (i : Int)) (fun W => W 26 1 = (m : Int) ∧ (∀ j : Nat, W 27 j = if i ≤ j ∧ j < m then V 17 j else V 27 j) ∧ ∀ r, r ≠ 26 → r ≠ 27 → W r = V r) := by
  intro k
  induction k with
  | zero =>
    intro n i V e hn h1
    cases n with
    | zero => omega
    | succ n =>
      show Sm (if (i : Int) < V 16 1 then _ else some (up V 26 1 (V 16 1))) _
      rw [h1, if_neg (by omega)]
      exact Sm.ok ⟨up_eq _ _ _ _, fun j => by rw [up_na _ _ _ (by omega), if_neg (by omega)], fun r a _ => up_na _ _ _ a⟩
  | succ k ih =>
    intro n i V e hn h1
    cases n with
    | zero => omega
    | succ n =>
      show Sm (if (i : Int) < V 16 1 then f_Tape_copyFrom_1 n (setV V 27 100 (i : Int) (atV V 17 400 (i : Int))) (w32 ((i : Int) + 1)) else _) _
      rw [h1, if_pos (by omega), atV_in (by omega) (by omega), setV_in (by omega) (by omega), Int.toNat_natCast, w32_id (x := (i : Int) + 1) (by omega) (by omega)]
      refine (ih n (i + 1) (up V 27 i (V 17 i)) (by omega) (by omega) (by rw [up_na _ _ _ (by omega)]; exact h1)).imp (fun W hW => ⟨hW.1, fun j => ?_, fun r a b => by rw [hW.2.2 r a b, up_na _ _ _ b]⟩)
      rw [hW.2.1 j, up_na _ _ _ (show (17 : Nat) ≠ 27 by omega), up_ap, if_pos rfl]
      by_cases g : j = i
      · subst g
        rw [if_neg (by omega), if_pos rfl, if_pos (by omega)]
      · rw [if_neg g]
        by_cases g2 : i + 1 ≤ j ∧ j < m
        · rw [if_pos g2, if_pos (by omega)]
        · rw [if_neg g2, if_neg (by omega)]
theorem cpR {m : Nat} (hm : m ≤ 100) : ∀ (k n i : Nat) (V : VV), i + k = m → k < n → V 62 108 = (m : Int) → Sm (f_Mo_rate_6 n V (i : Int)) (fun y => y.2 = 1 ∧ (∀ j : Nat, j < m → y.1 118 j = (if i ≤ j then V 118 (128 + j) else V 118 j) ∧ y.1 119 j = (if i ≤ j then V 119 (128 + j) else V 119 j)) ∧ ∀ r, r ≠ 118 → r ≠ 119 → y.1 r = V r) := by
  intro k
  induction k with
  | zero =>
    intro n i V e hn h1
    cases n with
    | zero => omega
    | succ n =>
      show Sm (if (i : Int) < V 62 108 then _ else some (V, 1)) _
      rw [h1, if_neg (by omega)]
      exact Sm.ok ⟨rfl, fun j hj => by rw [if_neg (by omega), if_neg (by omega)]; exact ⟨rfl, rfl⟩, fun _ _ _ => rfl⟩
  | succ k ih =>
    intro n i V e hn h1
    cases n with
    | zero => omega
    | succ n =>
      show Sm (if (i : Int) < (V 62 108) then if 0 ≤ (w32 (128 + (i : Int))) ∧ (w32 (128 + (i : Int))) < (256 : Int) then if 0 ≤ (i : Int) ∧ (i : Int) < (256 : Int) then if 0 ≤ (w32 (128 + (i : Int))) ∧ (w32 (128 + (i : Int))) < (256 : Int) then if 0 ≤ (i : Int) ∧ (i : Int) < (256 : Int) then f_Mo_rate_6 n (up (up V 118 (i : Int).toNat (V 118 ((w32 (128 + (i : Int))).toNat))) 119 (i : Int).toNat (V 119 ((w32 (128 + (i : Int))).toNat))) (w32 ((i : Int) + 1)) else none else none else none else none else some (V, 1)) _
      rw [h1, w32_id (x := 128 + (i : Int)) (by omega) (by omega), if_pos (by omega), if_pos (by omega), if_pos (by omega), if_pos (by omega), if_pos (by omega), Int.toNat_natCast, w32_id (x := (i : Int) + 1) (by omega) (by omega), show (128 + (i : Int)).toNat = 128 + i by omega]
      have q8 : ∀ j, (up (up V 118 i (V 118 (128 + i))) 119 i (V 119 (128 + i))) 118 j = if j = i then V 118 (128 + i) else V 118 j := fun j => by rw [up_na _ _ _ (by omega), up_ap, if_pos rfl]
      have q9 : ∀ j, (up (up V 118 i (V 118 (128 + i))) 119 i (V 119 (128 + i))) 119 j = if j = i then V 119 (128 + i) else V 119 j := fun j => by rw [up_ap, if_pos rfl, up_na _ _ _ (by omega)]
      refine (ih n (i + 1) _ (by omega) (by omega) (by rw [up_na _ _ _ (by omega), up_na _ _ _ (by omega)]; exact h1)).imp (fun y hy => ⟨hy.1, fun j hj => ?_, fun r a b => by rw [hy.2.2 r a b, up_na _ _ _ b, up_na _ _ _ a]⟩)
      obtain ⟨y1, y2⟩ := hy.2.1 j hj
      rw [y1, y2, q8, q8, q9, q9]
      by_cases g : j = i
      · subst g
        rw [if_neg (by omega), if_pos rfl, if_pos (Nat.le_refl _), if_neg (by omega), if_pos rfl, if_pos (Nat.le_refl _)]
        exact ⟨rfl, rfl⟩
      · have n1 : ¬ 128 + j = i := by omega
        rw [if_neg g, if_neg g, if_neg n1, if_neg n1]
        by_cases g2 : i + 1 ≤ j
        · have g3 : i ≤ j := by omega
          rw [if_pos g2, if_pos g2, if_pos g3, if_pos g3]
          exact ⟨rfl, rfl⟩
        · have g3 : ¬ i ≤ j := by omega
          rw [if_neg g2, if_neg g2, if_neg g3, if_neg g3]
          exact ⟨rfl, rfl⟩
/-- G with another rate -/
theorem G.rts {c : Int} {V U W U2 : VV} {h : HP} (g : G c V h U) (w : ∀ i, ((1 ≤ i ∧ i ≤ 15) ∨ (19 ≤ i ∧ i ≤ 24) ∨ (28 ≤ i ∧ i ≤ 57) ∨ i = 61 ∨ 123 ≤ i) → W i = V i) (w15 : W 0 15 = V 0 15) (w6 : W 18 6 = V 18 6) (w7 : W 18 7 = V 18 7) (u1 : ∀ k, (k ≤ 12 ∨ (15 ≤ k ∧ k ≤ 39) ∨ k = 48 ∨ k = 49) → U2 62 k = U 62 k) (u2 : ∀ i, ((63 ≤ i ∧ i ≤ 66) ∨ (71 ≤ i ∧ i ≤ 79)) → U2 i = U i) (u3 : ∀ i, 81 ≤ i → i ≤ 85 → ∀ k, k < 40 → U2 i k = U i k) (tp : TAPS W U2) (ft : W 0 16 = U2 62 41 ∧ W 0 17 = U2 62 42) (rt : RATS W U2) : G (c + 1) W h U2 := by
  obtain ⟨g1, g2, g3, g4, g5, g6, g7, g8, g9, g10⟩ := g
  have ss : SS V W := ⟨fun i a b => w i (by omega), w6, w7, fun i a b => w i (by omega)⟩
  refine ⟨g1.fr (fun i hi => w i (by omega)) w6 w7, by rw [w 46 (by omega)]; omega, ?_, ?_, ?_, tp, ft, ?_, rt, g10.fr ss w15 (w 61 (by omega))⟩
  · have s' : SETR V U2 := by
      obtain ⟨s1, s2, s3, s4, s5, s6⟩ := g3
      refine ⟨s1, ?_, ?_, ⟨s4.1, fun k hk => by rw [u1 _ (by omega)]; exact s4.2 k hk⟩, ?_, fun w a b => (s6 w a b).of ⟨rfl, fun _ _ _ => rfl⟩ ⟨u1 48 (by omega), u3⟩⟩
      · unfold SRoad
        rw [u1 0 (by omega), u1 8 (by omega), u1 3 (by omega), u1 4 (by omega), u1 5 (by omega), u1 6 (by omega), u1 7 (by omega), u2 63 (by omega), u2 64 (by omega), u2 65 (by omega), u2 66 (by omega)]
        exact s2
      · unfold SPl
        rw [u1 17 (by omega), u1 23 (by omega), u2 71 (by omega), u2 72 (by omega), u2 73 (by omega), u2 74 (by omega)]
        exact s3
      · unfold f_Mo_manyWorlds
        rw [u1 49 (by omega)]
        exact s5
    exact s'.ss ss
  · rw [u1 22 (by omega), w 10 (by omega)]; exact g4
  · obtain ⟨r1, r2, r3⟩ := g5
    unfold ROLS
    rw [w 49 (by omega), w 50 (by omega), w 51 (by omega), w 52 (by omega), w 53 (by omega), w 54 (by omega), u1 33 (by omega), u2 75 (by omega), u2 76 (by omega), u2 77 (by omega), u2 78 (by omega), u2 79 (by omega)]
    exact ⟨r1, r2, r3⟩
  · rw [u1 48 (by omega), w6]; exact g8
theorem g_rate {c : Int} {V U : VV} {h : HP} (g : G c V h U) : CA3 c h (f_Br_rate V) (f_Mo_rate U) := by
  have tp := g.2.2.2.2.2.1
  obtain ⟨t1, t2, t3⟩ := tp
  unfold CA3 f_Br_rate f_Mo_rate
  rw [← t1]
  by_cases g100 : 100 < V 16 1
  · rw [if_pos g100, if_pos g100]
    exact Two.ok ⟨rfl, g.more⟩
  · rw [if_neg g100, if_neg g100]
    have B : BY 16 17 400 (fun i => V 17 i) (V 16 1).toNat V := ⟨by decide, by omega, by omega, by decide, fun i hi => ⟨rfl, (t3 i (by omega)).2⟩⟩
    have BU : BM (fun i => V 17 i) (V 16 1).toNat U := ⟨by omega, by omega, fun i hi => ⟨(t3 i (by omega)).1.symm, (t3 i (by omega)).2⟩⟩
    obtain ⟨q, z, eq, ez, h1, h2, h3⟩ := readL (bd := False) (by decide) (fun x => x.elim) B BU (by omega)
    unfold f_Rate_read
    rw [ez, obs, obb]
    obtain ⟨s, es⟩ : ∃ s, f_Tape_start 16 17 400 V = some s := by
      cases e : f_Tape_start 16 17 400 V with
      | none => rw [e] at eq; cases eq
      | some s => exact ⟨s, rfl⟩
    rw [es, obs] at eq
    rw [es, obs, eq, obs, lt_eq, lt_eq]
    obtain ⟨m1, m2, m3, m4, m5, m6⟩ := toldM z.1 z.2
    have F : ∀ i, i ≠ 16 → q.1 i = V i := h1.1
    have L105 := g.2.2.2.2.2.2.2.2.1.run (bd := False) (fun x => x.elim)
    obtain ⟨ql, eql, hcf, lr, cd, hlr, -⟩ := L105
    have l105 := cd.len
    have bad : ∀ (W : VV), (∀ i, i ≠ 16 → W i = V i) → (z.2 ≠ 0) → DEAD 16 z.2 (z.1 62 44) W → Two (Option.bind (f_Rate_read_4 W) (fun q2 => lt_ (f_Br_tapeWasRead q2.1) (fun q3 => some (q3, q2.2)))) (if (f_Mo_isTold z.1 z.2).2 = 0 then some ((f_Mo_isTold z.1 z.2).1, 0) else f_Mo_rate_6 FU (up (f_Mo_isTold z.1 z.2).1 62 105 ((f_Mo_isTold z.1 z.2).1 62 108)) 0) (fun q z => q.2 = z.2 ∧ G (c + 1) q.1 h z.1) := by
      intro W hW z1 d
      unfold f_Rate_read_4
      rw [sound0 (V := W) (by rw [d.1]; exact z1), if_pos rfl, obs, lt_eq, m6, if_neg z1, if_pos rfl]
      obtain ⟨t1, t2, t3, t4, t5⟩ := tapeW W
      refine Two.ok ⟨rfl, g.inn (W := f_Br_tapeWasRead W) (U2 := (f_Mo_isTold z.1 z.2).1) (fun i hi => ?_) ?_ ?_ ?_ ?_ (fun k hk => ?_) (fun i hi => ?_) (fun i a b k hk => ?_) (fun k hk => ?_) ⟨?_, ?_, fun i hi => ?_⟩ ⟨?_, ?_⟩⟩
      · rw [t1 i (by omega) (by omega), hW i (by omega)]
      · rw [t5, hW 0 (by omega)]
      · rw [t1 18 (by omega) (by omega), hW 18 (by omega)]
      · rw [t1 18 (by omega) (by omega), hW 18 (by omega)]
      · rw [t1 26 (by omega) (by omega), hW 26 (by omega)]
      · rw [m2 k (by omega)]; exact h2.2.1 k (by omega) (by omega)
      · rw [m1 i (by omega)]; exact h2.1 i (by omega) (by omega) (by omega) (by omega)
      · rw [m1 i (by omega)]; exact congrFun (h2.1 i (by omega) (by omega) (by omega) (by omega)) k
      · rw [m1 118 (by omega), m1 119 (by omega)]; exact h2.2.2 k (by omega)
      · try dsimp only
        rw [t4, m3]
      · try dsimp only
        rw [t4]; omega
      · try dsimp only at hi
        rw [t4] at hi; omega
      · try dsimp only
        rw [t2, m4]; exact d.1
      · try dsimp only
        rw [t3, m5, if_neg z1]; exact d.2.2
    rcases h3 with ⟨z0, k1, k2, k3, l, em, hl, -⟩ | ⟨z1, hd⟩
    · rw [if_pos k3]
      unfold f_Rate_read_4
      rw [sound1 k1, if_neg (by omega), obb, m6, if_pos z0, if_neg (by omega)]
      have e16 : q.1 16 1 = (((V 16 1).toNat : Nat) : Int) := by rw [h1.2]; omega
      obtain ⟨W, eW, w1, w2, w3⟩ := cpF (m := (V 16 1).toNat) (by omega) (V 16 1).toNat FU 0 q.1 (by omega) (by rw [FU_up]; omega) e16
      have eW' : f_Tape_copyFrom q.1 = some W := eW
      rw [eW', obs, obs, lt_eq]
      obtain ⟨t1', t2', t3', t4', t5'⟩ := tapeW W
      have c108 : (up (f_Mo_isTold z.1 z.2).1 62 105 ((f_Mo_isTold z.1 z.2).1 62 108)) 62 108 = ((l.length : Nat) : Int) := by rw [up_nf _ _ (by omega), m2 108 (by omega)]; exact em.1
      have c105 : (up (f_Mo_isTold z.1 z.2).1 62 105 ((f_Mo_isTold z.1 z.2).1 62 108)) 62 105 = z.1 62 108 := by rw [up_eq, m2 108 (by omega)]
      have ck : ∀ k, k ≠ 105 → (up (f_Mo_isTold z.1 z.2).1 62 105 ((f_Mo_isTold z.1 z.2).1 62 108)) 62 k = (f_Mo_isTold z.1 z.2).1 62 k := fun k hk => up_nf _ _ hk
      have ci : ∀ i, i ≠ 62 → (up (f_Mo_isTold z.1 z.2).1 62 105 ((f_Mo_isTold z.1 z.2).1 62 108)) i = z.1 i := fun i hi => by rw [up_na _ _ _ hi]; exact m1 i hi
      generalize up (f_Mo_isTold z.1 z.2).1 62 105 ((f_Mo_isTold z.1 z.2).1 62 108) = UA at *
      obtain ⟨y, ey, y1, y2, y3⟩ := cpR (m := l.length) (by omega) l.length FU 0 UA (by omega) (by rw [FU_up]; omega) c108
      have ey' : f_Mo_rate_6 FU UA 0 = some y := ey
      rw [ey']
      have em1 : z.1 62 108 = (l.length : Int) := em.1
      have WF : ∀ i, i ≠ 0 → i ≠ 16 → i ≠ 26 → i ≠ 27 → f_Br_tapeWasRead W i = V i := fun i a b d e => by rw [t1' i a b, w3 i d e, F i b]
      have Y62 : ∀ k, ¬ (40 ≤ k ∧ k ≤ 47) → k ≠ 105 → ¬ (108 ≤ k ∧ k ≤ 111) → y.1 62 k = U 62 k := fun k a b d => by rw [y3 62 (by omega) (by omega), ck k b, m2 k (by omega)]; exact h2.2.1 k (by omega) (by omega)
      have YF : ∀ i, i ≠ 62 → i ≠ 118 → i ≠ 119 → i ≠ 120 → y.1 i = U i := fun i a b d e => by rw [y3 i b d, ci i a]; exact h2.1 i a b d e
      refine Two.ok ⟨y1.symm, g.rts (W := f_Br_tapeWasRead W) (U2 := y.1) (fun i hi => WF i (by omega) (by omega) (by omega) (by omega)) ?_ ?_ ?_ (fun k hk => Y62 k (by omega) (by omega) (by omega)) (fun i hi => YF i (by omega) (by omega) (by omega) (by omega)) (fun i a b k hk => congrFun (YF i (by omega) (by omega) (by omega) (by omega)) k) ⟨?_, ?_, fun i hi => ?_⟩ ⟨?_, ?_⟩ ⟨U, z.1, ?_, ?_, fun i hi => ?_, ?_, ?_, fun k hk => ?_⟩⟩
      · rw [t5', w3 0 (by omega) (by omega), F 0 (by omega)]
      · rw [WF 18 (by omega) (by omega) (by omega) (by omega)]
      · rw [WF 18 (by omega) (by omega) (by omega) (by omega)]
      · try dsimp only
        rw [t4', y3 62 (by omega) (by omega), ck 40 (by omega), m3]
      · try dsimp only
        rw [t4']; omega
      · try dsimp only at hi
        rw [t4'] at hi; omega
      · try dsimp only
        rw [t2', w3 16 (by omega) (by omega), y3 62 (by omega) (by omega), ck 41 (by omega), m4, z0]; exact k1
      · try dsimp only
        rw [t3', w3 16 (by omega) (by omega), y3 62 (by omega) (by omega), ck 42 (by omega), m5, if_pos z0]; exact k2
      · rw [t1' 26 (by omega) (by omega), w1]; omega
      · rw [t1' 26 (by omega) (by omega), w1]; omega
      · rw [t1' 26 (by omega) (by omega), w1] at hi
        rw [t1' 27 (by omega) (by omega), w2 i, if_pos (by omega), F 17 (by omega)]
        have t := t3 i (by omega)
        exact ⟨t.1.symm, t.2⟩
      · rw [ez, ← z0]
      · rw [y3 62 (by omega) (by omega)]; exact c105
      · have hk' : k < l.length := by omega
        obtain ⟨a1, a2⟩ := y2 k hk'
        rw [if_pos (Nat.zero_le _), ci 118 (by omega)] at a1
        rw [if_pos (Nat.zero_le _), ci 119 (by omega)] at a2
        exact ⟨a1, a2⟩
    · rcases hd with d | ⟨k1, k2, k3, k4⟩
      · by_cases g2 : q.1 16 2 = 0
        · rw [if_pos g2]; exact bad q.1 F z1 d
        · rw [if_neg g2, failD (by rw [d.1]; exact z1)]; exact bad q.1 F z1 d
      · rw [if_neg k2]
        refine bad _ (fun i hi => ?_) z1 ?_
        · rw [failS k1, up_na _ _ _ hi, up_na _ _ _ hi]; exact F i hi
        · rw [failS k1, k3]
          exact ⟨by rw [up_nf _ _ (by omega), up_eq], by omega, by rw [up_eq]; exact k4⟩
