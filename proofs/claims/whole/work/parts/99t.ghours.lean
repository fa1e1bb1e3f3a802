/-! hours -/
theorem G.hrs {c : Int} {V U W U2 : VV} {h : HP} (g : G c V h U) (w : ∀ i, ((26 ≤ i ∧ i ≤ 54)) → W i = V i) (s : SETR W U2) (t : U2 62 22 = W 10 5 ∧ 1 ≤ W 10 5 ∧ W 10 5 ≤ 16) (u48 : U2 62 48 = W 18 6) (u33 : U2 62 33 = U 62 33) (tp : TAPS W U2) (ft : W 0 16 = U2 62 41 ∧ W 0 17 = U2 62 42) (u105 : U2 62 105 = U 62 105) (u : ∀ i, ((75 ≤ i ∧ i ≤ 79) ∨ i = 118 ∨ i = 119) → U2 i = U i) : G (c + 1) (f_Br_changed W) h U2 := by
  obtain ⟨g1, g2, g3, g4, g5, g6, g7, g8, g9, g10⟩ := g
  obtain ⟨c0, c1, c2, c3, c4, c5⟩ := chgV W
  have ss : SS W (f_Br_changed W) := ⟨fun i a b => c0 i (by omega) (by omega) (by omega), by rw [c0 18 (by omega) (by omega) (by omega)], by rw [c0 18 (by omega) (by omega) (by omega)], fun i a b => c0 i (by omega) (by omega) (by omega)⟩
  refine ⟨g1.chg (fun i hi => w i (by omega)), ?_, s.ss ss, ?_, ?_, ?_, ?_, ?_, ?_, PKC.chg⟩
  · rw [c4 2 (by omega), w 46 (by omega)]; omega
  · rw [c0 10 (by omega) (by omega) (by omega)]; exact t
  · unfold ROLS
    rw [c0 49 (by omega) (by omega) (by omega), c0 50 (by omega) (by omega) (by omega), c0 51 (by omega) (by omega) (by omega), c0 52 (by omega) (by omega) (by omega), c0 53 (by omega) (by omega) (by omega), c0 54 (by omega) (by omega) (by omega), w 49 (by omega), w 50 (by omega), w 51 (by omega), w 52 (by omega), w 53 (by omega), w 54 (by omega), u33, u 75 (by omega), u 76 (by omega), u 77 (by omega), u 78 (by omega), u 79 (by omega)]
    exact g5
  · unfold TAPS
    rw [c0 16 (by omega) (by omega) (by omega), c0 17 (by omega) (by omega) (by omega)]
    exact tp
  · rw [c2 16 (by omega), c2 17 (by omega)]; exact ft
  · rw [c0 18 (by omega) (by omega) (by omega)]; exact u48
  · unfold RATS
    rw [c0 26 (by omega) (by omega) (by omega), c0 27 (by omega) (by omega) (by omega), w 26 (by omega), w 27 (by omega), u105, u 118 (by omega), u 119 (by omega)]
    exact g9
theorem tapeW (V : VV) : (∀ i, i ≠ 0 → i ≠ 16 → f_Br_tapeWasRead V i = V i) ∧ f_Br_tapeWasRead V 0 16 = V 16 4 ∧ f_Br_tapeWasRead V 0 17 = V 16 5 ∧ f_Br_tapeWasRead V 16 1 = 0 ∧ f_Br_tapeWasRead V 0 15 = V 0 15 := by
  unfold f_Br_tapeWasRead
  refine ⟨fun i a b => by rw [up_na _ _ _ b, up_na _ _ _ a, up_na _ _ _ a], ?_, ?_, up_eq _ _ _ _, ?_⟩
  · rw [up_na _ _ _ (by omega), up_nf _ _ (by omega), up_eq]
  · rw [up_na _ _ _ (by omega), up_eq]
  · rw [up_na _ _ _ (by omega), up_nf _ _ (by omega), up_nf _ _ (by omega)]
theorem toldM (U : VV) (x : Int) : (∀ i, i ≠ 62 → (f_Mo_isTold U x).1 i = U i) ∧ (∀ k, ¬ (40 ≤ k ∧ k ≤ 42) → (f_Mo_isTold U x).1 62 k = U 62 k) ∧ (f_Mo_isTold U x).1 62 40 = 0 ∧ (f_Mo_isTold U x).1 62 41 = x ∧ (f_Mo_isTold U x).1 62 42 = (if x = 0 then -1 else U 62 44) ∧ (f_Mo_isTold U x).2 = if x = 0 then 1 else 0 := by
  unfold f_Mo_isTold
  refine ⟨fun i a => ?_, fun k a => ?_, ?_, ?_, ?_, rfl⟩
  · dsimp only; rw [up_na _ _ _ a, up_na _ _ _ a, up_na _ _ _ a]
  · dsimp only; rw [up_nf _ _ (by omega), up_nf _ _ (by omega), up_nf _ _ (by omega)]
  · dsimp only; rw [up_eq]
  · dsimp only; rw [up_nf _ _ (by omega), up_nf _ _ (by omega), up_eq]
  · dsimp only; rw [up_nf _ _ (by omega), up_eq]
theorem g_hours {c : Int} {V U : VV} {h : HP} (g : G c V h U) : CA3 c h (f_Br_hours V) (f_Mo_hours U) := by
  have tp := g.2.2.2.2.2.1
  unfold CA3 f_Br_hours f_Hours_read f_Mo_hours
  rw [obb]
  obtain ⟨q1, z, eq, ez, s1⟩ := scanC (v2 := 0) tp
  rw [eq, ez, obs, obs]
  obtain ⟨m1, m2, m3, m4, m5, m6⟩ := toldM z.1 z.2
  rcases s1 with ⟨z0, m, i1⟩ | ⟨z1, d, fh, fm⟩
  · have f1 := i1.2.2.2.2.1
    have tp1 : TAPS q1 U := by
      unfold TAPS
      rw [f1.2.1, f1.1 17 (by omega) (by omega) (by omega)]
      exact tp
    obtain ⟨q4, z', eq4, ez', s4⟩ := scanC (v2 := 1) tp1
    rw [ez] at ez'
    cases ez'
    rcases s4 with ⟨-, m', i4⟩ | ⟨z1, -, -, -⟩
    · rw [sound1 i1.2.1, if_neg (by omega), lt_eq]
      rw [m6, if_pos z0, if_neg (show ¬ (1 : Int) = 0 by omega)]
      obtain ⟨j1, j2, ⟨j3, j4, j5⟩, ⟨j6, j7, j8⟩, j9, j10, j11⟩ := i4
      have j15 : q4 16 5 = -1 := j1.1 j2
      have F : ∀ i, i ≠ 16 → i ≠ 18 → ¬ (19 ≤ i ∧ i ≤ 23) → q4 i = V i := fun i a b e => (j9.1 i a b (fun x => e x.2)).trans (f1.1 i a b (fun x => x.1 rfl))
      -- the reference's copy
      have h48 : (up (up (f_Mo_isTold z.1 z.2).1 62 48 ((f_Mo_isTold z.1 z.2).1 62 50)) 62 49 ((f_Mo_isTold z.1 z.2).1 62 51)) 62 48 = (m' : Int) := by
        rw [up_nf _ _ (by omega), up_eq, m2 50 (by omega)]; exact j4
      have h49 : (up (up (f_Mo_isTold z.1 z.2).1 62 48 ((f_Mo_isTold z.1 z.2).1 62 50)) 62 49 ((f_Mo_isTold z.1 z.2).1 62 51)) 62 49 = q4 18 9 := by
        rw [up_eq, m2 51 (by omega)]; exact j6.symm
      have hk : ∀ k, k ≠ 48 → k ≠ 49 → (up (up (f_Mo_isTold z.1 z.2).1 62 48 ((f_Mo_isTold z.1 z.2).1 62 50)) 62 49 ((f_Mo_isTold z.1 z.2).1 62 51)) 62 k = (f_Mo_isTold z.1 z.2).1 62 k := fun k a b => by rw [up_nf _ _ b, up_nf _ _ a]
      have hi : ∀ i, i ≠ 62 → (up (up (f_Mo_isTold z.1 z.2).1 62 48 ((f_Mo_isTold z.1 z.2).1 62 50)) 62 49 ((f_Mo_isTold z.1 z.2).1 62 51)) i = z.1 i := fun i a => by rw [up_na _ _ _ a, up_na _ _ _ a]; exact m1 i a
      generalize up (up (f_Mo_isTold z.1 z.2).1 62 48 ((f_Mo_isTold z.1 z.2).1 62 50)) 62 49 ((f_Mo_isTold z.1 z.2).1 62 51) = UA at *
      obtain ⟨y, ey, y1, y2, y3⟩ := cp5 j5 h48 m' FU 0 UA (by omega) (by show m' < 40000; omega) (fun _ _ => rfl) (fun r x _ _ => by rw [if_neg (by omega)])
      rw [show f_Mo_hours_5 FU UA 0 = some y from ey, obb, eq4, obs]
      have v6 : (up (up q4 18 6 (q4 18 8)) 18 7 (max 1 (q4 18 9))) 18 6 = (m' : Int) := by rw [up_nf _ _ (by omega), up_eq]; exact j3
      have v7 : (up (up q4 18 6 (q4 18 8)) 18 7 (max 1 (q4 18 9))) 18 7 = max 1 (q4 18 9) := up_eq _ _ _ _
      have vr : ∀ r, r ≠ 18 → (up (up q4 18 6 (q4 18 8)) 18 7 (max 1 (q4 18 9))) r = q4 r := fun r hr => by rw [up_na _ _ _ hr, up_na _ _ _ hr]
      generalize up (up q4 18 6 (q4 18 8)) 18 7 (max 1 (q4 18 9)) = V1 at *
      have yr : ∀ r i : Nat, 81 ≤ r → r ≤ 85 → i < m' → y.1 r i = z.1 r (40 + i) := fun r i a b d => by rw [y3 r i a b, if_pos d, hi r (by omega)]
      have hrw : HRW V1 y.1 m' := by
        refine ⟨v6, by rw [y2 62 (by omega)]; exact h48, j5, fun i hi2 => ?_⟩
        obtain ⟨a1, ⟨b1, b2, b3, b4⟩, a3, a4⟩ := j11 (by omega) i hi2
        rw [vr 19 (by omega), vr 20 (by omega), vr 21 (by omega), vr 22 (by omega), vr 23 (by omega), yr 81 i (by omega) (by omega) hi2, yr 82 i (by omega) (by omega) hi2, yr 83 i (by omega) (by omega) hi2, yr 84 i (by omega) (by omega) hi2, yr 85 i (by omega) (by omega) hi2]
        exact ⟨a1, b1, a4, a3, b2, fun k1 => ⟨(b3 k1).1, (b3 k1).2.1, ⟨(b3 k1).2.2.1, (b3 k1).2.2.2.1⟩, (b3 k1).2.2.2.2⟩, b4⟩
      refine Two.bindL (a := f_Hours_read_7 FU V1 0) (rd7 hrw v7 (by omega) 4 FU 0 V1 (by omega) (by decide) (by omega) (fun _ _ => rfl) (fun x hx => by omega)) (fun q hq => ?_)
      obtain ⟨p1, p2, p3⟩ := hq
      obtain ⟨t1, t2, t3, t4, t5⟩ := tapeW q.1
      rw [lt_eq, p1, if_neg (show ¬ (1 : Int) = 0 by omega), lt_eq]
      have W18 : f_Br_tapeWasRead q.1 18 = V1 18 := by rw [t1 18 (by omega) (by omega), p2 18 (by omega)]
      have WF : ∀ i, i ≠ 0 → i ≠ 16 → i ≠ 18 → ¬ (19 ≤ i ∧ i ≤ 24) → f_Br_tapeWasRead q.1 i = V i := fun i a b d e => by rw [t1 i a b, p2 i (by omega), vr i d, F i b d (by omega)]
      have YF : ∀ i, i ≠ 62 → ¬ (81 ≤ i ∧ i ≤ 85) → y.1 i = U i := fun i a b => by rw [y2 i b, hi i a]; exact j10.1 i a b
      have Y62 : ∀ k, ¬ (40 ≤ k ∧ k ≤ 51) → k ≠ 57 → y.1 62 k = U 62 k := fun k a b => by rw [y2 62 (by omega), hk k (by omega) (by omega), m2 k (by omega)]; exact j10.2.1 k (by omega) (by omega) (by omega) b
      have Yt : ∀ k, 40 ≤ k → k ≤ 42 → y.1 62 k = (f_Mo_isTold z.1 z.2).1 62 k := fun k a b => by rw [y2 62 (by omega)]; exact hk k (by omega) (by omega)
      obtain ⟨s1, s2, s3, s4, s5, s6⟩ := g.2.2.1
      have g4 := g.2.2.2.1
      have q16 : ∀ k, q.1 16 k = q4 16 k := fun k => by rw [p2 16 (by omega), vr 16 (by omega)]
      refine Two.ok ⟨?_, g.hrs (W := f_Br_tapeWasRead q.1) (U2 := y.1) (fun i a => WF i (by omega) (by omega) (by omega) (by omega)) ⟨s1.congr (fun i a b => WF i (by omega) (by omega) (by omega) (by omega)), ?_, ?_, ?_, ?_, fun x a b => ?_⟩ ?_ ?_ (Y62 33 (by omega) (by omega)) ⟨?_, ?_, fun i hi2 => ?_⟩ ⟨?_, ?_⟩ (Y62 105 (by omega) (by omega)) (fun i a => YF i (by omega) (by omega))⟩
      · dsimp only
        rw [(chgV (f_Br_tapeWasRead q.1)).1 18 (by omega) (by omega) (by omega), W18, v6, y1]
      · unfold SRoad
        rw [WF 1 (by omega) (by omega) (by omega) (by omega), WF 2 (by omega) (by omega) (by omega) (by omega), WF 3 (by omega) (by omega) (by omega) (by omega), WF 6 (by omega) (by omega) (by omega) (by omega), WF 7 (by omega) (by omega) (by omega) (by omega), Y62 0 (by omega) (by omega), Y62 8 (by omega) (by omega), Y62 3 (by omega) (by omega), Y62 4 (by omega) (by omega), Y62 5 (by omega) (by omega), Y62 6 (by omega) (by omega), Y62 7 (by omega) (by omega), YF 63 (by omega) (by omega), YF 64 (by omega) (by omega), YF 65 (by omega) (by omega), YF 66 (by omega) (by omega)]
        exact s2
      · unfold SPl
        rw [WF 10 (by omega) (by omega) (by omega) (by omega), WF 11 (by omega) (by omega) (by omega) (by omega), WF 12 (by omega) (by omega) (by omega) (by omega), WF 13 (by omega) (by omega) (by omega) (by omega), WF 14 (by omega) (by omega) (by omega) (by omega), Y62 17 (by omega) (by omega), Y62 23 (by omega) (by omega), YF 71 (by omega) (by omega), YF 72 (by omega) (by omega), YF 73 (by omega) (by omega), YF 74 (by omega) (by omega)]
        exact s3
      · refine ⟨by unfold WmOK; rw [WF 15 (by omega) (by omega) (by omega) (by omega)]; exact s4.1, fun k hk2 => ?_⟩
        rw [Y62 _ (by omega) (by omega), WF 15 (by omega) (by omega) (by omega) (by omega)]
        exact s4.2 k hk2
      · unfold f_Mo_manyWorlds
        rw [W18, v7, y2 62 (by omega), h49]
        refine ⟨by omega, by omega, ?_⟩
        split <;> omega
      · rw [W18, v7] at b
        obtain ⟨x', rfl⟩ : ∃ x' : Nat, x = (x' : Int) := ⟨x.toNat, by omega⟩
        have hrq : HRW q.1 y.1 m' := by
          unfold HRW at hrw ⊢
          rw [p2 18 (by omega), p2 19 (by omega), p2 20 (by omega), p2 21 (by omega), p2 22 (by omega), p2 23 (by omega)]
          exact hrw
        exact (ha2_of hrq (w := x') (by omega) (p3 x' b)).of ⟨by rw [t1 18 (by omega) (by omega)], fun i a b => t1 i (by omega) (by omega)⟩ ⟨rfl, fun _ _ _ _ _ => rfl⟩
      · rw [Y62 22 (by omega) (by omega), WF 10 (by omega) (by omega) (by omega) (by omega)]; exact g4
      · rw [W18, v6, y2 62 (by omega)]; exact h48
      · rw [t4, Yt 40 (by omega) (by omega), m3]
      · rw [t4]; omega
      · rw [t4] at hi2; omega
      · rw [t2, q16, Yt 41 (by omega) (by omega), m4, z0]; exact j2
      · rw [t3, q16, Yt 42 (by omega) (by omega), m5, if_pos z0]; exact j15
    · exact absurd z0 z1
  · rw [sound0 (V := q1) (by rw [d.1]; exact z1), if_pos rfl, obs, lt_eq, lt_eq, lt_eq]
    obtain ⟨t1, t2, t3, t4, t5⟩ := tapeW q1
    rw [m6, if_neg z1]
    have F : ∀ i, i ≠ 16 → i ≠ 18 → q1 i = V i := fun i a b => fh.1 i a b (fun x => x.1 rfl)
    refine Two.ok ⟨rfl, g.inn (W := f_Br_tapeWasRead q1) (U2 := (f_Mo_isTold z.1 z.2).1) (fun i hi => ?_) ?_ ?_ ?_ ?_ (fun k hk => ?_) (fun i hi => ?_) (fun i a b k hk => ?_) (fun k _ => ?_) ⟨?_, ?_, fun i hi => ?_⟩ ⟨?_, ?_⟩⟩
    · rw [t1 i (by omega) (by omega), F i (by omega) (by omega)]
    · rw [t5, F 0 (by omega) (by omega)]
    · rw [t1 18 (by omega) (by omega)]; exact fh.2.2 6 (by omega) (by omega)
    · rw [t1 18 (by omega) (by omega)]; exact fh.2.2 7 (by omega) (by omega)
    · rw [t1 26 (by omega) (by omega), F 26 (by omega) (by omega)]
    · rw [m2 k (by omega)]; exact fm.2.1 k (by omega) (by omega) (by omega) (by omega)
    · rw [m1 i (by omega)]; exact fm.1 i (by omega) (by omega)
    · rw [m1 i (by omega)]; exact fm.2.2 i a b k hk
    · rw [m1 118 (by omega), m1 119 (by omega), fm.1 118 (by omega) (by omega), fm.1 119 (by omega) (by omega)]; exact ⟨rfl, rfl⟩
    · rw [t4, m3]
    · rw [t4]; omega
    · rw [t4] at hi; omega
    · rw [t2, m4]; exact d.1
    · rw [t3, m5, if_neg z1]; exact d.2.2
