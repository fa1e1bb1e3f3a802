/-! the road is set; plain questions -/
theorem G.road {c : Int} {V V1 W U U2 : VV} {h : HP} (g : G c V h U) (v : ∀ i, i ≠ 1 → i ≠ 2 → i ≠ 3 → i ≠ 6 → i ≠ 7 → V1 i = V i) (d : DR W) (f : FrR V1 W) (s2 : SRoad V1 U2) (u : ∀ i, ¬ (62 ≤ i ∧ i ≤ 66) → U2 i = U i) (u62 : ∀ k, 9 ≤ k → U2 62 k = U 62 k) : G (c + 1) (f_Br_changed W) h U2 := by
  obtain ⟨g1, g2, ⟨s1, s2', s3, s4, s5, s6⟩, g4, g5, g6, g7, g8, g9, g10⟩ := id g
  have w : ∀ i, i ≠ 1 → i ≠ 2 → i ≠ 3 → i ≠ 4 → i ≠ 5 → i ≠ 6 → i ≠ 7 → i ≠ 8 → i ≠ 9 → W i = V i := fun i a1 a2 a3 a4 a5 a6 a7 a8 a9 => (f.1 i a1 a4 a5 a8 a9).trans (v i a1 a2 a3 a6 a7)
  have w' : ∀ i, 10 ≤ i → W i = V i := fun i hi => w i (by omega) (by omega) (by omega) (by omega) (by omega) (by omega) (by omega) (by omega) (by omega)
  have w0 : W 0 = V 0 := w 0 (by omega) (by omega) (by omega) (by omega) (by omega) (by omega) (by omega) (by omega) (by omega)
  refine g.set (fun i hi => w' i (by omega)) (by rw [w0]) (by rw [w0]) ⟨d, ?_, ?_, ?_, ?_, ?_⟩ ?_ ?_ (u62 33 (by omega)) (u62 40 (by omega)) (u62 41 (by omega)) (u62 42 (by omega)) (u62 105 (by omega)) (fun i hi => u i (by omega))
  · unfold SRoad at s2 ⊢
    rw [f.2 8 (by omega), f.2 9 (by omega), f.2 10 (by omega), f.2 11 (by omega), f.2 12 (by omega), f.2 13 (by omega), f.2 14 (by omega), f.1 2 (by omega) (by omega) (by omega) (by omega) (by omega), f.1 3 (by omega) (by omega) (by omega) (by omega) (by omega), f.1 6 (by omega) (by omega) (by omega) (by omega) (by omega), f.1 7 (by omega) (by omega) (by omega) (by omega) (by omega)]
    exact s2
  · unfold SPl
    rw [w' 10 (by omega), w' 11 (by omega), w' 12 (by omega), w' 13 (by omega), w' 14 (by omega), u62 17 (by omega), u62 23 (by omega), u 71 (by omega), u 72 (by omega), u 73 (by omega), u 74 (by omega)]
    exact s3
  · refine ⟨by unfold WmOK; rw [w' 15 (by omega)]; exact s4.1, fun k hk => ?_⟩
    rw [u62 _ (by omega), w' 15 (by omega)]
    exact s4.2 k hk
  · unfold f_Mo_manyWorlds
    rw [w' 18 (by omega), u62 49 (by omega)]
    exact s5
  · intro x a b
    rw [w' 18 (by omega)] at b
    exact (s6 x a b).of ⟨by rw [w' 18 (by omega)], fun i p q => w' i (by omega)⟩ ⟨u62 48 (by omega), fun i p q k hk => by rw [u i (by omega)]⟩
  · rw [u62 22 (by omega), w' 10 (by omega)]; exact g4
  · rw [u62 48 (by omega), w' 18 (by omega)]; exact g8
theorem g_even {c : Int} {V U : VV} {h : HP} {p0 p1 p2 p3 p4 : Int} (g : G c V h U) : CA3 c h (f_Br_even V p0 p1 p2 p3 p4) (some (f_Mo_even U p0 p1 p2 p3 p4)) := by
  unfold f_Br_even f_Mo_even CA3
  by_cases h0 : 20 ≤ p0 ∧ p0 ≤ 120
  · rw [if_neg (show ¬ isFromV p0 20 120 = 0 by rw [isFromV_1 h0.1 h0.2]; omega), if_neg (show ¬ f_Mo_isIn U p0 20 120 = 0 by rw [isIn_1 h0.1 h0.2]; omega)]
    by_cases h1 : 0 ≤ p1 ∧ p1 ≤ 9
    · rw [if_neg (show ¬ isFromV p1 0 9 = 0 by rw [isFromV_1 h1.1 h1.2]; omega), if_neg (show ¬ f_Mo_isIn U p1 0 9 = 0 by rw [isIn_1 h1.1 h1.2]; omega)]
      by_cases h2 : 0 ≤ p2 ∧ p2 ≤ 20
      · rw [if_neg (show ¬ isFromV p2 0 20 = 0 by rw [isFromV_1 h2.1 h2.2]; omega), if_neg (show ¬ f_Mo_isIn U p2 0 20 = 0 by rw [isIn_1 h2.1 h2.2]; omega)]
        by_cases h3 : 1 ≤ p3 ∧ p3 ≤ 9
        · rw [if_neg (show ¬ isFromV p3 1 9 = 0 by rw [isFromV_1 h3.1 h3.2]; omega), if_neg (show ¬ f_Mo_isIn U p3 1 9 = 0 by rw [isIn_1 h3.1 h3.2]; omega)]
          by_cases h4 : 1 ≤ p4 ∧ p4 ≤ 9
          · rw [if_neg (show ¬ isFromV p4 1 9 = 0 by rw [isFromV_1 h4.1 h4.2]; omega), if_neg (show ¬ f_Mo_isIn U p4 1 9 = 0 by rw [isIn_1 h4.1 h4.2]; omega)]
            obtain ⟨s1, s2, -⟩ := id g.2.2.1
            have rs : RS (up (up (up (up (up V 1 10 p0) 1 11 p1) 1 12 p2) 1 13 p3) 1 14 p4) := by
              obtain ⟨r1, r2, r3, r4, r5, r6, r7, r8, r9⟩ := s1.1
              unfold RS
              simp only [up_ap, Nat.reduceEqDiff, reduceIte]
              exact ⟨r1, r2, h0, h1, h2, h3, h4, r8, r9⟩
            refine Two.bindL (settle_ok rs) (fun W hW => ?_)
            rw [lt_eq]
            refine Two.ok ⟨rfl, g.road (V1 := up (up (up (up (up V 1 10 p0) 1 11 p1) 1 12 p2) 1 13 p3) 1 14 p4) (U2 := up (up (up (up (up U 62 3 p0) 62 4 p1) 62 5 p2) 62 6 p3) 62 7 p4) (fun i a _ _ _ _ => by rw [up_na _ _ _ a, up_na _ _ _ a, up_na _ _ _ a, up_na _ _ _ a, up_na _ _ _ a]) hW.1 hW.2 ?_ (fun i hi => by rw [up_na _ _ _ (by omega), up_na _ _ _ (by omega), up_na _ _ _ (by omega), up_na _ _ _ (by omega), up_na _ _ _ (by omega)]) (fun k hk => by rw [up_nf _ _ (by omega), up_nf _ _ (by omega), up_nf _ _ (by omega), up_nf _ _ (by omega), up_nf _ _ (by omega)])⟩
            unfold SRoad
            simp only [up_ap, Nat.reduceEqDiff, reduceIte]
            obtain ⟨q1, q2, q3, q4, q5, q6, q7, q8, q9⟩ := s2
            exact ⟨q1, q2, trivial, trivial, trivial, trivial, trivial, q8, q9⟩
          · rw [if_pos (isFromV_0.mpr h4), if_pos (isIn_0.mpr h4)]; exact dg3 g 0
        · rw [if_pos (isFromV_0.mpr h3), if_pos (isIn_0.mpr h3)]; exact dg3 g 0
      · rw [if_pos (isFromV_0.mpr h2), if_pos (isIn_0.mpr h2)]; exact dg3 g 0
    · rw [if_pos (isFromV_0.mpr h1), if_pos (isIn_0.mpr h1)]; exact dg3 g 0
  · rw [if_pos (isFromV_0.mpr h0), if_pos (isIn_0.mpr h0)]; exact dg3 g 0
/-- nothing is new, but the class forgets -/
theorem G.forg {c : Int} {V U : VV} {h : HP} (g : G c V h U) : G (c + 1) (f_Br_changed V) h U := by
  obtain ⟨g1, g2, g3, g4, g5, g6, g7, g8, g9, g10⟩ := id g
  exact g.set (W := V) (U2 := U) (fun _ _ => rfl) rfl rfl g3 g4 g8 rfl rfl rfl rfl rfl (fun _ _ => rfl)
theorem sadd {V : VV} {p0 p1 : Int} {m : Nat} (em : V 1 8 = (m : Int)) (hm : m < 12) : f_Road_addSection V p0 p1 = Option.bind (f_Road_settle (up (up (up V 2 m p0) 3 m p1) 1 8 ((m : Int) + 1))) (fun q4 => some (q4, w32 ((q4 1 8) - 1))) := by
  unfold f_Road_addSection
  rw [em, if_pos (by omega), lt_eq, setV_in (V := V) (id := 2) (by omega) (by omega), Int.toNat_natCast]
  have e2 : up V 2 m p0 1 8 = (m : Int) := by rw [up_na _ _ _ (by omega)]; exact em
  generalize up V 2 m p0 = V2 at *
  rw [e2, lt_eq, setV_in (V := V2) (id := 3) (by omega) (by omega), Int.toNat_natCast]
  have e3 : up V2 3 m p1 1 8 = (m : Int) := by rw [up_na _ _ _ (by omega)]; exact e2
  rw [e3, w32_id (x := (m : Int) + 1) (by omega) (by omega)]
theorem ladd {V : VV} {p0 p1 : Int} {m : Nat} (em : V 1 9 = (m : Int)) (hm : m < 3) : f_Road_addLayer V p0 p1 = Option.bind (f_Road_settle (up (up (up V 6 m p0) 7 m p1) 1 9 ((m : Int) + 1))) (fun q4 => some (q4, w32 ((q4 1 9) - 1))) := by
  unfold f_Road_addLayer
  rw [em, if_pos (by omega), lt_eq, setV_in (V := V) (id := 6) (by omega) (by omega), Int.toNat_natCast]
  have e2 : up V 6 m p0 1 9 = (m : Int) := by rw [up_na _ _ _ (by omega)]; exact em
  generalize up V 6 m p0 = V2 at *
  rw [e2, lt_eq, setV_in (V := V2) (id := 7) (by omega) (by omega), Int.toNat_natCast]
  have e3 : up V2 7 m p1 1 9 = (m : Int) := by rw [up_na _ _ _ (by omega)]; exact e2
  rw [e3, w32_id (x := (m : Int) + 1) (by omega) (by omega)]
theorem g_section {c : Int} {V U : VV} {h : HP} {p0 p1 : Int} (g : G c V h U) : CA3 c h (f_Br_section V p0 p1) (f_Mo_section U p0 p1) := by
  unfold f_Br_section f_Mo_section CA3
  by_cases h0 : 10 ≤ p0 ∧ p0 ≤ 500
  · rw [if_neg (show ¬ isFromV p0 10 500 = 0 by rw [isFromV_1 h0.1 h0.2]; omega), if_neg (show ¬ f_Mo_isIn U p0 10 500 = 0 by rw [isIn_1 h0.1 h0.2]; omega)]
    by_cases h1 : 0 ≤ p1 ∧ p1 ≤ 60
    · rw [if_neg (show ¬ isFromV p1 0 60 = 0 by rw [isFromV_1 h1.1 h1.2]; omega), if_neg (show ¬ f_Mo_isIn U p1 0 60 = 0 by rw [isIn_1 h1.1 h1.2]; omega)]
      obtain ⟨s1, s2, -⟩ := id g.2.2.1
      obtain ⟨q1, q2, q3, q4, q5, q6, q7, q8, q9⟩ := id s2
      obtain ⟨r1, r2, r3, r4, r5, r6, r7, r8, r9⟩ := id s1.1
      by_cases hm : V 1 8 < 12
      · obtain ⟨m, em⟩ : ∃ m : Nat, V 1 8 = (m : Int) := ⟨(V 1 8).toNat, by omega⟩
        rw [sadd em (by omega), if_neg (show ¬ U 62 0 = 12 by omega), q1, em, Int.toNat_natCast, w32_id (x := (m : Int) + 1) (by omega) (by omega), w32_id (x := (m : Int) + 1 - 1) (by omega) (by omega), show (m : Int) + 1 - 1 = (m : Int) by omega]
        have rs : RS (up (up (up V 2 m p0) 3 m p1) 1 8 ((m : Int) + 1)) := by
          unfold RS
          simp only [up_ap, Nat.reduceEqDiff, reduceIte]
          refine ⟨by omega, r2, r3, r4, r5, r6, r7, fun i hi => ?_, r9⟩
          by_cases e : i = m
          · rw [if_pos e, if_pos e]; exact ⟨h0, h1⟩
          · rw [if_neg e, if_neg e]; exact r8 i (by omega)
        refine Two.posR (by omega) (Two.posR (by omega) (Two.bbindL (Two.bindL (settle_ok rs) (fun W hW => ?_))))
        have e8 : W 1 8 = (m : Int) + 1 := by rw [hW.2.2 8 (by omega), up_eq]
        show Two (some (f_Br_changed W, w32 (W 1 8 - 1))) _ _
        rw [e8, w32_id (by omega) (by omega)]
        refine Two.ok ⟨by dsimp only; omega, g.road (V1 := up (up (up V 2 m p0) 3 m p1) 1 8 ((m : Int) + 1)) (U2 := up (up (up U 63 m p0) 64 m p1) 62 0 ((m : Int) + 1)) (fun i a b d _ _ => by rw [up_na _ _ _ a, up_na _ _ _ d, up_na _ _ _ b]) hW.1 hW.2 ?_ (fun i hi => by rw [up_na _ _ _ (by omega), up_na _ _ _ (by omega), up_na _ _ _ (by omega)]) (fun k hk => by rw [up_nf _ _ (by omega), up_na _ _ _ (by omega), up_na _ _ _ (by omega)])⟩
        unfold SRoad
        simp only [up_ap, Nat.reduceEqDiff, reduceIte]
        refine ⟨trivial, q2, q3, q4, q5, q6, q7, fun i hi => ?_, q9⟩
        by_cases e : i = m
        · rw [if_pos e, if_pos e, if_pos e, if_pos e]; exact ⟨rfl, rfl⟩
        · rw [if_neg e, if_neg e, if_neg e, if_neg e]; exact q8 i (by omega)
      · unfold f_Road_addSection
        rw [if_neg hm, if_pos (show U 62 0 = 12 by omega)]
        exact Two.ok ⟨rfl, g.forg⟩
    · rw [if_pos (isFromV_0.mpr h1), if_pos (isIn_0.mpr h1)]; exact dg3 g (-1)
  · rw [if_pos (isFromV_0.mpr h0), if_pos (isIn_0.mpr h0)]; exact dg3 g (-1)
theorem g_layer {c : Int} {V U : VV} {h : HP} {p0 p1 : Int} (g : G c V h U) : CA3 c h (f_Br_layer V p0 p1) (f_Mo_layer U p0 p1) := by
  unfold f_Br_layer f_Mo_layer CA3
  by_cases h0 : 20 ≤ p0 ∧ p0 ≤ 200
  · rw [if_neg (show ¬ isFromV p0 20 200 = 0 by rw [isFromV_1 h0.1 h0.2]; omega), if_neg (show ¬ f_Mo_isIn U p0 20 200 = 0 by rw [isIn_1 h0.1 h0.2]; omega)]
    by_cases h1 : 0 ≤ p1 ∧ p1 ≤ 2
    · rw [if_neg (show ¬ isFromV p1 0 2 = 0 by rw [isFromV_1 h1.1 h1.2]; omega), if_neg (show ¬ f_Mo_isIn U p1 0 2 = 0 by rw [isIn_1 h1.1 h1.2]; omega)]
      obtain ⟨s1, s2, -⟩ := id g.2.2.1
      obtain ⟨q1, q2, q3, q4, q5, q6, q7, q8, q9⟩ := id s2
      obtain ⟨r1, r2, r3, r4, r5, r6, r7, r8, r9⟩ := id s1.1
      by_cases hm : V 1 9 < 3
      · obtain ⟨m, em⟩ : ∃ m : Nat, V 1 9 = (m : Int) := ⟨(V 1 9).toNat, by omega⟩
        rw [ladd em (by omega), if_neg (show ¬ U 62 8 = 3 by omega), q2, em, Int.toNat_natCast, w32_id (x := (m : Int) + 1) (by omega) (by omega), w32_id (x := (m : Int) + 1 - 1) (by omega) (by omega), show (m : Int) + 1 - 1 = (m : Int) by omega]
        have rs : RS (up (up (up V 6 m p0) 7 m p1) 1 9 ((m : Int) + 1)) := by
          unfold RS
          simp only [up_ap, Nat.reduceEqDiff, reduceIte]
          refine ⟨r1, by omega, r3, r4, r5, r6, r7, r8, fun i hi => ?_⟩
          by_cases e : i = m
          · rw [if_pos e, if_pos e]; exact ⟨h0, h1⟩
          · rw [if_neg e, if_neg e]; exact r9 i (by omega)
        refine Two.posR (by omega) (Two.posR (by omega) (Two.bbindL (Two.bindL (settle_ok rs) (fun W hW => ?_))))
        have e8 : W 1 9 = (m : Int) + 1 := by rw [hW.2.2 9 (by omega), up_eq]
        show Two (some (f_Br_changed W, w32 (W 1 9 - 1))) _ _
        rw [e8, w32_id (by omega) (by omega)]
        refine Two.ok ⟨by dsimp only; omega, g.road (V1 := up (up (up V 6 m p0) 7 m p1) 1 9 ((m : Int) + 1)) (U2 := up (up (up U 65 m p0) 66 m p1) 62 8 ((m : Int) + 1)) (fun i a _ _ b d => by rw [up_na _ _ _ a, up_na _ _ _ d, up_na _ _ _ b]) hW.1 hW.2 ?_ (fun i hi => by rw [up_na _ _ _ (by omega), up_na _ _ _ (by omega), up_na _ _ _ (by omega)]) (fun k hk => by rw [up_nf _ _ (by omega), up_na _ _ _ (by omega), up_na _ _ _ (by omega)])⟩
        unfold SRoad
        simp only [up_ap, Nat.reduceEqDiff, reduceIte]
        refine ⟨q1, trivial, q3, q4, q5, q6, q7, q8, fun i hi => ?_⟩
        by_cases e : i = m
        · rw [if_pos e, if_pos e, if_pos e, if_pos e]; exact ⟨rfl, rfl⟩
        · rw [if_neg e, if_neg e, if_neg e, if_neg e]; exact q9 i (by omega)
      · unfold f_Road_addLayer
        rw [if_neg hm, if_pos (show U 62 8 = 3 by omega)]
        exact Two.ok ⟨rfl, g.forg⟩
    · rw [if_pos (isFromV_0.mpr h1), if_pos (isIn_0.mpr h1)]; exact dg3 g (-1)
  · rw [if_pos (isFromV_0.mpr h0), if_pos (isIn_0.mpr h0)]; exact dg3 g (-1)
/-- questions that change nothing of the class -/
def CA0 (c : Int) (V : VV) (h : HP) (a : Option Int) (b : Option (VV × Int)) : Prop := Two a b (fun q z => q = z.2 ∧ G (c + 1) V h z.1)
theorem g_levels {c : Int} {V U : VV} {h : HP} (g : G c V h U) : CA0 c V h (some (f_Br_levels V)) (f_Mo_levels U) := by
  obtain ⟨s1, s2, -⟩ := id g.2.2.1
  unfold f_Br_levels f_Mo_levels CA0
  refine Two.bindR (find_ok s1 s2) (fun z hz => ?_)
  exact Two.ok ⟨hz.2.1.symm, g.mg hz.1.mg⟩
theorem g_level {c : Int} {V U : VV} {h : HP} {x : Int} (g : G c V h U) : CA0 c V h (some (f_Br_level V x)) (f_Mo_level U x) := by
  obtain ⟨s1, s2, -⟩ := id g.2.2.1
  have r1 := s1.1.1
  have q1 := s2.1
  have cn := cost_neg s1
  unfold f_Br_level f_Mo_level f_Mo_level_6 CA0
  rw [q1, w32_id (x := V 1 8 - 1) (by omega) (by omega)]
  by_cases hx : 0 ≤ x ∧ x ≤ V 1 8 - 1
  · rw [if_neg (show ¬ f_Mo_isIn U x 0 (V 1 8 - 1) = 0 by rw [isIn_1 hx.1 hx.2]; omega), if_neg (show ¬ V 1 15 = -1 by omega), if_neg (show ¬ isFromV x 0 (V 1 8 - 1) = 0 by rw [isFromV_1 hx.1 hx.2]; omega)]
    refine Two.bindR (find_ok s1 s2) (fun z hz => ?_)
    obtain ⟨z1, z2, z3⟩ := hz
    have c0 : 0 ≤ V 1 15 := by
      have e := s1.2.2.2.1
      rw [if_neg (by omega)] at e
      have l0 := s1.2.2.1 0 (by omega) (by omega)
      have t0 := (s1.2.1 0 (bC V 0) (by omega) (by omega) l0.2.1 l0.2.2.1 (by omega)).1
      omega
    rw [z2, atV_in (by omega) (by omega)]
    refine Two.negR (by omega) (Two.posR (by omega) (Two.ok ⟨?_, g.mg z1.mg⟩))
    exact (z3 x.toNat (by omega)).symm
  · rw [if_pos (isIn_0.mpr hx)]
    have e : (if V 1 15 = -1 then (-1 : Int) else if isFromV x 0 (V 1 8 - 1) = 0 then -1 else atV V 4 12 x) = -1 := by
      by_cases y : V 1 15 = -1
      · rw [if_pos y]
      · rw [if_neg y, if_pos (isFromV_0.mpr hx)]
    rw [e]
    exact Two.ok ⟨rfl, g.more⟩
theorem g_job {c : Int} {V U : VV} {h : HP} {j x : Int} (g : G c V h U) : CA0 c V h (f_Br_job V j x) (f_Mo_job U j x) := by
  obtain ⟨s1, s2, -⟩ := id g.2.2.1
  have nb := s1.1.nJb
  have cn := cost_neg s1
  unfold f_Br_job f_Mo_job CA0
  refine Two.bindR (hasJobs_ok s1 s2) (fun z hz => ?_)
  obtain ⟨z1, z2, -, -⟩ := hz
  have gz := g.mg z1.mg
  rw [s1.1.jobs, z2.1, w32_id (x := nJ V - 1) (by omega) (by omega)]
  by_cases hj : 0 ≤ j ∧ j ≤ nJ V - 1
  · obtain ⟨sp1, sp2, sp3, sp4, sp5⟩ := s1.1.split (j := j) hj.1 (by omega)
    rw [if_neg (show ¬ V 1 15 = -1 by omega), if_neg (show ¬ isFromV j 0 (nJ V - 1) = 0 by rw [isFromV_1 hj.1 hj.2]; omega), if_neg (show ¬ f_Mo_isIn z.1 j 0 (nJ V - 1) = 0 by rw [isIn_1 hj.1 hj.2]; omega)]
    have z0 : z.1 62 0 = V 1 8 := by rw [z1 62 0 rfl]; exact s2.1
    have zz := z2.2.2 j.toNat (by omega)
    have r12 := s1.1.1.2
    rw [z0, s1.1.sec hj.1 (by omega), s1.1.lay hj.1 (by omega)]
    have ly := s1.1.lay (j := j) hj.1 (by omega)
    by_cases x0 : x = 0
    · rw [if_pos x0, if_pos x0, if_neg (by omega)]
      exact Two.ok ⟨(Int.tmod_eq_emod_of_nonneg hj.1).symm, gz⟩
    · rw [if_neg x0, if_neg x0]
      by_cases x1 : x = 1
      · rw [if_pos x1, if_pos x1, if_neg (by omega)]
        refine Two.ok ⟨?_, gz⟩
        dsimp only
        rw [← ly]
        unfold f_Road_layerOf cutV
        rw [if_neg (by omega)]
      · rw [if_neg x1, if_neg x1]
        by_cases x2 : x = 2
        · rw [if_pos x2, if_pos x2, if_pos (by omega), atV_in (by omega) (by omega)]
          exact Two.ok ⟨zz.1.symm, gz⟩
        · rw [if_neg x2, if_neg x2]
          by_cases x3 : x = 3
          · rw [if_pos x3, if_pos x3, if_pos (by omega), atV_in (by omega) (by omega)]
            exact Two.ok ⟨zz.2.symm, gz⟩
          · rw [if_neg x3, if_neg x3]
            exact Two.ok ⟨rfl, gz⟩
  · rw [if_pos (isIn_0.mpr hj)]
    by_cases y : V 1 15 = -1
    · rw [if_pos y]; exact Two.ok ⟨rfl, gz⟩
    · rw [if_neg y, if_pos (isFromV_0.mpr hj)]; exact Two.ok ⟨rfl, gz⟩
theorem g_about {c : Int} {V U : VV} {h : HP} {x : Int} (g : G c V h U) : CA0 c V h (f_Br_about V x) (f_Mo_about U x) := by
  obtain ⟨g1, g2, ⟨s1, s2, s3, s4, s5, s6⟩, g4, g5, g6, g7, g8, g9, g10⟩ := id g
  unfold f_Br_about f_Mo_about CA0
  refine Two.bindR (hasJobs_ok s1 s2) (fun z hz => ?_)
  obtain ⟨z1, z2, z3, -⟩ := hz
  have gz := g.mg z1.mg
  rw [s1.1.jobs, allT_ok s1]
  have many : f_Mo_manyWorlds z.1 = V 18 7 := gz.2.2.1.2.2.2.2.1.2.2
  have fin : ∀ {a b : Int}, a = b → Two (some a) (some (z.1, b)) (fun q z => q = z.2 ∧ G (c + 1) V h z.1) := fun e => Two.ok ⟨e, gz⟩
  by_cases x0 : x = 0
  · rw [if_pos x0, if_pos x0]; exact fin (by rw [z1 62 0 rfl]; exact s2.1.symm)
  · rw [if_neg x0, if_neg x0]
    by_cases x1 : x = 1
    · rw [if_pos x1, if_pos x1]; exact fin (by rw [z1 62 8 rfl]; exact s2.2.1.symm)
    · rw [if_neg x1, if_neg x1]
      by_cases x2 : x = 2
      · rw [if_pos x2, if_pos x2]; exact fin (by rw [z1 62 17 rfl]; exact s3.1.symm)
      · rw [if_neg x2, if_neg x2]
        by_cases x3 : x = 3
        · rw [if_pos x3, if_pos x3]; exact fin (by rw [z1 62 22 rfl]; exact g4.1.symm)
        · rw [if_neg x3, if_neg x3]
          by_cases x4 : x = 4
          · rw [if_pos x4, if_pos x4]; exact fin (by rw [z1 62 23 rfl]; exact s3.2.2.1.symm)
          · rw [if_neg x4, if_neg x4]
            by_cases x5 : x = 5
            · rw [if_pos x5, if_pos x5]; exact fin (by rw [z1 62 33 rfl]; exact g5.1.1)
            · rw [if_neg x5, if_neg x5]
              by_cases x6 : x = 6
              · rw [if_pos x6, if_pos x6]; exact fin (by rw [z1 62 48 rfl]; exact g8.symm)
              · rw [if_neg x6, if_neg x6]
                by_cases x7 : x = 7
                · rw [if_pos x7, if_pos x7]; exact fin many.symm
                · rw [if_neg x7, if_neg x7]
                  by_cases x8 : x = 8
                  · rw [if_pos x8, if_pos x8]; exact fin z2.1.symm
                  · rw [if_neg x8, if_neg x8]
                    by_cases x9 : x = 9
                    · rw [if_pos x9, if_pos x9]; exact fin z3.symm
                    · rw [if_neg x9, if_neg x9]
                      by_cases x10 : x = 10
                      · rw [if_pos x10, if_pos x10]; exact fin (by rw [z1 62 40 rfl]; exact g6.1)
                      · rw [if_neg x10, if_neg x10]; exact fin rfl
theorem g_fault {c : Int} {V U : VV} {h : HP} {x : Int} (g : G c V h U) : f_Br_fault V x = f_Mo_fault U x ∧ G (c + 1) V h U := by
  refine ⟨?_, g.more⟩
  have e := g.2.2.2.2.2.2.1
  unfold f_Br_fault f_Mo_fault
  rw [e.1, e.2]
theorem g_world {c : Int} {V U : VV} {h : HP} {w t x : Int} (g : G c V h U) : Two (f_Br_world V w t x) (f_Mo_world U w t x) (fun a b => a = b) ∧ G (c + 1) V h U := by
  refine ⟨?_, g.more⟩
  obtain ⟨s1, s2, s3, s4, s5, s6⟩ := g.2.2.1
  unfold f_Br_world f_Mo_world
  rw [s5.2.2, w32_id (x := V 18 7 - 1) (by omega) (by omega)]
  by_cases hw : 0 ≤ w ∧ w ≤ V 18 7 - 1
  · rw [if_neg (show ¬ isFromV w 0 (V 18 7 - 1) = 0 by rw [isFromV_1 hw.1 hw.2]; omega), if_neg (show ¬ f_Mo_isIn U w 0 (V 18 7 - 1) = 0 by rw [isIn_1 hw.1 hw.2]; omega)]
    by_cases ht : 0 ≤ t ∧ t ≤ 4319
    · rw [if_neg (show ¬ isFromV t 0 4319 = 0 by rw [isFromV_1 ht.1 ht.2]; omega), if_neg (show ¬ f_Mo_isIn U t 0 4319 = 0 by rw [isIn_1 ht.1 ht.2]; omega)]
      obtain ⟨op, ps⟩ := s6 w hw.1 (by omega) V U ⟨rfl, fun _ _ _ => rfl⟩ ⟨rfl, fun _ _ _ _ _ => rfl⟩ t ht.1 ht.2
      by_cases x0 : x = 0
      · rw [if_pos x0, if_neg (show ¬ f_Mo_isIn U x 0 6 = 0 by rw [isIn_1 (by omega) (by omega)]; omega), if_pos x0, op]
        exact Two.ok rfl
      · rw [if_neg x0]
        by_cases x1 : 1 ≤ x ∧ x ≤ 3
        · rw [if_neg (show ¬ isFromV x 1 3 = 0 by rw [isFromV_1 x1.1 x1.2]; omega), if_neg (show ¬ f_Mo_isIn U x 0 6 = 0 by rw [isIn_1 (by omega) (by omega)]; omega), if_neg x0, if_pos (by omega), w32_id (x := x - 1) (by omega) (by omega)]
          obtain ⟨m, m1, m2, m3, m4⟩ := (ps (x - 1) (by omega) (by omega)).2
          rw [m3, m4]
          exact Two.ok rfl
        · rw [if_pos (isFromV_0.mpr x1)]
          by_cases x2 : 4 ≤ x ∧ x ≤ 6
          · rw [if_neg (show ¬ isFromV x 4 6 = 0 by rw [isFromV_1 x2.1 x2.2]; omega), if_neg (show ¬ f_Mo_isIn U x 0 6 = 0 by rw [isIn_1 (by omega) (by omega)]; omega), if_neg x0, if_neg (show ¬ x < 4 by omega), w32_id (x := x - 1) (by omega) (by omega), w32_id (x := x - 4) (by omega) (by omega), w32_id (x := x - 1 - 3) (by omega) (by omega), show x - 1 - 3 = x - 4 by omega, (ps (x - 4) (by omega) (by omega)).1]
            exact Two.ok rfl
          · rw [if_pos (isFromV_0.mpr x2), if_pos (isIn_0.mpr (fun y => by omega))]
            exact Two.ok rfl
    · rw [if_pos (isFromV_0.mpr ht), if_pos (isIn_0.mpr ht)]; exact Two.ok rfl
  · rw [if_pos (isFromV_0.mpr hw), if_pos (isIn_0.mpr hw)]; exact Two.ok rfl
