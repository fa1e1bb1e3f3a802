/-! warmth and weather (printed by wip/tools/gen96.py) -/
theorem g_heat {c : Int} {V U : VV} {h : HP} {p0 p1 p2 p3 p4 : Int} (g : G c V h U) : CA2 c h (f_Br_heat V p0 p1 p2 p3 p4) (f_Mo_heat U p0 p1 p2 p3 p4) := by
  unfold f_Br_heat f_Mo_heat
  by_cases h0 : 100 ≤ p0 ∧ p0 ≤ 200
  · rw [if_neg (show ¬ isFromV p0 100 200 = 0 by rw [isFromV_1 h0.1 h0.2]; omega), if_neg (show ¬ f_Mo_isIn U p0 100 200 = 0 by rw [isIn_1 h0.1 h0.2]; omega)]
    by_cases h1 : 1 ≤ p1 ∧ p1 ≤ 20
    · rw [if_neg (show ¬ isFromV p1 1 20 = 0 by rw [isFromV_1 h1.1 h1.2]; omega), if_neg (show ¬ f_Mo_isIn U p1 1 20 = 0 by rw [isIn_1 h1.1 h1.2]; omega)]
      by_cases h2 : 0 ≤ p2 ∧ p2 ≤ 200
      · rw [if_neg (show ¬ isFromV p2 0 200 = 0 by rw [isFromV_1 h2.1 h2.2]; omega), if_neg (show ¬ f_Mo_isIn U p2 0 200 = 0 by rw [isIn_1 h2.1 h2.2]; omega)]
        by_cases h3 : 0 ≤ p3 ∧ p3 ≤ 200
        · rw [if_neg (show ¬ isFromV p3 0 200 = 0 by rw [isFromV_1 h3.1 h3.2]; omega), if_neg (show ¬ f_Mo_isIn U p3 0 200 = 0 by rw [isIn_1 h3.1 h3.2]; omega)]
          by_cases h4 : 0 ≤ p4 ∧ p4 ≤ 200
          · rw [if_neg (show ¬ isFromV p4 0 200 = 0 by rw [isFromV_1 h4.1 h4.2]; omega), if_neg (show ¬ f_Mo_isIn U p4 0 200 = 0 by rw [isIn_1 h4.1 h4.2]; omega)]
            rw [lt_eq]
            obtain ⟨g1, g2, ⟨s1, s2, s3, s4, s5, s6⟩, g4, g5, g6, g7, g8, g9, g10⟩ := id g
            refine ⟨rfl, g.set (W := up (up (up (up (up V 15 0 p0) 15 1 p1) 15 2 p2) 15 3 p3) 15 4 p4) (U2 := up (up (up (up (up U 62 24 p0) 62 25 p1) 62 26 p2) 62 27 p3) 62 28 p4) (fun i hi => by rw [up_na _ _ _ (by omega), up_na _ _ _ (by omega), up_na _ _ _ (by omega), up_na _ _ _ (by omega), up_na _ _ _ (by omega)]) (by rw [up_na _ _ _ (by omega), up_na _ _ _ (by omega), up_na _ _ _ (by omega), up_na _ _ _ (by omega), up_na _ _ _ (by omega)]) (by rw [up_na _ _ _ (by omega), up_na _ _ _ (by omega), up_na _ _ _ (by omega), up_na _ _ _ (by omega), up_na _ _ _ (by omega)]) ⟨?_, ?_, ?_, ?_, ?_, ?_⟩ ?_ ?_ ?_ ?_ ?_ ?_ ?_ (fun i hi => by rw [up_na _ _ _ (by omega), up_na _ _ _ (by omega), up_na _ _ _ (by omega), up_na _ _ _ (by omega), up_na _ _ _ (by omega)])⟩
            · exact s1.congr (fun i a b => by rw [up_na _ _ _ (by omega), up_na _ _ _ (by omega), up_na _ _ _ (by omega), up_na _ _ _ (by omega), up_na _ _ _ (by omega)])
            · unfold SRoad; simp only [up_ap, Nat.reduceEqDiff, reduceIte]; exact s2
            · unfold SPl; simp only [up_ap, Nat.reduceEqDiff, reduceIte]; exact s3
            · obtain ⟨⟨w1, w2, w3, w4, w5, w6, w7, w8, w9⟩, wu⟩ := s4
              refine ⟨?_, fun k hk => ?_⟩
              · unfold WmOK; simp only [up_ap, Nat.reduceEqDiff, reduceIte]; exact ⟨h0, h1, h2, h3, h4, w6, w7, w8, w9⟩
              · have e : k = 0 ∨ k = 1 ∨ k = 2 ∨ k = 3 ∨ k = 4 ∨ k = 5 ∨ k = 6 ∨ k = 7 ∨ k = 8 := by omega
                have z := wu k hk
                rcases e with rfl | rfl | rfl | rfl | rfl | rfl | rfl | rfl | rfl <;> simp only [up_ap, Nat.reduceEqDiff, Nat.reduceAdd, reduceIte] <;> first | rfl | exact z
            · unfold f_Mo_manyWorlds; simp only [up_ap, Nat.reduceEqDiff, reduceIte]; exact s5
            · intro w a b
              rw [up_na _ _ _ (show (18 : Nat) ≠ 15 by omega), up_na _ _ _ (show (18 : Nat) ≠ 15 by omega), up_na _ _ _ (show (18 : Nat) ≠ 15 by omega), up_na _ _ _ (show (18 : Nat) ≠ 15 by omega), up_na _ _ _ (show (18 : Nat) ≠ 15 by omega)] at b
              exact (s6 w a b).of ⟨by rw [up_na _ _ _ (by omega), up_na _ _ _ (by omega), up_na _ _ _ (by omega), up_na _ _ _ (by omega), up_na _ _ _ (by omega)], fun i x y => by rw [up_na _ _ _ (by omega), up_na _ _ _ (by omega), up_na _ _ _ (by omega), up_na _ _ _ (by omega), up_na _ _ _ (by omega)]⟩ ⟨by simp only [up_ap, Nat.reduceEqDiff, reduceIte], fun i x y k hk => by rw [up_na _ _ _ (by omega), up_na _ _ _ (by omega), up_na _ _ _ (by omega), up_na _ _ _ (by omega), up_na _ _ _ (by omega)]⟩
            · simp only [up_ap, Nat.reduceEqDiff, reduceIte]; exact g4
            · simp only [up_ap, Nat.reduceEqDiff, reduceIte]; exact g8
            · simp only [up_ap, Nat.reduceEqDiff, reduceIte]
            · simp only [up_ap, Nat.reduceEqDiff, reduceIte]
            · simp only [up_ap, Nat.reduceEqDiff, reduceIte]
            · simp only [up_ap, Nat.reduceEqDiff, reduceIte]
            · simp only [up_ap, Nat.reduceEqDiff, reduceIte]
          · rw [if_pos (isFromV_0.mpr h4), if_pos (isIn_0.mpr h4)]; exact dg g 0
        · rw [if_pos (isFromV_0.mpr h3), if_pos (isIn_0.mpr h3)]; exact dg g 0
      · rw [if_pos (isFromV_0.mpr h2), if_pos (isIn_0.mpr h2)]; exact dg g 0
    · rw [if_pos (isFromV_0.mpr h1), if_pos (isIn_0.mpr h1)]; exact dg g 0
  · rw [if_pos (isFromV_0.mpr h0), if_pos (isIn_0.mpr h0)]; exact dg g 0
theorem g_weather {c : Int} {V U : VV} {h : HP} {p0 p1 p2 p3 : Int} (g : G c V h U) : CA2 c h (f_Br_weather V p0 p1 p2 p3) (f_Mo_weather U p0 p1 p2 p3) := by
  unfold f_Br_weather f_Mo_weather
  by_cases h0 : -20 ≤ p0 ∧ p0 ≤ 50
  · rw [if_neg (show ¬ isFromV p0 (-20) 50 = 0 by rw [isFromV_1 h0.1 h0.2]; omega), if_neg (show ¬ f_Mo_isIn U p0 (-20) 50 = 0 by rw [isIn_1 h0.1 h0.2]; omega)]
    by_cases h1 : -20 ≤ p1 ∧ p1 ≤ 60
    · rw [if_neg (show ¬ isFromV p1 (-20) 60 = 0 by rw [isFromV_1 h1.1 h1.2]; omega), if_neg (show ¬ f_Mo_isIn U p1 (-20) 60 = 0 by rw [isIn_1 h1.1 h1.2]; omega)]
      by_cases h2 : 1 ≤ p2 ∧ p2 ≤ 200
      · rw [if_neg (show ¬ isFromV p2 1 200 = 0 by rw [isFromV_1 h2.1 h2.2]; omega), if_neg (show ¬ f_Mo_isIn U p2 1 200 = 0 by rw [isIn_1 h2.1 h2.2]; omega)]
        by_cases h3 : 1 ≤ p3 ∧ p3 ≤ 200
        · rw [if_neg (show ¬ isFromV p3 1 200 = 0 by rw [isFromV_1 h3.1 h3.2]; omega), if_neg (show ¬ f_Mo_isIn U p3 1 200 = 0 by rw [isIn_1 h3.1 h3.2]; omega)]
          rw [lt_eq]
          obtain ⟨g1, g2, ⟨s1, s2, s3, s4, s5, s6⟩, g4, g5, g6, g7, g8, g9, g10⟩ := id g
          refine ⟨rfl, g.set (W := up (up (up (up V 15 5 p0) 15 6 p1) 15 7 p2) 15 8 p3) (U2 := up (up (up (up U 62 29 p0) 62 30 p1) 62 31 p2) 62 32 p3) (fun i hi => by rw [up_na _ _ _ (by omega), up_na _ _ _ (by omega), up_na _ _ _ (by omega), up_na _ _ _ (by omega)]) (by rw [up_na _ _ _ (by omega), up_na _ _ _ (by omega), up_na _ _ _ (by omega), up_na _ _ _ (by omega)]) (by rw [up_na _ _ _ (by omega), up_na _ _ _ (by omega), up_na _ _ _ (by omega), up_na _ _ _ (by omega)]) ⟨?_, ?_, ?_, ?_, ?_, ?_⟩ ?_ ?_ ?_ ?_ ?_ ?_ ?_ (fun i hi => by rw [up_na _ _ _ (by omega), up_na _ _ _ (by omega), up_na _ _ _ (by omega), up_na _ _ _ (by omega)])⟩
          · exact s1.congr (fun i a b => by rw [up_na _ _ _ (by omega), up_na _ _ _ (by omega), up_na _ _ _ (by omega), up_na _ _ _ (by omega)])
          · unfold SRoad; simp only [up_ap, Nat.reduceEqDiff, reduceIte]; exact s2
          · unfold SPl; simp only [up_ap, Nat.reduceEqDiff, reduceIte]; exact s3
          · obtain ⟨⟨w1, w2, w3, w4, w5, w6, w7, w8, w9⟩, wu⟩ := s4
            refine ⟨?_, fun k hk => ?_⟩
            · unfold WmOK; simp only [up_ap, Nat.reduceEqDiff, reduceIte]; exact ⟨w1, w2, w3, w4, w5, h0, h1, h2, h3⟩
            · have e : k = 0 ∨ k = 1 ∨ k = 2 ∨ k = 3 ∨ k = 4 ∨ k = 5 ∨ k = 6 ∨ k = 7 ∨ k = 8 := by omega
              have z := wu k hk
              rcases e with rfl | rfl | rfl | rfl | rfl | rfl | rfl | rfl | rfl <;> simp only [up_ap, Nat.reduceEqDiff, Nat.reduceAdd, reduceIte] <;> first | rfl | exact z
          · unfold f_Mo_manyWorlds; simp only [up_ap, Nat.reduceEqDiff, reduceIte]; exact s5
          · intro w a b
            rw [up_na _ _ _ (show (18 : Nat) ≠ 15 by omega), up_na _ _ _ (show (18 : Nat) ≠ 15 by omega), up_na _ _ _ (show (18 : Nat) ≠ 15 by omega), up_na _ _ _ (show (18 : Nat) ≠ 15 by omega)] at b
            exact (s6 w a b).of ⟨by rw [up_na _ _ _ (by omega), up_na _ _ _ (by omega), up_na _ _ _ (by omega), up_na _ _ _ (by omega)], fun i x y => by rw [up_na _ _ _ (by omega), up_na _ _ _ (by omega), up_na _ _ _ (by omega), up_na _ _ _ (by omega)]⟩ ⟨by simp only [up_ap, Nat.reduceEqDiff, reduceIte], fun i x y k hk => by rw [up_na _ _ _ (by omega), up_na _ _ _ (by omega), up_na _ _ _ (by omega), up_na _ _ _ (by omega)]⟩
          · simp only [up_ap, Nat.reduceEqDiff, reduceIte]; exact g4
          · simp only [up_ap, Nat.reduceEqDiff, reduceIte]; exact g8
          · simp only [up_ap, Nat.reduceEqDiff, reduceIte]
          · simp only [up_ap, Nat.reduceEqDiff, reduceIte]
          · simp only [up_ap, Nat.reduceEqDiff, reduceIte]
          · simp only [up_ap, Nat.reduceEqDiff, reduceIte]
          · simp only [up_ap, Nat.reduceEqDiff, reduceIte]
        · rw [if_pos (isFromV_0.mpr h3), if_pos (isIn_0.mpr h3)]; exact dg g 0
      · rw [if_pos (isFromV_0.mpr h2), if_pos (isIn_0.mpr h2)]; exact dg g 0
    · rw [if_pos (isFromV_0.mpr h1), if_pos (isIn_0.mpr h1)]; exact dg g 0
  · rw [if_pos (isFromV_0.mpr h0), if_pos (isIn_0.mpr h0)]; exact dg g 0
/-- what a call that may fail to end gives: the class keeps its place -/
def CA3 (c : Int) (h : HP) (a : Option (VV × Int)) (b : Option (VV × Int)) : Prop := Two a b (fun q z => q.2 = z.2 ∧ G (c + 1) q.1 h z.1)
theorem dg3 {V U : VV} {h : HP} {c : Int} (g : G c V h U) (x : Int) : CA3 c h (some (V, x)) (some (U, x)) := Two.ok ⟨rfl, g.more⟩
theorem SETR.cU {V U U2 : VV} (s : SETR V U) (h : ∀ i, i ≠ 62 → U2 i = U i) (h62 : ∀ k, (k ≤ 32 ∨ k = 48 ∨ k = 49) → U2 62 k = U 62 k) : SETR V U2 := by
  obtain ⟨s1, s2, s3, s4, s5, s6⟩ := s
  refine ⟨s1, ?_, ?_, ⟨s4.1, fun k hk => by rw [h62 _ (by omega)]; exact s4.2 k hk⟩, ?_, fun w a b => (s6 w a b).of ⟨rfl, fun _ _ _ => rfl⟩ ⟨h62 48 (by omega), fun i x y k hk => by rw [h i (by omega)]⟩⟩
  · unfold SRoad
    rw [h62 0 (by omega), h62 8 (by omega), h62 3 (by omega), h62 4 (by omega), h62 5 (by omega), h62 6 (by omega), h62 7 (by omega), h 63 (by omega), h 64 (by omega), h 65 (by omega), h 66 (by omega)]
    exact s2
  · unfold SPl
    rw [h62 17 (by omega), h62 23 (by omega), h 71 (by omega), h 72 (by omega), h 73 (by omega), h 74 (by omega)]
    exact s3
  · unfold f_Mo_manyWorlds
    rw [h62 49 (by omega)]
    exact s5
theorem padd {V : VV} {p0 p1 p2 p3 : Int} {m : Nat} (em : V 10 4 = (m : Int)) (hm : m < 3) : f_Plants_add V p0 p1 p2 p3 = (up (up (up (up (up V 11 m p0) 12 m p1) 13 m p2) 14 m p3) 10 4 ((m : Int) + 1), (m : Int)) := by
  unfold f_Plants_add
  rw [em, if_pos (by omega), lt_eq, setV_in (V := V) (id := 11) (by omega) (by omega), Int.toNat_natCast]
  have e2 : up V 11 m p0 10 4 = (m : Int) := by rw [up_na _ _ _ (by omega)]; exact em
  generalize up V 11 m p0 = V2 at *
  rw [e2, lt_eq, setV_in (V := V2) (id := 12) (by omega) (by omega), Int.toNat_natCast]
  have e3 : up V2 12 m p1 10 4 = (m : Int) := by rw [up_na _ _ _ (by omega)]; exact e2
  generalize up V2 12 m p1 = V3 at *
  rw [e3, lt_eq, setV_in (V := V3) (id := 13) (by omega) (by omega), Int.toNat_natCast]
  have e4 : up V3 13 m p2 10 4 = (m : Int) := by rw [up_na _ _ _ (by omega)]; exact e3
  generalize up V3 13 m p2 = V4 at *
  rw [e4, lt_eq, setV_in (V := V4) (id := 14) (by omega) (by omega), Int.toNat_natCast]
  have e5 : up V4 14 m p3 10 4 = (m : Int) := by rw [up_na _ _ _ (by omega)]; exact e4
  rw [e5, w32_id (x := (m : Int) + 1) (by omega) (by omega), w32_id (x := (m : Int) + 1 - 1) (by omega) (by omega), show (m : Int) + 1 - 1 = (m : Int) by omega]
theorem radd {V : VV} {p0 p1 : Int} {m : Nat} (em : V 49 11 = (m : Int)) (hm : m < 6) : f_Rolling_add V p0 p1 = (up (up (up (up V 50 m p0) 51 m p1) 49 11 ((m : Int) + 1)) 49 10 (-1), (m : Int)) := by
  unfold f_Rolling_add
  rw [em, if_pos (by omega), lt_eq, setV_in (V := V) (id := 50) (by omega) (by omega), Int.toNat_natCast]
  have e2 : up V 50 m p0 49 11 = (m : Int) := by rw [up_na _ _ _ (by omega)]; exact em
  generalize up V 50 m p0 = V2 at *
  rw [e2, lt_eq, setV_in (V := V2) (id := 51) (by omega) (by omega), Int.toNat_natCast]
  have e3 : up V2 51 m p1 49 11 = (m : Int) := by rw [up_na _ _ _ (by omega)]; exact e2
  rw [e3, w32_id (x := (m : Int) + 1) (by omega) (by omega), w32_id (x := (m : Int) + 1 - 1) (by omega) (by omega), show (m : Int) + 1 - 1 = (m : Int) by omega]
theorem g_plant {c : Int} {V U : VV} {h : HP} {p0 p1 p2 p3 : Int} (g : G c V h U) : CA3 c h (some (f_Br_plant V p0 p1 p2 p3)) (f_Mo_plant U p0 p1 p2 p3) := by
  unfold f_Br_plant f_Mo_plant CA3
  by_cases h0 : 0 ≤ p0 ∧ p0 ≤ 2
  · rw [if_neg (show ¬ isFromV p0 0 2 = 0 by rw [isFromV_1 h0.1 h0.2]; omega), if_neg (show ¬ f_Mo_isIn U p0 0 2 = 0 by rw [isIn_1 h0.1 h0.2]; omega)]
    by_cases h1 : 1 ≤ p1 ∧ p1 ≤ 10
    · rw [if_neg (show ¬ isFromV p1 1 10 = 0 by rw [isFromV_1 h1.1 h1.2]; omega), if_neg (show ¬ f_Mo_isIn U p1 1 10 = 0 by rw [isIn_1 h1.1 h1.2]; omega)]
      by_cases h2 : 10 ≤ p2 ∧ p2 ≤ 200
      · rw [if_neg (show ¬ isFromV p2 10 200 = 0 by rw [isFromV_1 h2.1 h2.2]; omega), if_neg (show ¬ f_Mo_isIn U p2 10 200 = 0 by rw [isIn_1 h2.1 h2.2]; omega)]
        by_cases h3 : 1 ≤ p3 ∧ p3 ≤ 20
        · rw [if_neg (show ¬ isFromV p3 1 20 = 0 by rw [isFromV_1 h3.1 h3.2]; omega), if_neg (show ¬ f_Mo_isIn U p3 1 20 = 0 by rw [isIn_1 h3.1 h3.2]; omega)]
          obtain ⟨g1, g2, ⟨s1, s2, s3, s4, s5, s6⟩, g4, g5, g6, g7, g8, g9, g10⟩ := id g
          obtain ⟨a1, a2, a3, a4, a5⟩ := id s3
          rw [lt_eq, lt_eq]
          by_cases hm : V 10 4 < 3
          · obtain ⟨m, em⟩ : ∃ m : Nat, V 10 4 = (m : Int) := ⟨(V 10 4).toNat, by omega⟩
            rw [padd em (by omega), if_neg (show ¬ U 62 17 = 3 by omega), a1, em, Int.toNat_natCast, w32_id (x := (m : Int) + 1) (by omega) (by omega), w32_id (x := (m : Int) + 1 - 1) (by omega) (by omega), show (m : Int) + 1 - 1 = (m : Int) by omega]
            refine Two.posR (by omega) (Two.posR (by omega) (Two.posR (by omega) (Two.posR (by omega) (Two.ok ⟨rfl, g.set (W := up (up (up (up (up V 11 m p0) 12 m p1) 13 m p2) 14 m p3) 10 4 ((m : Int) + 1)) (U2 := up (up (up (up (up U 71 m p0) 72 m p1) 73 m p2) 74 m p3) 62 17 ((m : Int) + 1)) (fun i hi => by rw [up_na _ _ _ (by omega), up_na _ _ _ (by omega), up_na _ _ _ (by omega), up_na _ _ _ (by omega), up_na _ _ _ (by omega)]) (by rw [up_na _ _ _ (by omega), up_na _ _ _ (by omega), up_na _ _ _ (by omega), up_na _ _ _ (by omega), up_na _ _ _ (by omega)]) (by rw [up_na _ _ _ (by omega), up_na _ _ _ (by omega), up_na _ _ _ (by omega), up_na _ _ _ (by omega), up_na _ _ _ (by omega)]) ⟨?_, ?_, ?_, ?_, ?_, ?_⟩ ?_ ?_ ?_ ?_ ?_ ?_ ?_ (fun i hi => by rw [up_na _ _ _ (by omega), up_na _ _ _ (by omega), up_na _ _ _ (by omega), up_na _ _ _ (by omega), up_na _ _ _ (by omega)])⟩))))
            · exact s1.congr (fun i a b => by rw [up_na _ _ _ (by omega), up_na _ _ _ (by omega), up_na _ _ _ (by omega), up_na _ _ _ (by omega), up_na _ _ _ (by omega)])
            · unfold SRoad; simp only [up_ap, Nat.reduceEqDiff, reduceIte]; exact s2
            · unfold SPl; simp only [up_ap, Nat.reduceEqDiff, reduceIte]
              refine ⟨trivial, by omega, a3, a4, fun p hp => ?_⟩
              by_cases e : p = m
              · rw [if_pos e, if_pos e, if_pos e, if_pos e, if_pos e, if_pos e, if_pos e, if_pos e]
                exact ⟨⟨rfl, h0⟩, ⟨rfl, h1⟩, ⟨rfl, h2⟩, rfl, h3⟩
              · rw [if_neg e, if_neg e, if_neg e, if_neg e, if_neg e, if_neg e, if_neg e, if_neg e]
                exact a5 p (by omega)
            · refine ⟨by unfold WmOK; simp only [up_ap, Nat.reduceEqDiff, reduceIte]; exact s4.1, fun k hk => ?_⟩
              rw [up_nf _ _ (by omega), up_na _ _ _ (by omega), up_na _ _ _ (by omega), up_na _ _ _ (by omega), up_na _ _ _ (by omega), up_na _ _ _ (by omega), up_na _ _ _ (by omega), up_na _ _ _ (by omega), up_na _ _ _ (by omega), up_na _ _ _ (by omega)]
              exact s4.2 k hk
            · unfold f_Mo_manyWorlds; simp only [up_ap, Nat.reduceEqDiff, reduceIte]; exact s5
            · intro w a b
              rw [up_na _ _ _ (show (18 : Nat) ≠ 10 by omega), up_na _ _ _ (show (18 : Nat) ≠ 14 by omega), up_na _ _ _ (show (18 : Nat) ≠ 13 by omega), up_na _ _ _ (show (18 : Nat) ≠ 12 by omega), up_na _ _ _ (show (18 : Nat) ≠ 11 by omega)] at b
              exact (s6 w a b).of ⟨by rw [up_na _ _ _ (by omega), up_na _ _ _ (by omega), up_na _ _ _ (by omega), up_na _ _ _ (by omega), up_na _ _ _ (by omega)], fun i x y => by rw [up_na _ _ _ (by omega), up_na _ _ _ (by omega), up_na _ _ _ (by omega), up_na _ _ _ (by omega), up_na _ _ _ (by omega)]⟩ ⟨by simp only [up_ap, Nat.reduceEqDiff, reduceIte], fun i x y k hk => by rw [up_na _ _ _ (by omega), up_na _ _ _ (by omega), up_na _ _ _ (by omega), up_na _ _ _ (by omega), up_na _ _ _ (by omega)]⟩
            · simp only [up_ap, Nat.reduceEqDiff, reduceIte]; exact g4
            · simp only [up_ap, Nat.reduceEqDiff, reduceIte]; exact g8
            · simp only [up_ap, Nat.reduceEqDiff, reduceIte]
            · simp only [up_ap, Nat.reduceEqDiff, reduceIte]
            · simp only [up_ap, Nat.reduceEqDiff, reduceIte]
            · simp only [up_ap, Nat.reduceEqDiff, reduceIte]
            · simp only [up_ap, Nat.reduceEqDiff, reduceIte]
          · unfold f_Plants_add
            rw [if_neg hm, if_pos (show U 62 17 = 3 by omega)]
            exact Two.ok ⟨rfl, g.set (W := V) (U2 := U) (fun _ _ => rfl) rfl rfl ⟨s1, s2, s3, s4, s5, s6⟩ g4 g8 rfl rfl rfl rfl rfl (fun _ _ => rfl)⟩
        · rw [if_pos (isFromV_0.mpr h3), if_pos (isIn_0.mpr h3)]; exact dg3 g (-1)
      · rw [if_pos (isFromV_0.mpr h2), if_pos (isIn_0.mpr h2)]; exact dg3 g (-1)
    · rw [if_pos (isFromV_0.mpr h1), if_pos (isIn_0.mpr h1)]; exact dg3 g (-1)
  · rw [if_pos (isFromV_0.mpr h0), if_pos (isIn_0.mpr h0)]; exact dg3 g (-1)
/-- rollers and sorts: the runs stay, what was rolled doesn't -/
theorem G.rol {c : Int} {V U W U2 : VV} {h : HP} (g : G c V h U) (w : ∀ i, ¬ (49 ≤ i ∧ i ≤ 54) → W i = V i) (w10 : W 49 10 = -1) (u : ∀ i, i ≠ 62 → ¬ (75 ≤ i ∧ i ≤ 79) → U2 i = U i) (u62 : ∀ k, k ≠ 33 → U2 62 k = U 62 k) (r : ROLS W U2) : G (c + 1) W h U2 := by
  obtain ⟨g1, g2, g3, g4, g5, g6, g7, g8, g9, g10⟩ := g
  obtain ⟨v1, v2, v3, v4⟩ := g1
  have ss : SS V W := ⟨fun i a b => w i (by omega), by rw [w 18 (by omega)], by rw [w 18 (by omega)], fun i a b => w i (by omega)⟩
  refine ⟨⟨v1.fr (fun i hi => w i (by omega)) (by rw [w 18 (by omega)]) (by rw [w 18 (by omega)]), ⟨by rw [w10, w 46 (by omega)]; omega, fun z => by rw [w10, w 46 (by omega)] at z; omega⟩, by rw [w 46 (by omega)]; exact ⟨v3, v4⟩⟩, by rw [w 46 (by omega)]; omega, ?_, ?_, r, ?_, ?_, ?_, ?_, g10.fr ss (by rw [w 0 (by omega)]) (w 61 (by omega))⟩
  · have s' : SETR V U2 := by
      obtain ⟨s1, s2, s3, s4, s5, s6⟩ := g3
      refine ⟨s1, ?_, ?_, ⟨s4.1, fun k hk => by rw [u62 _ (by omega)]; exact s4.2 k hk⟩, ?_, fun w a b => (s6 w a b).of ⟨rfl, fun _ _ _ => rfl⟩ ⟨u62 48 (by omega), fun i x y k hk => by rw [u i (by omega) (by omega)]⟩⟩
      · unfold SRoad
        rw [u62 0 (by omega), u62 8 (by omega), u62 3 (by omega), u62 4 (by omega), u62 5 (by omega), u62 6 (by omega), u62 7 (by omega), u 63 (by omega) (by omega), u 64 (by omega) (by omega), u 65 (by omega) (by omega), u 66 (by omega) (by omega)]
        exact s2
      · unfold SPl
        rw [u62 17 (by omega), u62 23 (by omega), u 71 (by omega) (by omega), u 72 (by omega) (by omega), u 73 (by omega) (by omega), u 74 (by omega) (by omega)]
        exact s3
      · unfold f_Mo_manyWorlds
        rw [u62 49 (by omega)]
        exact s5
    exact s'.ss ss
  · rw [u62 22 (by omega), w 10 (by omega)]; exact g4
  · unfold TAPS
    rw [w 16 (by omega), w 17 (by omega), u62 40 (by omega), u 80 (by omega) (by omega)]
    exact g6
  · rw [w 0 (by omega), u62 41 (by omega), u62 42 (by omega)]; exact g7
  · rw [w 18 (by omega), u62 48 (by omega)]; exact g8
  · unfold RATS
    rw [w 26 (by omega), w 27 (by omega), u62 105 (by omega), u 118 (by omega) (by omega), u 119 (by omega) (by omega)]
    exact g9
theorem g_roller {c : Int} {V U : VV} {h : HP} {p0 p1 : Int} (g : G c V h U) : CA3 c h (some (f_Br_roller V p0 p1)) (f_Mo_roller U p0 p1) := by
  unfold f_Br_roller f_Mo_roller CA3
  by_cases h0 : 0 ≤ p0 ∧ p0 ≤ 2
  · rw [if_neg (show ¬ isFromV p0 0 2 = 0 by rw [isFromV_1 h0.1 h0.2]; omega), if_neg (show ¬ f_Mo_isIn U p0 0 2 = 0 by rw [isIn_1 h0.1 h0.2]; omega)]
    by_cases h1 : 10 ≤ p1 ∧ p1 ≤ 100
    · rw [if_neg (show ¬ isFromV p1 10 100 = 0 by rw [isFromV_1 h1.1 h1.2]; omega), if_neg (show ¬ f_Mo_isIn U p1 10 100 = 0 by rw [isIn_1 h1.1 h1.2]; omega)]
      obtain ⟨⟨r1, r2, r3⟩, r4, r5⟩ := id g.2.2.2.2.1
      rw [lt_eq]
      by_cases hm : V 49 11 < 6
      · obtain ⟨m, em⟩ : ∃ m : Nat, U 62 33 = (m : Int) := ⟨(U 62 33).toNat, by omega⟩
        rw [radd (by omega : V 49 11 = (m : Int)) (by omega), if_neg (show ¬ U 62 33 = 6 by omega), em, Int.toNat_natCast, w32_id (x := (m : Int) + 1) (by omega) (by omega), w32_id (x := (m : Int) + 1 - 1) (by omega) (by omega), show (m : Int) + 1 - 1 = (m : Int) by omega]
        refine Two.posR (by omega) (Two.posR (by omega) (Two.ok ⟨rfl, g.rol (W := up (up (up (up V 50 m p0) 51 m p1) 49 11 ((m : Int) + 1)) 49 10 (-1)) (U2 := up (up (up U 75 m p0) 76 m p1) 62 33 ((m : Int) + 1)) (fun i hi => by rw [up_na _ _ _ (by omega), up_na _ _ _ (by omega), up_na _ _ _ (by omega), up_na _ _ _ (by omega)]) (up_eq _ _ _ _) (fun i a b => by rw [up_na _ _ _ a, up_na _ _ _ (by omega), up_na _ _ _ (by omega)]) (fun k hk => by rw [up_nf _ _ hk, up_na _ _ _ (by omega), up_na _ _ _ (by omega)]) ⟨?_, fun r hr => ?_, fun s hs => ?_⟩⟩))
        · simp only [up_ap, Nat.reduceEqDiff, reduceIte]; exact ⟨trivial, by omega, by omega⟩
        · simp only [up_ap, Nat.reduceEqDiff, reduceIte] at hr ⊢
          by_cases e : r = m
          · rw [if_pos e, if_pos e, if_pos e, if_pos e]; exact ⟨⟨rfl, h0⟩, rfl, h1⟩
          · rw [if_neg e, if_neg e, if_neg e, if_neg e]; exact r4 r (by omega)
        · simp only [up_ap, Nat.reduceEqDiff, reduceIte]; exact r5 s hs
      · unfold f_Rolling_add
        rw [if_neg hm, if_pos (show U 62 33 = 6 by omega)]
        exact Two.ok ⟨rfl, g.more⟩
    · rw [if_pos (isFromV_0.mpr h1), if_pos (isIn_0.mpr h1)]; exact dg3 g (-1)
  · rw [if_pos (isFromV_0.mpr h0), if_pos (isIn_0.mpr h0)]; exact dg3 g (-1)
theorem g_sort {c : Int} {V U : VV} {h : HP} {p0 p1 p2 p3 : Int} (g : G c V h U) : CA3 c h (some (f_Br_sort V p0 p1 p2 p3)) (f_Mo_sort U p0 p1 p2 p3) := by
  unfold f_Br_sort f_Mo_sort CA3
  by_cases h0 : 0 ≤ p0 ∧ p0 ≤ 2
  · rw [if_neg (show ¬ isFromV p0 0 2 = 0 by rw [isFromV_1 h0.1 h0.2]; omega), if_neg (show ¬ f_Mo_isIn U p0 0 2 = 0 by rw [isIn_1 h0.1 h0.2]; omega)]
    by_cases h1 : 0 ≤ p1 ∧ p1 ≤ 200
    · rw [if_neg (show ¬ isFromV p1 0 200 = 0 by rw [isFromV_1 h1.1 h1.2]; omega), if_neg (show ¬ f_Mo_isIn U p1 0 200 = 0 by rw [isIn_1 h1.1 h1.2]; omega)]
      by_cases h2 : 0 ≤ p2 ∧ p2 ≤ p1
      · rw [if_neg (show ¬ isFromV p2 0 p1 = 0 by rw [isFromV_1 h2.1 h2.2]; omega), if_neg (show ¬ f_Mo_isIn U p2 0 p1 = 0 by rw [isIn_1 h2.1 h2.2]; omega)]
        by_cases h3 : 0 ≤ p3 ∧ p3 ≤ 9
        · rw [if_neg (show ¬ isFromV p3 0 9 = 0 by rw [isFromV_1 h3.1 h3.2]; omega), if_neg (show ¬ f_Mo_isIn U p3 0 9 = 0 by rw [isIn_1 h3.1 h3.2]; omega)]
          obtain ⟨r1, r4, r5⟩ := id g.2.2.2.2.1
          rw [lt_eq]
          unfold f_Rolling_setSort
          obtain ⟨m, rfl⟩ : ∃ m : Nat, p0 = (m : Int) := ⟨p0.toNat, by omega⟩
          rw [lt_eq, lt_eq, lt_eq, setV_in (by omega) (by omega), setV_in (by omega) (by omega), setV_in (by omega) (by omega), Int.toNat_natCast]
          refine Two.posR (by omega) (Two.posR (by omega) (Two.posR (by omega) (Two.ok ⟨rfl, g.rol (W := up (up (up (up V 52 m p1) 53 m p2) 54 m p3) 49 10 (-1)) (U2 := up (up (up U 77 m p1) 78 m p2) 79 m p3) (fun i hi => by rw [up_na _ _ _ (by omega), up_na _ _ _ (by omega), up_na _ _ _ (by omega), up_na _ _ _ (by omega)]) (up_eq _ _ _ _) (fun i a b => by rw [up_na _ _ _ (by omega), up_na _ _ _ (by omega), up_na _ _ _ (by omega)]) (fun k hk => by rw [up_na _ _ _ (by omega), up_na _ _ _ (by omega), up_na _ _ _ (by omega)]) ⟨?_, fun r hr => ?_, fun s hs => ?_⟩⟩)))
          · simp only [up_ap, Nat.reduceEqDiff, reduceIte]; exact r1
          · simp only [up_ap, Nat.reduceEqDiff, reduceIte] at hr ⊢; exact r4 r hr
          · simp only [up_ap, Nat.reduceEqDiff, reduceIte]
            by_cases e : s = m
            · rw [if_pos e, if_pos e, if_pos e, if_pos e, if_pos e, if_pos e]; exact ⟨rfl, rfl, rfl, h3⟩
            · rw [if_neg e, if_neg e, if_neg e, if_neg e, if_neg e, if_neg e]; exact r5 s hs
        · rw [if_pos (isFromV_0.mpr h3), if_pos (isIn_0.mpr h3)]; exact dg3 g 0
      · rw [if_pos (isFromV_0.mpr h2), if_pos (isIn_0.mpr h2)]; exact dg3 g 0
    · rw [if_pos (isFromV_0.mpr h1), if_pos (isIn_0.mpr h1)]; exact dg3 g 0
  · rw [if_pos (isFromV_0.mpr h0), if_pos (isIn_0.mpr h0)]; exact dg3 g 0
