/-! what is set -/
theorem chgV (V : VV) : (∀ i, i ≠ 0 → i ≠ 46 → i ≠ 61 → f_Br_changed V i = V i) ∧ f_Br_changed V 0 15 = -2 ∧ (∀ k, k ≠ 15 → f_Br_changed V 0 k = V 0 k) ∧ f_Br_changed V 46 7 = 0 ∧ (∀ k, k ≠ 7 → f_Br_changed V 46 k = V 46 k) ∧ ∀ k, k < 21 → f_Br_changed V 61 k = -2 := by
  have e : f_Br_changed V = fillV (up (up V 46 7 0) 0 15 (-2)) 61 21 (-2) := by
    unfold f_Br_changed f_Paving_forget
    rw [lt_eq, lt_eq]
  rw [e]
  refine ⟨fun i a b c => ?_, ?_, fun k a => ?_, ?_, fun k a => ?_, fun k a => fill_in a⟩
  · rw [fill_na c, up_na _ _ _ a, up_na _ _ _ b]
  · rw [fill_na (by omega), up_eq]
  · rw [fill_na (by omega), up_nf _ _ a, up_na _ _ _ (by omega)]
  · rw [fill_na (by omega), up_na _ _ _ (by omega), up_eq]
  · rw [fill_na (by omega), up_na _ _ _ (by omega), up_nf _ _ a]
/-- whatever the new settings are: the old runs are forgotten -/
theorem INVR.chg {V W : VV} {h : HP} (v : INVR V h) (w : ∀ i, (28 ≤ i ∧ i ≤ 49) → W i = V i) : INVR (f_Br_changed W) h := by
  obtain ⟨c0, c1, c2, c3, c4, c5⟩ := chgV W
  obtain ⟨c, ⟨l1, l2⟩, s1, s2⟩ := v
  have e2 : f_Br_changed W 46 2 = V 46 2 := by rw [c4 2 (by omega), w 46 (by omega)]
  refine ⟨⟨c.1, fun z => absurd c3 z⟩, ⟨?_, fun _ z => absurd c3 z⟩, by omega, by omega⟩
  rw [e2, c0 49 (by omega) (by omega) (by omega), w 49 (by omega)]
  exact l1
theorem PKC.chg {W : VV} : PKC (f_Br_changed W) := by
  obtain ⟨c0, c1, c2, c3, c4, c5⟩ := chgV W
  exact ⟨Or.inl c1, fun p a b => Or.inl (c5 _ (by omega))⟩
/-- new settings of what the runs hang on: all else as it was -/
theorem G.set {c : Int} {V U W U2 : VV} {h : HP} (g : G c V h U) (w : ∀ i, (i = 16 ∨ i = 17 ∨ i = 26 ∨ i = 27 ∨ (28 ≤ i ∧ i ≤ 54)) → W i = V i) (w16 : W 0 16 = V 0 16) (w17 : W 0 17 = V 0 17) (s : SETR W U2) (t : U2 62 22 = W 10 5 ∧ 1 ≤ W 10 5 ∧ W 10 5 ≤ 16) (u48 : U2 62 48 = W 18 6) (u33 : U2 62 33 = U 62 33) (u40 : U2 62 40 = U 62 40) (u41 : U2 62 41 = U 62 41) (u42 : U2 62 42 = U 62 42) (u105 : U2 62 105 = U 62 105) (u : ∀ i, ((75 ≤ i ∧ i ≤ 80) ∨ i = 118 ∨ i = 119) → U2 i = U i) : G (c + 1) (f_Br_changed W) h U2 := by
  obtain ⟨g1, g2, g3, g4, g5, g6, g7, g8, g9, g10⟩ := g
  obtain ⟨c0, c1, c2, c3, c4, c5⟩ := chgV W
  have ss : SS W (f_Br_changed W) := ⟨fun i a b => c0 i (by omega) (by omega) (by omega), by rw [c0 18 (by omega) (by omega) (by omega)], by rw [c0 18 (by omega) (by omega) (by omega)], fun i a b => c0 i (by omega) (by omega) (by omega)⟩
  refine ⟨g1.chg (fun i hi => w i (by omega)), ?_, s.ss ss, ?_, ?_, ?_, ?_, ?_, ?_, PKC.chg⟩
  · rw [c4 2 (by omega), w 46 (by omega)]; omega
  · rw [c0 10 (by omega) (by omega) (by omega)]; exact t
  · unfold ROLS
    rw [c0 49 (by omega) (by omega) (by omega), c0 50 (by omega) (by omega) (by omega), c0 51 (by omega) (by omega) (by omega), c0 52 (by omega) (by omega) (by omega), c0 53 (by omega) (by omega) (by omega), c0 54 (by omega) (by omega) (by omega), w 49 (by omega), w 50 (by omega), w 51 (by omega), w 52 (by omega), w 53 (by omega), w 54 (by omega), u33, u 75 (by omega), u 76 (by omega), u 77 (by omega), u 78 (by omega), u 79 (by omega)]
    exact g5
  · unfold TAPS
    rw [c0 16 (by omega) (by omega) (by omega), c0 17 (by omega) (by omega) (by omega), w 16 (by omega), w 17 (by omega), u40, u 80 (by omega)]
    exact g6
  · rw [c2 16 (by omega), c2 17 (by omega), w16, w17, u41, u42]; exact g7
  · rw [c0 18 (by omega) (by omega) (by omega)]; exact u48
  · unfold RATS
    rw [c0 26 (by omega) (by omega) (by omega), c0 27 (by omega) (by omega) (by omega), w 26 (by omega), w 27 (by omega), u105, u 118 (by omega), u 119 (by omega)]
    exact g9
/-- a call of the class that only writes, beside one of the reference -/
def CA2 (c : Int) (h : HP) (a : VV × Int) (b : VV × Int) : Prop := a.2 = b.2 ∧ G (c + 1) a.1 h b.1
theorem dg {V U : VV} {h : HP} {c : Int} (g : G c V h U) (x : Int) : CA2 c h (V, x) (U, x) := ⟨rfl, g.more⟩
theorem g_trucks {c : Int} {V U : VV} {h : HP} {n k : Int} (g : G c V h U) : CA2 c h (f_Br_trucks V n k) (f_Mo_trucks U n k) := by
  unfold f_Br_trucks f_Mo_trucks
  by_cases hn : 1 ≤ n ∧ n ≤ 16
  · rw [if_neg (show ¬ isFromV n 1 16 = 0 by rw [isFromV_1 hn.1 hn.2]; omega), if_neg (show ¬ f_Mo_isIn U n 1 16 = 0 by rw [isIn_1 hn.1 hn.2]; omega)]
    by_cases hk : 5 ≤ k ∧ k ≤ 30
    · rw [if_neg (show ¬ isFromV k 5 30 = 0 by rw [isFromV_1 hk.1 hk.2]; omega), if_neg (show ¬ f_Mo_isIn U k 5 30 = 0 by rw [isIn_1 hk.1 hk.2]; omega), lt_eq]
      obtain ⟨g1, g2, ⟨s1, s2, s3, s4, s5, s6⟩, g4, g5, g6, g7, g8, g9, g10⟩ := id g
      refine ⟨rfl, g.set (W := up (up V 10 5 n) 10 6 k) (U2 := up (up U 62 22 n) 62 23 k) (fun i hi => by rw [up_na _ _ _ (by omega), up_na _ _ _ (by omega)]) (by rw [up_na _ _ _ (by omega), up_na _ _ _ (by omega)]) (by rw [up_na _ _ _ (by omega), up_na _ _ _ (by omega)]) ⟨?_, ?_, ?_, ?_, ?_, ?_⟩ ⟨?_, ?_⟩ ?_ ?_ ?_ ?_ ?_ ?_ (fun i hi => by rw [up_na _ _ _ (by omega), up_na _ _ _ (by omega)])⟩
      · exact s1.congr (fun i a b => by rw [up_na _ _ _ (by omega), up_na _ _ _ (by omega)])
      · unfold SRoad
        simp only [up_ap, Nat.reduceEqDiff, reduceIte]
        exact s2
      · unfold SPl
        simp only [up_ap, Nat.reduceEqDiff, reduceIte]
        obtain ⟨a1, a2, a3, a4, a5⟩ := s3
        exact ⟨a1, a2, trivial, hk, a5⟩
      · refine ⟨by unfold WmOK; simp only [up_ap, Nat.reduceEqDiff, reduceIte]; exact s4.1, fun i hi => ?_⟩
        rw [up_nf _ _ (by omega), up_nf _ _ (by omega), up_na _ _ _ (by omega), up_na _ _ _ (by omega)]
        exact s4.2 i hi
      · unfold f_Mo_manyWorlds
        simp only [up_ap, Nat.reduceEqDiff, reduceIte]
        exact s5
      · intro w a b
        rw [up_na _ _ _ (show (18 : Nat) ≠ 10 by omega), up_na _ _ _ (show (18 : Nat) ≠ 10 by omega)] at b
        refine (s6 w a b).of ⟨by rw [up_na _ _ _ (by omega), up_na _ _ _ (by omega)], fun i x y => by rw [up_na _ _ _ (by omega), up_na _ _ _ (by omega)]⟩ ⟨by rw [up_nf _ _ (by omega), up_nf _ _ (by omega)], fun i x y k hk => by rw [up_na _ _ _ (by omega), up_na _ _ _ (by omega)]⟩
      · simp only [up_ap, Nat.reduceEqDiff, reduceIte]
      · simp only [up_ap, Nat.reduceEqDiff, reduceIte]; exact hn
      · simp only [up_ap, Nat.reduceEqDiff, reduceIte]; exact g8
      · simp only [up_ap, Nat.reduceEqDiff, reduceIte]
      · simp only [up_ap, Nat.reduceEqDiff, reduceIte]
      · simp only [up_ap, Nat.reduceEqDiff, reduceIte]
      · simp only [up_ap, Nat.reduceEqDiff, reduceIte]
      · simp only [up_ap, Nat.reduceEqDiff, reduceIte]
    · rw [if_pos (isFromV_0.mpr hk), if_pos (isIn_0.mpr hk)]; exact dg g 0
  · rw [if_pos (isFromV_0.mpr hn), if_pos (isIn_0.mpr hn)]; exact dg g 0
