/-! tells -/
theorem ltV_up {V : VV} {v1 v2 v3 v4 : Int} : ltV (up (up (up (up V 25 1 v1) 25 2 v2) 25 3 v3) 25 4 v4) = fun x => if x = 0 then v1 else if x = 1 then v2 else if x = 2 then v3 else v4 := by
  funext x
  unfold ltV
  rw [up_nf _ _ (show (1 : Nat) ≠ 4 by omega), up_nf _ _ (show (1 : Nat) ≠ 3 by omega), up_nf _ _ (show (1 : Nat) ≠ 2 by omega), up_eq, up_nf _ _ (show (2 : Nat) ≠ 4 by omega), up_nf _ _ (show (2 : Nat) ≠ 3 by omega), up_eq, up_nf _ _ (show (3 : Nat) ≠ 4 by omega), up_eq, up_eq]
theorem tellL {V U : VV} {v1 v2 v3 v4 : Int} (r : RATS V U) (hv : ∀ v, v = v1 ∨ v = v2 ∨ v = v3 ∨ v = v4 → -1000000000 ≤ v ∧ v ≤ 1000000000) : Two (f_Rate_tell V v1 v2 v3 v4) (f_Mo_work U v1 v2 v3 v4) (fun q z => (∀ i, i ≠ 25 → i ≠ 26 → q.1 i = V i) ∧ q.1 26 1 = V 26 1 ∧ (∀ i, i ≠ 121 → z.1 i = U i) ∧ z.2 = q.2 ∧ -1000000000 ≤ q.2 ∧ q.2 ≤ 1000000000) := by
  have lv := ltV_up (V := V) (v1 := v1) (v2 := v2) (v3 := v3) (v4 := v4)
  have e25 : ∀ i, i ≠ 25 → (up (up (up (up V 25 1 v1) 25 2 v2) 25 3 v3) 25 4 v4) i = V i := fun i hi => by rw [up_na _ _ _ hi, up_na _ _ _ hi, up_na _ _ _ hi, up_na _ _ _ hi]
  have r2 : RATS (up (up (up (up V 25 1 v1) 25 2 v2) 25 3 v3) 25 4 v4) U := by
    unfold RATS
    rw [e25 26 (by omega), e25 27 (by omega)]
    exact r
  unfold f_Rate_tell f_Mo_work
  generalize up (up (up (up V 25 1 v1) 25 2 v2) 25 3 v3) 25 4 v4 = VA at *
  obtain ⟨q, eq, cf, l, cd, hl, hb⟩ := r2.run (bd := True) (fun _ x => by
    rw [lv]
    dsimp only
    split
    · exact hv _ (by simp)
    · split
      · exact hv _ (by simp)
      · split <;> exact hv _ (by simp))
  obtain ⟨h1, h2⟩ := hb trivial
  rw [lv] at h1
  obtain ⟨z, ez, z1, z2, z3⟩ := workL (U := U) hv l FU 0 [] [q.2] (by rw [FU_up]; omega) (by omega) (by show 0 + l.length ≤ 128; omega) cd trivial h1
  obtain ⟨s, es⟩ : ∃ s, f_Tape_start 26 27 100 VA = some s := by
    cases e : f_Tape_start 26 27 100 VA with
    | none => rw [e] at eq; cases eq
    | some s => exact ⟨s, rfl⟩
  rw [es, obs] at eq
  rw [es, obs, eq, obs]
  have ez' : f_Mo_work_1 FU U v1 v2 v3 v4 0 0 = some z := ez
  rw [ez']
  refine Two.ok ⟨fun i a b => by dsimp only; rw [cf.1 i b]; exact e25 i a, ?_, z2, ?_, h2⟩
  · dsimp only
    rw [cf.2, e25 26 (by omega)]
  · dsimp only
    rw [z3, show z.1 121 0 = q.2 from z1.1, w32_id (by omega) (by omega)]
theorem g_tells {c : Int} {V U : VV} {h : HP} (g : G c V h U) {v1 v2 v3 v4 : Int} : CA3 c h (f_Br_tells V v1 v2 v3 v4) (f_Mo_tells U v1 v2 v3 v4) := by
  have key : ∀ v : Int, (f_Br_isTold V v = 0 ↔ f_Mo_isSmall U v = 0) ∧ (¬ f_Br_isTold V v = 0 → -1000000 ≤ v ∧ v ≤ 1000000) := fun v => by
    unfold f_Br_isTold f_Mo_isSmall
    by_cases i : -1000000 ≤ v ∧ v ≤ 1000000
    · rw [isFromV_1 i.1 i.2, isIn_1 i.1 i.2]
      exact ⟨Iff.rfl, fun _ => i⟩
    · have a : f_Mo_isIn U v (-1000000) 1000000 = 0 := isIn_0.mpr i
      have b : isFromV v (-1000000) 1000000 = 0 := isFromV_0.mpr (by omega)
      exact ⟨⟨fun _ => a, fun _ => b⟩, fun x => absurd b x⟩
  unfold CA3 f_Br_tells f_Mo_tells f_Mo_tells_10
  have no : Two (some (V, (-2000000000 : Int))) (some (U, (-2000000000 : Int))) (fun q z => q.2 = z.2 ∧ G (c + 1) q.1 h z.1) := Two.ok ⟨rfl, g.more⟩
  obtain ⟨a1, a2⟩ := key v1
  obtain ⟨b1, b2⟩ := key v2
  obtain ⟨c1, c2⟩ := key v3
  obtain ⟨d1, d2⟩ := key v4
  by_cases i1 : f_Br_isTold V v1 = 0
  · rw [if_pos i1, if_pos (a1.mp i1)]; exact no
  rw [if_neg i1, if_neg (fun x => i1 (a1.mpr x))]
  by_cases i2 : f_Br_isTold V v2 = 0
  · rw [if_pos i2, if_pos (b1.mp i2)]; exact no
  rw [if_neg i2, if_neg (fun x => i2 (b1.mpr x))]
  by_cases i3 : f_Br_isTold V v3 = 0
  · rw [if_pos i3, if_pos (c1.mp i3)]; exact no
  rw [if_neg i3, if_neg (fun x => i3 (c1.mpr x))]
  by_cases i4 : f_Br_isTold V v4 = 0
  · rw [if_pos i4, if_pos (d1.mp i4)]; exact no
  rw [if_neg i4, if_neg (fun x => i4 (d1.mpr x))]
  have e1 := a2 i1
  have e2 := b2 i2
  have e3 := c2 i3
  have e4 := d2 i4
  refine Two.bind2 (tellL g.2.2.2.2.2.2.2.2.1 (fun v hv => by rcases hv with rfl | rfl | rfl | rfl <;> omega)) (fun q z hq => ?_)
  obtain ⟨q1, q2, q3, q4, q5, q6⟩ := hq
  have tp := g.2.2.2.2.2.1
  refine Two.ok ⟨?_, g.inn (W := q.1) (U2 := z.1) (fun i hi => q1 i (by omega) (by omega)) (by rw [q1 0 (by omega) (by omega)]) (by rw [q1 18 (by omega) (by omega)]) (by rw [q1 18 (by omega) (by omega)]) q2 (fun k hk => by rw [q3 62 (by omega)]) (fun i hi => q3 i (by omega)) (fun i a b k hk => by rw [q3 i (by omega)]) (fun k hk => by rw [q3 118 (by omega), q3 119 (by omega)]; exact ⟨rfl, rfl⟩) ?_ ?_⟩
  · dsimp only
    rw [w32_id (by omega) (by omega), q4]
  · unfold TAPS
    rw [q1 16 (by omega) (by omega), q1 17 (by omega) (by omega), q3 62 (by omega), q3 80 (by omega)]
    exact tp
  · rw [q1 0 (by omega) (by omega), q3 62 (by omega)]
    exact g.2.2.2.2.2.2.1
