/-! a run's cores are drawn, then it is rolled -/
theorem RA.jm {V U U2 : VV} {h : HP} (r : RA V h U) (e : ∀ i k, jM i k = false → i ≠ 122 → U2 i k = U i k) (sj : SJobs V U2) : RA V h U2 := by
  obtain ⟨r1, ⟨l1, l2, l3, l4⟩, ⟨p1, p2, p3⟩, r4, r5, r6, r7⟩ := r
  have er : ∀ i, 86 ≤ i → i ≠ 122 → U2 i = U i := fun i a b => by
    funext k
    refine e i k ?_ b
    unfold jM
    have h1 : Nat.beq i 62 = false := by
      cases q : Nat.beq i 62 with
      | false => rfl
      | true => have := Nat.eq_of_beq_eq_true q; omega
    have h2 : Nat.ble i 70 = false := by
      cases q : Nat.ble i 70 with
      | false => rfl
      | true => have := Nat.le_of_ble_eq_true q; omega
    rw [h1, h2]
    rw [Bool.and_false]
    rfl
  have e62 : ∀ k, k ≠ 13 → k ≠ 14 → U2 62 k = U 62 k := fun k a b => by
    refine e 62 k ?_ (by omega)
    unfold jM
    have h1 : Nat.beq k 13 = false := by
      cases q : Nat.beq k 13 with
      | false => rfl
      | true => have := Nat.eq_of_beq_eq_true q; omega
    have h2 : Nat.beq k 14 = false := by
      cases q : Nat.beq k 14 with
      | false => rfl
      | true => have := Nat.eq_of_beq_eq_true q; omega
    rw [h1, h2]
    rfl
  have x13 : U2 62 13 = U 62 13 := by rw [sj.1, r5]
  have x70 : ∀ j : Nat, (j : Int) < U 62 13 → U2 70 j = U 70 j := fun j hj => by rw [(sj.2.2 j (by omega)).2, (r7.2.2 j (by omega)).2]
  have x69 : ∀ j : Nat, (j : Int) < U 62 13 → U2 69 j = U 69 j := fun j hj => by rw [(sj.2.2 j (by omega)).1, (r7.2.2 j (by omega)).1]
  have y72 := e62 72 (by omega) (by omega)
  have y73 := e62 73 (by omega) (by omega)
  have y74 := e62 74 (by omega) (by omega)
  have y75 := e62 75 (by omega) (by omega)
  have y76 := e62 76 (by omega) (by omega)
  have y77 := e62 77 (by omega) (by omega)
  have y78 := e62 78 (by omega) (by omega)
  have y79 := e62 79 (by omega) (by omega)
  have y80 := e62 80 (by omega) (by omega)
  have y22 := e62 22 (by omega) (by omega)
  have z86 := er 86 (by omega) (by omega)
  have z90 := er 90 (by omega) (by omega)
  have z94 := er 94 (by omega) (by omega)
  have z95 := er 95 (by omega) (by omega)
  have z96 := er 96 (by omega) (by omega)
  have z97 := er 97 (by omega) (by omega)
  have z98 := er 98 (by omega) (by omega)
  have z99 := er 99 (by omega) (by omega)
  have z100 := er 100 (by omega) (by omega)
  have z104 := er 104 (by omega) (by omega)
  have z107 := er 107 (by omega) (by omega)
  have z108 := er 108 (by omega) (by omega)
  have z109 := er 109 (by omega) (by omega)
  have yb : busy U2 = busy U := by funext k; unfold busy; rw [z86]
  have yp : ∀ j, pend U2 j = pend U j := fun j => by funext k; unfold pend; rw [z86, z90, z99, z100]
  have yl : ∀ n, preL V h U2 n = preL V h U n := fun n => by unfold preL; rw [z100]
  refine ⟨r1, ⟨⟨?_, ?_, fun l hl => ?_⟩, ?_, ?_, ?_⟩, ⟨?_, ?_, ?_⟩, by rw [y74, x13]; exact r4, sj.1, ?_, sj⟩
  · rw [y72]; exact l1.1
  · rw [y72]; exact l1.2.1
  · rw [y72] at hl
    have := l1.2.2 l hl
    refine ⟨fun f hf => by rw [er (99 + f) (by omega) (by omega)]; exact this.1 f hf, by rw [z99, x13]; exact this.2.1, by rw [z100]; exact this.2.2.1, by rw [z104]; exact this.2.2.2⟩
  · unfold gLO at l2 ⊢
    simp only [y79, y72, y22, y73, y75, yb, yl, z108]
    exact l2
  · obtain ⟨a1, a2, a3⟩ := l3
    refine ⟨by rw [x13]; exact a1, fun j hj => ?_, fun j hj => ?_⟩
    · rw [z94, x70 j (by omega)]; exact a2 j hj
    · rw [x13] at hj
      rw [z94, z95, y74, y75, y22, yp, x70 j hj]; exact a3 j hj
  · obtain ⟨a1, a2, a3, a4, a5, a6, a7, a8, a9⟩ := l4
    refine ⟨by rw [y74]; exact a1, by rw [y74, x13]; exact a2, fun j hj => ?_, a4, fun hj => ?_, by rw [y75]; exact a6, by rw [y75]; exact a7, by rw [y74, x13, y75]; exact a8, by rw [y74, x13]; exact a9⟩
    · rw [x13] at hj
      rw [z95, y74, x70 j hj]; exact a3 j hj
    · rw [y74, x13] at hj
      rw [y74, x70 _ (by omega)]; exact a5 hj
  · unfold gSU at p1 ⊢
    rw [y76, y78, y79, y80, y73, y74, y77, x13, z97]
    exact p1
  · unfold gCA at p2 ⊢
    rw [y74, y75, z96, z97, z98]
    exact p2
  · intro j hj
    rw [y74] at hj
    obtain ⟨b1, b2⟩ := p3 j hj
    refine ⟨b1, fun i hi => ?_⟩
    have := b2 i hi
    unfold mnU at this ⊢
    rw [z109, z98, x69 j (by omega), e62 29 (by omega) (by omega), e62 30 (by omega) (by omega), e62 31 (by omega) (by omega), e62 32 (by omega) (by omega)]
    exact this
  · intro l hl
    rw [y72] at hl
    rw [z107]; exact r6 l hl
/-- the class's drawing hangs on the number of jobs alone -/
theorem drawN2 {c : Int} {V U Y : VV} {h : HP} {n s : Int} (g : G c V h U) (hn : 1 ≤ n ∧ n ≤ nJ V) (y1 : Y 1 = V 1) : Two (f_Br_draw Y n s) (f_Mo_isDrawn U n s) (fun W z => PD W z.1 ∧ ∀ i, i ≠ 58 → W i = Y i) := by
  obtain ⟨s1, s2, s3, s4, s5, s6⟩ := id g.2.2.1
  have nb := s1.1.nJb
  have nY : nJ Y = nJ V := by unfold nJ; rw [y1]
  unfold f_Br_draw f_Mo_isDrawn
  rw [show f_Road_jobs Y = nJ V by rw [← s1.1.jobs]; unfold f_Road_jobs; rw [y1]]
  refine Two.bindR (hasJobs_mj s1 s2) (fun y hy => ?_)
  obtain ⟨m, sj, -, e⟩ := hy
  rw [if_pos (by omega)] at e
  rw [e, if_neg (show ¬ (1 : Int) = 0 by omega), if_neg (show ¬ f_Mo_isIn y.1 n 1 (y.1 62 13) = 0 by rw [sj.1, isIn_1 hn.1 hn.2]; omega)]
  exact (draw2 (V0 := Y) (U0 := y.1) (N := nJ V) ⟨by omega, by omega⟩ nY sj.1 hn 36 FU FU Y y.1 0 (by omega) (by decide) (by decide) (by omega) (by omega) (fun i hi => by omega) (fun _ _ => rfl) (fun _ _ => rfl)).imp (fun W z hz => ⟨hz.2.1, hz.2.2.1⟩)
theorem rollK {c : Int} {V U : VV} {h : HP} (g : G c V h U) (ra : RA V h U) (nj : 0 < nJ V) : Two (f_Rolling_roll V (V 46 2)) (f_Mo_roll U) (fun Y X => Y 1 = V 1 ∧ Y 9 = V 9 ∧ ∀ i, ¬ (112 ≤ i ∧ i ≤ 117) → X i = U i) := by
  have f := ra.rf g nj
  have ck : ∀ j : Nat, (j : Int) < nJ V → CoolK V j := fun j hj => (ra.job g.2.2.1.1 hj).1
  obtain ⟨Y, X, eY, eX, ⟨fY, u, -⟩, kr⟩ := roll2 (x := V 46 2) f ck
  unfold f_Rolling_roll
  by_cases e : V 49 10 = V 46 2
  · rw [if_pos e]
    exact ⟨V, X, rfl, eX, rfl, rfl, u.1⟩
  · rw [if_neg e]
    exact ⟨Y, X, eY, eX, by rw [kr 1 (by omega) (by omega)]; exact up_na _ _ _ (by omega), by rw [kr 9 (by omega) (by omega)]; exact up_na _ _ _ (by omega), u.1⟩
