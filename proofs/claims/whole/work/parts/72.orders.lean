/-! (4) the orders of a minute -/
theorem FR.seek {V0 U0 V U : VV} {h : HP} {t β tl : Int} {τ ρ : Nat → Int} {j : Nat} (r : FR V0 U0 h t β tl τ ρ V U) (f : FirstJ (U0 62 13) (U 94) (U0 70) j) : FR V0 U0 h t β tl τ ρ (up V 37 6 (j : Int)) U := by
  obtain ⟨⟨cf, mf, hh⟩, rt, rj, rp, l0, l1⟩ := r
  obtain ⟨i1, i2, i3⟩ := hh.lie
  obtain ⟨la, lo, jo, jl⟩ := rj
  refine ⟨⟨cf.up rfl, mf, hh⟩, rt.frame (fun i x y => up_na _ _ _ (by omega)) (fun _ _ => rfl) rfl rfl, ⟨?_, ?_, ?_, ?_⟩, rp.frame (fun i x => up_na _ _ _ (by omega)) (fun _ _ => rfl), l0, l1⟩
  · unfold gLA; rw [up_na _ _ _ (by omega), up_na _ _ _ (by omega)]; exact la
  · unfold gLO preL; rw [up_na _ _ _ (by omega), up_na _ _ _ (by omega)]; exact lo
  · unfold gJO; rw [up_eq, up_na _ _ _ (by omega)]
    have := f.1
    exact ⟨by omega, fun i hi => f.2.1 i (by omega), jo.2.2⟩
  · unfold gJL; rw [up_na _ _ _ (by omega)]; exact jl
theorem EN.jobs {V0 U0 V U : VV} {h : HP} (e : EN V0 U0) (r : R0 V0 U0 V h U) : f_Road_jobs V = U0 62 13 ∧ U 62 13 = U0 62 13 ∧ 0 < U0 62 13 ∧ U0 62 13 ≤ 36 ∧ V 1 8 = V0 1 8 ∧ U 62 0 = V0 1 8 ∧ U0 62 13 = nJ V0 := by
  obtain ⟨d, sr, sj, n0, -⟩ := e
  obtain ⟨c, m, -⟩ := r
  have jb := d.1.jobs
  have nb := d.1.nJb
  have e1 : f_Road_jobs V = f_Road_jobs V0 := by
    unfold f_Road_jobs
    rw [c 1 8 rfl, c 1 9 rfl]
  have e2 := sj.1
  refine ⟨by rw [e1, jb, e2], m 62 13 rfl, by omega, by omega, c 1 8 rfl, ?_, e2⟩
  rw [m 62 0 rfl]; exact sr.1
theorem EN.ton {V0 U0 V U : VV} {h : HP} (e : EN V0 U0) (r : R0 V0 U0 V h U) {j : Nat} (hj : (j : Int) < U0 62 13) : V 9 j = U0 70 j ∧ U 70 j = U0 70 j ∧ 1 ≤ U0 70 j ∧ U0 70 j ≤ 3744 ∧ V 8 j = U0 69 j ∧ U 69 j = U0 69 j ∧ 20 ≤ U0 69 j ∧ U0 69 j ≤ 260 := by
  obtain ⟨d, sr, sj, n0, -⟩ := e
  obtain ⟨c, m, -⟩ := r
  have e2 := sj.1
  obtain ⟨z1, z2⟩ := sj.2.2 j (by omega)
  have dd := d.2.2.2.2 j (by omega)
  have tb := (ton_bd d.1 d.lb (j := (j : Int)) (by omega) (by omega)).2.2
  have db := dep_bd d.1 d.lb (j := (j : Int)) (by omega) (by omega)
  rw [c 9 j rfl, m 70 j rfl, c 8 j rfl, m 69 j rfl, z1, z2, dd.1, dd.2]
  exact ⟨rfl, rfl, tb.1, tb.2, rfl, rfl, db.1, db.2⟩
theorem EN.kind {V0 U0 V U : VV} {h : HP} (e : EN V0 U0) (r : R0 V0 U0 V h U) {j : Nat} (hj : (j : Int) < U0 62 13) : ∃ kd : Int, f_Road_kindOf V (j : Int) = kd ∧ U 62 0 ≠ 0 ∧ (0 ≤ w32 (Int.tdiv (j : Int) (U 62 0)) ∧ w32 (Int.tdiv (j : Int) (U 62 0)) < 3) ∧ U 66 (w32 (Int.tdiv (j : Int) (U 62 0))).toNat = kd ∧ ∃ p : Nat, (p : Int) < U0 62 17 ∧ V 11 p = kd := by
  obtain ⟨-, -, -, -, e8, e0, e13⟩ := e.jobs r
  obtain ⟨d, sr, sj, n0, sp, -, -, -, -, -, ek⟩ := e
  obtain ⟨c, m, -⟩ := r
  obtain ⟨s0, s1, s2, -⟩ := d.1.split (j := (j : Int)) (by omega) (by omega)
  have ly := d.1.lay (j := (j : Int)) (by omega) (by omega)
  have ly2 : f_Road_layerOf V (j : Int) = (j : Int) / V0 1 8 := by
    rw [← ly]; unfold f_Road_layerOf; rw [e8]
  have ly3 : w32 (Int.tdiv (j : Int) (U 62 0)) = (j : Int) / V0 1 8 := by
    rw [← ly2]; unfold f_Road_layerOf cutV; rw [e8, e0, if_neg (by omega)]
  have lb := d.1.2.1
  refine ⟨V0 7 ((j : Int) / V0 1 8).toNat, ?_, by omega, by rw [ly3]; omega, ?_, ?_⟩
  · unfold f_Road_kindOf
    rw [ly2, atV_in (by omega) (by omega)]
    exact c 7 _ rfl
  · rw [ly3, m 66 _ rfl]
    exact (sr.2.2.2.2.2.2.2.2 ((j : Int) / V0 1 8).toNat (by omega)).2
  · obtain ⟨p, p1, p2⟩ := ek ((j : Int) / V0 1 8).toNat (by omega)
    have := sp.1
    exact ⟨p, by omega, by rw [c 11 p rfl]; exact p2⟩
theorem order2 {V0 U0 V U : VV} {h : HP} {t tl n : Int} {j k p c : Nat} (e : EN V0 U0) (ht : 0 ≤ t ∧ t ≤ 4319) (r : FR V0 U0 h t t tl (fun _ => t + 1) (fun _ => t + 1) V U) (hk : (k : Int) < U0 62 22) (h86 : U 86 k = 0) (hp : (p : Int) < U0 62 17) (hpf : ∀ kd, (U 62 0 ≠ 0 ∧ (0 ≤ w32 (Int.tdiv (j : Int) (U 62 0)) ∧ w32 (Int.tdiv (j : Int) (U 62 0)) < 3) ∧ U 66 (w32 (Int.tdiv (j : Int) (U 62 0))).toNat = kd) → Sm (f_Mo_plantFor U kd) (fun x => x = (p : Int))) (hj : FirstJ (U0 62 13) (U 94) (U0 70) j) (hjn : (j : Int) < U0 62 13) (h6 : V 37 6 = (j : Int)) (hn : 1 ≤ n ∧ n ≤ 30 ∧ U 94 j + n ≤ U0 70 j) (hc : U 62 72 = (c : Int)) (hco : c < ordN h) : Two (f_Haulage_orderLoad_8 (addV (up V 28 3 ((c : Int) + 1)) h (c : Int) (j : Int) n (k : Int) (p : Int) t) h (k : Int) (j : Int) t (p : Int) n (c : Int)) (f_Mo_order_15 U (k : Int) t (j : Int) n) (fun q U => FR V0 U0 q.2 t t tl (fun _ => t + 1) (fun _ => t + 1) q.1 U) := by
  obtain ⟨r0, rt, rj, rp, l0, l1⟩ := id r
  obtain ⟨nN, nP, nw, -, -, ha⟩ := e.nv r0
  obtain ⟨hcf, hmf, hh⟩ := id r0
  obtain ⟨i1, i2, i3⟩ := hh.lie
  obtain ⟨o1, o2, o3⟩ := hh.bd
  obtain ⟨jb1, jb2, jb3, jb4, -, -, -⟩ := e.jobs r0
  obtain ⟨t1, t2, t3, t4, -⟩ := e.ton r0 hjn
  obtain ⟨kd, k1, k2, k3, k4, -⟩ := e.kind r0 hjn
  obtain ⟨la, lo, jo, jl⟩ := id rj
  obtain ⟨z1, z2, z3⟩ := jo.2.2 j hjn
  have s41 := rt.2.2.2.2.2.1 p hp
  have s41b := sm_nn (f := cntS U p) (n := (U0 62 22).toNat) (fun k _ => by unfold cntS; split <;> omega)
  have s41c := sm_le (f := cntS U p) (B := 1) (n := (U0 62 22).toNat) (fun k _ => by unfold cntS; split <;> omega)
  have o94 : 0 ≤ U 94 j := by
    have x1 := jl.2.2.1 j hjn
    have x2 := sm_nn (f := pend U j) (n := (U0 62 22).toNat) (fun k hk => by
      unfold pend
      split
      · next y =>
        have := rt.2.1 k (by omega) y.1
        have := (la.2.2 (U 90 k).toNat (by omega)).2.2.1
        omega
      · omega)
    have x3 : 0 ≤ U 95 j := by
      rw [x1]
      split
      · omega
      · split
        · exact jl.2.2.2.1
        · omega
    have x4 : 0 ≤ U 62 75 := jl.2.2.2.2.2.2.1
    rw [z2]
    split <;> omega
  rw [addV_eq hh hco]
  unfold f_Haulage_orderLoad_8 f_Mo_order_15
  rw [if_neg (by omega), if_neg k2, if_pos k3, k4, hc, lt_eq, lt_eq, lt_eq, lt_eq]
  refine Two.bindR (hpf kd ⟨k2, k3, k4⟩) (fun q3 hq3 => ?_)
  rw [hq3]
  rw [setV_in (id := 45) (by omega) (by omega), setV_in (id := 41) (by omega) (by omega), setV_in (id := 44) (by omega) (by omega), setV_in (id := 42) (by omega) (by omega), atV_in (id := 45) (by omega) (by omega), atV_in (id := 41) (by omega) (by omega)]
  simp only [Int.toNat_natCast]
  have e45 : ninV (up V 28 3 ((c : Int) + 1)) h.1 c j n k p t 45 j = U 94 j := by rw [ninV_na (by omega), up_na _ _ _ (by omega)]; exact z1
  rw [e45, w32_id (x := U 94 j + n) (by omega) (by omega)]
  have e41 : up (ninV (up V 28 3 ((c : Int) + 1)) h.1 c j n k p t) 45 j (U 94 j + n) 41 p = V 41 p := by rw [up_na _ _ _ (by omega), ninV_na (by omega), up_na _ _ _ (by omega)]
  rw [e41, w32_id (x := V 41 p + 1) (by omega) (by omega), w32_id (x := (c : Int) + 1) (by omega) (by omega)]
  refine Two.posR (by omega) (Two.posR (by omega) (Two.posR (by omega) (Two.posR (by omega) (Two.posR (by omega) (Two.posR (by omega) (Two.posR (by omega) (Two.posR (by omega) (Two.posR (by omega) (Two.posR (by omega) (Two.posR (by omega) (Two.posR (by omega) (Two.posR (by omega) (Two.posR (by omega) (Two.posR (by omega) ?_))))))))))))))
  have hcW : HC V (up (up (up (up (ninV (up V 28 3 ((c : Int) + 1)) h.1 c j n k p t) 45 j (U 94 j + n)) 41 p (V 41 p + 1)) 44 k (c : Int)) 42 k 1) := by
    intro i x1 x2
    rw [up_na _ _ _ (by omega), up_na _ _ _ (by omega), up_na _ _ _ (by omega), up_na _ _ _ (by omega), ninV_na (by omega), up_na _ _ _ (by omega)]
  have e37 : up (up (up (up (ninV (up V 28 3 ((c : Int) + 1)) h.1 c j n k p t) 45 j (U 94 j + n)) 41 p (V 41 p + 1)) 44 k (c : Int)) 42 k 1 37 4 = V0 37 4 := by
    rw [up_na _ _ _ (by omega), up_na _ _ _ (by omega), up_na _ _ _ (by omega), up_na _ _ _ (by omega), ninV_na (by omega), up_na _ _ _ (by omega)]
    exact nw.1
  rw [e37, nw.2.2]
  have hmW : HM U (up (up (up (up (up (up (up (up (up (up (up (up (up (up (up U 94 j (U 94 j + n)) 99 c (j : Int)) 100 c n) 101 c (k : Int)) 102 c (p : Int)) 103 c t) 104 c (-1)) 105 c (-1)) 106 c (-1)) 107 c 0) 108 c (-1)) 90 k (c : Int)) 62 72 ((c : Int) + 1)) 89 k (p : Int)) 86 k 1) := by
    refine ⟨?_, fun i x1 x2 => ?_⟩
    · rw [up_na _ _ _ (by omega), up_na _ _ _ (by omega), up_nf _ _ (by omega)]
      iterate 12 rw [up_na _ _ _ (by omega)]
    · iterate 15 rw [up_na _ _ _ (by omega)]
  obtain ⟨mm_, mm1, mm2, mm3, mm4⟩ := ((ha _ _ hcW hmW t ht.1 ht.2).2 p (by omega) (by omega)).2
  rw [mm3, mm4]
  refine Two.bindL (P := fun x => x = mm_) (Sm.ok rfl) (fun x hx => Two.bindR (P := fun x => x = mm_) (Sm.ok rfl) (fun y hy => ?_))
  rw [hx, hy, lt_eq, setV_in (id := 43) (by omega) (by omega), w32_id (x := t + mm_) (by omega) (by omega)]
  simp only [Int.toNat_natCast]
  refine Two.posR (by omega) (Two.ok ?_)
  dsimp only
  refine r.order (j := j) (k := k) (p := p) (c := c) (n := n) (m := mm_) ht hk h86 hp hj hjn hn ⟨mm1, mm2⟩ hc hco ?_ ?_ ?_ ?_ ?_ ?_ ?_ ?_ ?_ ?_ ?_ ?_ ?_ ?_ ?_ ?_ ?_ ?_ ?_ ?_
  · refine CFr.up (CFr.up (CFr.up (CFr.up (CFr.up ?_ rfl) rfl) rfl) rfl) rfl
    have kr := (kE_row hh).1
    unfold ninV
    exact ((((((((((hcf.up rfl).up (kr _)).up (kr _)).up (kr _)).up (kr _)).up (kr _)).up (kr _)).up (kr _)).up (kr _)).up (kr _))
  · exact ((((((((((((((((hmf.up rfl).up rfl).up rfl).up rfl).up rfl).up rfl).up rfl).up rfl).up rfl).up rfl).up rfl).up rfl).up rfl).up rfl).up rfl).up rfl)
  · intro i x1 x2 x3 x4 x5 x6 x7 x8
    rw [up_na _ _ _ x5, up_na _ _ _ x4, up_na _ _ _ x6, up_na _ _ _ x3, up_na _ _ _ x7, ninV_na x8, up_na _ _ _ x1]
  · intro x
    rw [up_na _ _ _ (by omega), up_na _ _ _ (by omega), up_na _ _ _ (by omega), up_na _ _ _ (by omega), up_na _ _ _ (by omega), ninV_na (by omega), up_ap, if_pos rfl]
  · intro x
    rw [up_na _ _ _ (by omega), up_na _ _ _ (by omega), up_na _ _ _ (by omega), up_na _ _ _ (by omega), up_na _ _ _ (by omega), ninV_na (by omega), up_na _ _ _ (by omega)]
    by_cases e6 : x = 6
    · subst e6; rw [if_pos rfl, h6]
    · rw [if_neg e6]
  · intro x
    rw [up_na _ _ _ (by omega), up_na _ _ _ (by omega), up_na _ _ _ (by omega), up_ap, if_pos rfl, up_na _ _ _ (by omega), ninV_na (by omega), up_na _ _ _ (by omega)]
  · intro x
    rw [up_na _ _ _ (by omega), up_ap, if_pos rfl, up_na _ _ _ (by omega), up_na _ _ _ (by omega), up_na _ _ _ (by omega), ninV_na (by omega), up_na _ _ _ (by omega)]
  · intro x
    rw [up_ap, if_pos rfl, up_na _ _ _ (by omega), up_na _ _ _ (by omega), up_na _ _ _ (by omega), up_na _ _ _ (by omega), ninV_na (by omega), up_na _ _ _ (by omega)]
  · intro x
    rw [up_na _ _ _ (by omega), up_na _ _ _ (by omega), up_ap, if_pos rfl, up_na _ _ _ (by omega), up_na _ _ _ (by omega), ninV_na (by omega), up_na _ _ _ (by omega)]
  · intro x
    rw [up_na _ _ _ (by omega), up_na _ _ _ (by omega), up_na _ _ _ (by omega), up_na _ _ _ (by omega), up_ap, if_pos rfl, ninV_na (by omega), up_na _ _ _ (by omega)]
  · intro l f hf
    rw [up_na _ _ _ (by omega), up_na _ _ _ (by omega), up_na _ _ _ (by omega), up_na _ _ _ (by omega), up_na _ _ _ (by omega), ninV_at hf, up_na _ _ _ (by omega)]
  · intro i x1 x2 x3 x4 x5 x6 x7
    iterate 16 rw [up_na _ _ _ (by omega)]
  · intro x; simp only [up_ap, Nat.reduceEqDiff, reduceIte]
  · intro x; simp only [up_ap, Nat.reduceEqDiff, reduceIte]
  · intro x; simp only [up_ap, Nat.reduceEqDiff, reduceIte]
  · intro x; simp only [up_ap, Nat.reduceEqDiff, reduceIte]
  · intro x; simp only [up_ap, Nat.reduceEqDiff, reduceIte]
  · intro x; simp only [up_ap, Nat.reduceEqDiff, reduceIte]
  · intro l f hf
    have : f = 0 ∨ f = 1 ∨ f = 2 ∨ f = 3 ∨ f = 4 ∨ f = 5 ∨ f = 6 ∨ f = 7 ∨ f = 8 := by omega
    rcases this with rfl | rfl | rfl | rfl | rfl | rfl | rfl | rfl | rfl <;> simp only [up_ap, Nat.reduceEqDiff, Nat.reduceAdd, reduceIte, lval]
  · intro x; simp only [up_ap, Nat.reduceEqDiff, reduceIte]
