/-! (5) the paver's minute -/
def cTl (t : Int) : Nat → Int := fun _ => t + 1
theorem FR.tick {V0 U0 V U : VV} {h : HP} {t tl : Int} (ht : 0 ≤ t ∧ t ≤ 4319) (r : FR V0 U0 h t (t + 1) tl (fun _ => t + 1) (fun _ => t + 1) V U) : FR V0 U0 h (t + 1) (t + 1) tl (fun _ => t + 1) (fun _ => t + 1) V U := by
  obtain ⟨r0, ⟨rA, rB, rC, rD, rPA, rPS, A, A1, A2⟩, rj, ⟨⟨s1, s2, s3⟩, ⟨a1, a2, a3⟩, ka⟩, l0, l1⟩ := r
  refine ⟨r0, ⟨rA, rB, rC, rD, rPA, rPS, A, A1, fun k hk => ?_⟩, rj, ⟨⟨s1, by omega, s3⟩, ⟨fun j hj => ?_, fun z => ?_, a3⟩, ka⟩, l0, l1.1, fun l hl => ?_⟩
  · obtain ⟨z0, z1, z2, z3, z4, z5, z6⟩ := A2 k hk
    exact ⟨z0, z1, z2, fun z => by have := z3 z; omega, z4, z5, fun z => by have := z6 z; omega⟩
  · obtain ⟨b1, b2, b3⟩ := a1 j hj
    exact ⟨b1, by omega, b3⟩
  · obtain ⟨b1, b2, b3⟩ := a2 z
    exact ⟨b1, by omega, b3⟩
  · have := l1.2 l hl; exact ⟨by omega, this.2⟩
theorem FR.beta {V0 U0 V U : VV} {h : HP} {t tl : Int} {τ ρ : Nat → Int} (r : FR V0 U0 h t t tl τ ρ V U) : FR V0 U0 h t (t + 1) tl τ ρ V U := by
  obtain ⟨r0, ⟨rA, rB, rC, rD, rPA, rPS, A, A1, A2⟩, r⟩ := r
  refine ⟨r0, ⟨rA, rB, rC, rD, rPA, rPS, A, A1, fun k hk => ?_⟩, r⟩
  obtain ⟨z0, z1, z2, z3, z4, z5, z6⟩ := A2 k hk
  exact ⟨z0, fun z => by have := z1 z; omega, z2, z3, z4, z5, z6⟩
def stopU (a : Int) (U : VV) : VV := if U 62 73 = a then if U 62 78 < 0 then U else up U 62 76 (w32 (U 62 76 + 1)) else U
theorem FR.stop {V0 U0 V U : VV} {h : HP} {t tl : Int} (ht : 0 ≤ t ∧ t ≤ 4319) (r : FR V0 U0 h t (t + 1) tl (fun _ => t + 1) (fun _ => t + 1) V U) : FR V0 U0 h (t + 1) (t + 1) tl (fun _ => t + 1) (fun _ => t + 1) (up V 47 0 (U 62 76 + 1)) (up U 62 76 (U 62 76 + 1)) := by
  obtain ⟨⟨cf, mf, hh⟩, rt, rj, rp, l0, l1⟩ := r.tick ht
  obtain ⟨i1, i2, i3⟩ := hh.lie
  have bd := r.2.2.2.1.1.2.1
  obtain ⟨la, lo, jo, jl⟩ := rj
  obtain ⟨⟨s1, s2, s3, s4, s5, s6, s7, s8, s9⟩, ca, ka⟩ := rp
  have c : ∀ x, x ≠ 76 → up U 62 76 (U 62 76 + 1) 62 x = U 62 x := fun x hx => up_nf _ _ hx
  have u0 : ∀ i, i ≠ 62 → up U 62 76 (U 62 76 + 1) i = U i := fun i hi => up_na _ _ _ hi
  have v0 : ∀ i, i ≠ 47 → up V 47 0 (U 62 76 + 1) i = V i := fun i hi => up_na _ _ _ hi
  have v47 : ∀ x, x ≠ 0 → up V 47 0 (U 62 76 + 1) 47 x = V 47 x := fun x hx => up_nf _ _ hx
  have e47 : up V 47 0 (U 62 76 + 1) 47 0 = U 62 76 + 1 := up_eq _ _ _ _
  have e76 : up U 62 76 (U 62 76 + 1) 62 76 = U 62 76 + 1 := up_eq _ _ _ _
  have cf2 : CFr V0 (up V 47 0 (U 62 76 + 1)) := cf.up rfl
  have mf2 : MFr U0 (up U 62 76 (U 62 76 + 1)) := mf.up rfl
  generalize up V 47 0 (U 62 76 + 1) = V2 at *
  generalize up U 62 76 (U 62 76 + 1) = U2 at *
  refine ⟨⟨cf2, mf2, hh⟩, rt.frame (fun i a b => v0 i (by omega)) (fun i a => u0 i (by omega)) (c 63 (by omega)) (c 72 (by omega)), ⟨?_, ?_, ?_, ?_⟩, ⟨?_, ?_, ?_⟩, by rw [c 63 (by omega)]; exact l0, by rw [c 63 (by omega)]; exact l1.1, by unfold BGN; rw [c 72 (by omega), u0 104 (by omega), u0 107 (by omega)]; exact l1.2⟩
  · unfold gLA
    rw [v0 28 (by omega), v0 h.1 (by omega), c 72 (by omega), u0 99 (by omega), u0 100 (by omega), u0 104 (by omega)]
    refine ⟨la.1, la.2.1, fun l hl => ⟨fun f hf => ?_, (la.2.2 l hl).2⟩⟩
    rw [u0 _ (by omega)]
    exact (la.2.2 l hl).1 f hf
  · unfold gLO preL busy
    rw [v0 28 (by omega), v0 h.2.1 (by omega), c 72 (by omega), c 79 (by omega), c 73 (by omega), c 75 (by omega), u0 86 (by omega), u0 100 (by omega), u0 108 (by omega)]
    exact lo
  · unfold gJO pend
    rw [v0 37 (by omega), v0 45 (by omega), c 74 (by omega), c 75 (by omega), u0 86 (by omega), u0 90 (by omega), u0 94 (by omega), u0 95 (by omega), u0 99 (by omega), u0 100 (by omega)]
    exact jo
  · unfold gJL
    rw [v0 46 (by omega), c 74 (by omega), c 75 (by omega), u0 95 (by omega)]
    exact jl
  · unfold gSU
    rw [e47, e76, v47 3 (by omega), v47 4 (by omega), v47 5 (by omega), v47 1 (by omega), v0 46 (by omega), c 73 (by omega), c 74 (by omega), c 77 (by omega), c 78 (by omega), c 79 (by omega), c 80 (by omega), u0 97 (by omega)]
    exact ⟨rfl, by omega, s3, s4, s5, s6, s7, s8, s9⟩
  · unfold gCA
    rw [v0 46 (by omega), v0 32 (by omega), v0 33 (by omega), v0 48 (by omega), c 74 (by omega), c 75 (by omega), u0 96 (by omega), u0 97 (by omega), u0 98 (by omega)]
    exact ca
  · unfold gKA CoolK shJ mnJ
    rw [c 74 (by omega), v0 8 (by omega), v0 15 (by omega), v0 33 (by omega), v0 34 (by omega), v0 35 (by omega), v0 36 (by omega), u0 98 (by omega), u0 109 (by omega)]
    exact ka
theorem paveEnd {V0 U0 V U : VV} {h : HP} {t tl nn a : Int} (e : EN V0 U0) (ht : 0 ≤ t ∧ t ≤ 4319) (r : FR V0 U0 h t (t + 1) tl (fun _ => t + 1) (fun _ => t + 1) V U) (hn : 0 ≤ nn ∧ nn ≤ U0 62 92) (ha : U 62 73 = a + nn) : Two (f_Paving_pave_13 V h (U0 62 92 - nn)) (some U) (fun V2 U2 => FR V0 U0 h (t + 1) (t + 1) tl (fun _ => t + 1) (fun _ => t + 1) V2 (stopU a U2)) := by
  obtain ⟨nN, nP, nw, np, -, -⟩ := e.nv r.1
  have s1 := r.2.2.2.1.1.1
  have s2 := r.2.2.2.1.1.2.1
  have s3 := r.2.2.2.1.1.2.2.1
  have s4 := r.2.2.2.1.1.2.2.2.1
  unfold f_Paving_pave_13
  have a473 : ∀ _ : Nat, atV V 47 6 3 = V 47 3 := fun _ => atV_in (by omega) (by omega)
  have a470 : ∀ _ : Nat, atV V 47 6 0 = V 47 0 := fun _ => atV_in (by omega) (by omega)
  have s470 : ∀ x : Int, setV V 47 6 0 x = up V 47 0 x := fun x => setV_in (by omega) (by omega)
  rw [np.1, a473 0, a470 0, s470]
  refine Two.iteL (fun g => Two.iteL (fun g3 => Two.ok ?_) (fun g3 => Two.ltL (Two.ok ?_))) (fun g => Two.ok ?_)
  · unfold stopU
    rw [if_pos (by omega), if_pos (by omega)]
    exact r.tick ht
  · unfold stopU
    rw [if_pos (by omega), if_neg (by omega), s1, w32_id (x := U 62 76 + 1) (by omega) (by omega)]
    exact r.stop ht
  · unfold stopU
    rw [if_neg (by omega)]
    exact r.tick ht
theorem wai_bd {U0 U : VV} (hN : U0 62 22 ≤ 16 ∧ 1 ≤ U0 62 22) : 0 ≤ sm (wai U) (U0 62 22).toNat ∧ sm (wai U) (U0 62 22).toNat ≤ 16 := by
  have h1 := sm_nn (f := wai U) (n := (U0 62 22).toNat) (fun k _ => by unfold wai; split <;> omega)
  have h2 := sm_le (f := wai U) (B := 1) (n := (U0 62 22).toNat) (fun k _ => by unfold wai; split <;> omega)
  omega
theorem paveLoop {V0 U0 : VV} {h : HP} {t tl a : Int} (e : EN V0 U0) (ht : 0 ≤ t ∧ t ≤ 4319) : ∀ (K kk n m : Nat) (V U : VV) (turn nn : Int), kk ≤ K → sm (wai U) (U0 62 22).toNat + (U0 62 92 - nn) ≤ (kk : Int) → kk < n → kk < m → 0 ≤ nn → nn ≤ U0 62 92 → 0 ≤ turn → turn + (kk : Int) < 1000 → FR V0 U0 h t (t + 1) tl (fun _ => t + 1) (fun _ => t + 1) V U → U 62 73 = a + nn → Two (f_Paving_pave_1 n V h t (U0 62 92 - nn) turn) (f_Mo_paves_1 m U t nn 1) (fun V2 U2 => FR V0 U0 h (t + 1) (t + 1) tl (fun _ => t + 1) (fun _ => t + 1) V2 (stopU a U2)) := by
  intro K
  induction K with
  | zero =>
    intro kk n m V U turn nn e0 e1 e2 e3 h0 h1 t0 t1 r ha
    cases n with
    | zero => omega
    | succ n =>
      cases m with
      | zero => omega
      | succ m =>
        obtain ⟨nN, nP, nw, np, -, -⟩ := e.nv r.1
        have wb := wai_bd (U0 := U0) (U := U) ⟨by omega, by omega⟩
        show Two (if turn < 1000 then if 0 < U0 62 92 - nn then _ else f_Paving_pave_13 V h (U0 62 92 - nn) else _) (if (1 : Int) = 0 then some U else if nn < U 62 92 then _ else some U) _
        exact Two.posL (by omega) (Two.negL (by omega) (Two.negR (by omega) (Two.negR (by omega) (paveEnd e ht r ⟨h0, h1⟩ ha))))
  | succ K ih =>
    intro kk n m V U turn nn e0 e1 e2 e3 h0 h1 t0 t1 r ha
    cases n with
    | zero => omega
    | succ n =>
      cases m with
      | zero => omega
      | succ m =>
        obtain ⟨nN, nP, nw, np, -, -⟩ := e.nv r.1
        have wb := wai_bd (U0 := U0) (U := U) ⟨by omega, by omega⟩
        obtain ⟨jb1, jb2, jb3, jb4, -, -, -⟩ := e.jobs r.1
        obtain ⟨j1, j2, j3, j4, j5, j6, j7, j8, j9⟩ := id r.2.2.1.2.2.2
        show Two (if turn < 1000 then if 0 < U0 62 92 - nn then if (V 46 8) = 0 then Option.bind (f_Paving_isFirmBelow V t) (fun q4 => if q4.2 = 0 then f_Paving_pave_13 q4.1 h (U0 62 92 - nn) else if 0 < (q4.1 46 15) then Option.bind (f_Paving_layOut q4.1 (U0 62 92 - nn) t) (fun q9 => f_Paving_pave_1 n q9.1 h t (w32 (U0 62 92 - nn - q9.2)) (w32 (turn + 1))) else Option.bind (f_Paving_takeLoad q4.1 h t) (fun q7 => if q7.2 = 0 then f_Paving_pave_13 q7.1 h (U0 62 92 - nn) else f_Paving_pave_1 n q7.1 h t (U0 62 92 - nn) (w32 (turn + 1)))) else f_Paving_pave_13 V h (U0 62 92 - nn) else f_Paving_pave_13 V h (U0 62 92 - nn) else f_Paving_pave_13 V h (U0 62 92 - nn)) (if (1 : Int) = 0 then some U else if nn < (U 62 92) then if (U 62 74) < (U 62 13) then Option.bind (f_Mo_isFirm U t) (fun q4 => if q4 = 0 then some U else if (U 62 75) = 0 then Option.bind (f_Mo_firstWaiting U (U 62 74)) (fun q7 => f_Mo_paves_11 (f_Mo_paves_1 m) U t nn q7) else f_Mo_paves_11 (f_Mo_paves_1 m) U t nn (-1)) else some U else some U) _
        refine Two.posL (by omega) (Two.negR (by omega) ?_)
        by_cases gp : nn < U0 62 92
        · refine Two.posL (by omega) (Two.posR (by omega) ?_)
          by_cases gj : U 62 74 < U0 62 13
          · rw [if_pos (show V 46 8 = 0 by rw [j9, if_neg (by omega)]), if_pos (show U 62 74 < U 62 13 by omega)]
            rw [firmM e ht r]
            refine Two.bindL (firmC e ht r gj) (fun q4 hq4 => Two.bindR (P := fun x => x = firmF U t) (Sm.ok rfl) (fun x hx => ?_))
            obtain ⟨r4, f4⟩ := hq4
            rw [hx, f4]
            by_cases gf : firmF U t = 0
            · rw [if_pos gf, if_pos gf]
              exact paveEnd e ht r4 ⟨h0, h1⟩ ha
            · rw [if_neg gf, if_neg gf]
              have q15 : q4.1 46 15 = U 62 75 := r4.2.2.1.2.2.2.2.2.2.2.2.1
              rw [q15, w32_id (x := turn + 1) (by omega) (by omega)]
              -- what comes behind a laying
              have nxl : ∀ (n' : Nat) (tn : Int) (kk' : Nat) (U1 : VV), kk' + 1 ≤ kk → kk' < n' → 0 ≤ tn → tn + (kk' : Int) < 1000 → sm (wai U1) (U0 62 22).toNat + (U0 62 92 - nn) ≤ (kk' : Int) + 1 → U1 62 73 = a + nn → ∀ V2 U2 v, FR V0 U0 h t (t + 1) tl (fun _ => t + 1) (fun _ => t + 1) V2 U2 → 1 ≤ v → v ≤ U0 62 92 - nn → U2 62 73 = U1 62 73 + v → 0 ≤ U2 62 78 → U2 86 = U1 86 → Two (f_Paving_pave_1 n' (V2, v).1 h t (w32 (U0 62 92 - nn - (V2, v).2)) tn) (f_Mo_paves_1 m U2 t (nn + v) 1) (fun V2 U2 => FR V0 U0 h (t + 1) (t + 1) tl (fun _ => t + 1) (fun _ => t + 1) V2 (stopU a U2)) := by
                intro n' tn kk' U1 k1 k2 k3 k4 k5 k6 V2 U2 v r2 v1 v2 v3 _ v5
                dsimp only
                rw [w32_id (by omega) (by omega), show U0 62 92 - nn - v = U0 62 92 - (nn + v) by omega]
                have ew : sm (wai U2) (U0 62 22).toNat = sm (wai U1) (U0 62 22).toNat := by unfold wai; rw [v5]
                exact ih kk' n' m V2 U2 tn (nn + v) (by omega) (by omega) k2 (by omega) (by omega) (by omega) k3 k4 r2 (by omega)
              by_cases g75 : U 62 75 = 0
              · rw [if_neg (by omega), if_pos g75]
                obtain ⟨b, hb, hb2⟩ := took e ht r4 gj g75
                rw [hb]
                refine Two.bindR (P := fun x => x = b) (Sm.ok rfl) (fun x hx => ?_)
                rw [hx]
                unfold f_Mo_paves_11
                rcases hb2 with ⟨hbn, hc⟩ | ⟨hb0, htk⟩
                · rw [hc, if_pos (by omega), if_neg (show ¬ 0 < U 62 75 by omega), if_pos (show b < 0 by omega)]
                  refine Two.bindL (P := fun x => x = (q4.1, (0 : Int))) (Sm.ok rfl) (fun x hx => ?_)
                  rw [hx]
                  dsimp only
                  rw [if_pos rfl]
                  unfold f_Mo_paves_17
                  rw [if_pos (show (if U 62 75 < w32 (U 62 92 - nn) then U 62 75 else w32 (U 62 92 - nn) : Int) = 0 by
                    rw [w32_id (x := U 62 92 - nn) (by omega) (by omega), if_pos (by omega)]; exact g75)]
                  cases m with
                  | zero => omega
                  | succ m =>
                    show Two _ (if (0 : Int) = 0 then some U else _) _
                    rw [if_pos rfl]
                    exact paveEnd e ht r4 ⟨h0, h1⟩ ha
                · rw [if_neg (by omega), if_neg (show ¬ 0 < U 62 75 by omega), if_neg (show ¬ b < 0 by omega)]
                  refine Two.bind2 htk (fun q7 U2 hq7 => ?_)
                  obtain ⟨p1, p2, p3, p4⟩ := hq7
                  rw [p1, if_neg (by omega)]
                  have wb2 := wai_bd (U0 := U0) (U := U2) ⟨by omega, by omega⟩
                  have u73 : U2 62 73 = a + nn := (p4.1 73 (by omega) (by omega) (by omega)).trans ha
                  have u74 : U2 62 74 = U 62 74 := p4.1 74 (by omega) (by omega) (by omega)
                  have u92 : U2 62 92 = U 62 92 := p4.1 92 (by omega) (by omega) (by omega)
                  have j7' : 0 ≤ U2 62 75 := p2.2.2.1.2.2.2.2.2.2.2.2.2.1
                  by_cases g2 : U2 62 75 = 0
                  · unfold f_Mo_paves_17
                    rw [if_pos (show (if U2 62 75 < w32 (U2 62 92 - nn) then U2 62 75 else w32 (U2 62 92 - nn) : Int) = 0 by
                      rw [w32_id (x := U2 62 92 - nn) (by omega) (by omega), if_pos (by omega)]; exact g2)]
                    exact ih (kk - 1) n m q7.1 U2 (turn + 1) nn (by omega) (by omega) (by omega) (by omega) h0 h1 (by omega) (by omega) p2 u73
                  · cases n with
                    | zero => omega
                    | succ n =>
                      show Two (if turn + 1 < 1000 then if 0 < U0 62 92 - nn then if (q7.1 46 8) = 0 then Option.bind (f_Paving_isFirmBelow q7.1 t) (fun q4 => if q4.2 = 0 then f_Paving_pave_13 q4.1 h (U0 62 92 - nn) else if 0 < (q4.1 46 15) then Option.bind (f_Paving_layOut q4.1 (U0 62 92 - nn) t) (fun q9 => f_Paving_pave_1 n q9.1 h t (w32 (U0 62 92 - nn - q9.2)) (w32 (turn + 1 + 1))) else _) else _ else _ else _) _ _
                      have q8 : q7.1 46 8 = 0 := by
                        have := p2.2.2.1.2.2.2.2.2.2.2.2.2.2.2
                        rw [this, if_neg (by omega)]
                      refine Two.posL (by omega) (Two.posL (by omega) (Two.posL q8 (Two.bindL (firmC e ht p2 (by omega)) (fun q5 hq5 => ?_))))
                      obtain ⟨r5, f5⟩ := hq5
                      have q515 : q5.1 46 15 = U2 62 75 := r5.2.2.1.2.2.2.2.2.2.2.2.1
                      rw [f5, p4.firm, if_neg gf, q515, if_pos (by omega), w32_id (x := turn + 1 + 1) (by omega) (by omega)]
                      exact layBoth e ht r5 (by omega) (by omega) ⟨by omega, rfl, h0⟩ (nxl n (turn + 1 + 1) (kk - 2) U2 (by omega) (by omega) (by omega) (by omega) (by omega) u73)
              · rw [if_pos (by omega), if_neg g75]
                unfold f_Mo_paves_11
                rw [if_pos (by omega), if_pos (show 0 < U 62 75 by omega)]
                exact layBoth e ht r4 gj (by omega) ⟨by omega, rfl, h0⟩ (nxl n (turn + 1) (kk - 1) U (by omega) (by omega) (by omega) (by omega) (by omega) ha)
          · rw [if_neg (show ¬ V 46 8 = 0 by rw [j9, if_pos (by omega)]; omega), if_neg (show ¬ U 62 74 < U 62 13 by omega)]
            exact paveEnd e ht r ⟨h0, h1⟩ ha
        · refine Two.negL (by omega) (Two.negR (by omega) (paveEnd e ht r ⟨h0, h1⟩ ha))
theorem pave2 {V0 U0 V U : VV} {h : HP} {t tl : Int} (e : EN V0 U0) (ht : 0 ≤ t ∧ t ≤ 4319) (r : FR V0 U0 h t (t + 1) tl (fun _ => t + 1) (fun _ => t + 1) V U) : Two (f_Paving_pave V h t) (f_Mo_paves U t) (fun V2 U2 => FR V0 U0 h (t + 1) (t + 1) tl (fun _ => t + 1) (fun _ => t + 1) V2 (stopU (U 62 73) U2)) := by
  obtain ⟨nN, nP, nw, np, -, -⟩ := e.nv r.1
  have wb := wai_bd (U0 := U0) (U := U) ⟨by omega, by omega⟩
  unfold f_Paving_pave f_Mo_paves
  rw [np.1]
  have := paveLoop (h := h) (tl := tl) (a := U 62 73) e ht 36 36 FU FU V U 0 0 (by omega) (by omega) (by decide) (by decide) (by omega) (by omega) (by omega) (by omega) r (by omega)
  rw [show U0 62 92 - 0 = U0 62 92 by omega] at this
  exact this
