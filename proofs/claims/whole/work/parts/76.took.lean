/-! (5) both take the same load -/
/-- what a take leaves as it is -/
def Same (U U2 : VV) : Prop := (∀ x, x ≠ 75 → x ≠ 79 → x ≠ 80 → U2 62 x = U 62 x) ∧ U2 97 = U 97 ∧ U2 109 = U 109 ∧ U2 95 = U 95
theorem Same.firm {U U2 : VV} {t : Int} (s : Same U U2) : firmF U2 t = firmF U t := by
  unfold firmF
  rw [s.1 74 (by omega) (by omega) (by omega), s.1 0 (by omega) (by omega) (by omega), s.1 27 (by omega) (by omega) (by omega), s.2.1, s.2.2.1]
theorem heat_bd {hot keep d : Int} (h1 : 100 ≤ hot ∧ hot ≤ 200) (h2 : 1 ≤ keep ∧ keep ≤ 20) (h3 : 0 ≤ d ∧ d ≤ 5000) : (0 ≤ d.tdiv keep ∧ d.tdiv keep ≤ 5000) := by
  have e : d.tdiv keep = d / keep := Int.tdiv_eq_ediv_of_nonneg h3.1
  rw [e]
  refine ⟨Int.ediv_nonneg h3.1 (by omega), ?_⟩
  have := Int.ediv_le_self keep h3.1
  omega
theorem again_eq {W : VV} {h : HP} (hh : HOK h) {l hd : Nat} {n o q : Int} (hl : l < ordN h) (h0 : W h.1 (9 * l + 0) = (hd : Int)) (h1 : W h.1 (9 * l + 1) = n) (h45 : W 45 hd = o) (h37 : W 37 6 = q) (hd36 : hd < 36) (hb : -100000 ≤ o - n ∧ o - n ≤ 100000) : f_Haulage_orderAgain W h (l : Int) = up (up W 45 hd (o - n)) 37 6 (min q (hd : Int)) := by
  have of0 : ∀ _ : Nat, f_Loads_of W h (l : Int) 0 = (hd : Int) := by
    intro _; rw [show (0 : Int) = ((0 : Nat) : Int) from rfl]; exact (ld_of (f := 0) hh hl (by omega)).trans h0
  have of1 : ∀ _ : Nat, f_Loads_of W h (l : Int) 1 = n := by
    intro _; rw [show (1 : Int) = ((1 : Nat) : Int) from rfl]; exact (ld_of (f := 1) hh hl (by omega)).trans h1
  unfold f_Haulage_orderAgain
  rw [of0 0, of1 0, lt_eq, setV_in (by omega) (by omega), atV_in (by omega) (by omega), Int.toNat_natCast, h45, w32_id (by omega) (by omega), up_na _ _ _ (show (37 : Nat) ≠ 45 by omega), h37]
theorem sum4_eq {W : VV} {a : Int} (ha : W 47 4 = a) (hb : 0 ≤ a ∧ a ≤ 1000000) : setV W 47 6 4 (w32 (atV W 47 6 4 + 1)) = up W 47 4 (a + 1) := by
  have e : ∀ _ : Nat, atV W 47 6 4 = a := fun _ => (atV_in (by omega) (by omega)).trans ha
  rw [e 0, w32_id (by omega) (by omega)]
  exact setV_in (by omega) (by omega)
theorem sum5_eq {W : VV} {a d : Int} (ha : W 47 5 = a) (hb : 0 ≤ a ∧ a ≤ 1000000) (hd : 0 ≤ d ∧ d ≤ 30) : setV W 47 6 5 (w32 (atV W 47 6 5 + d)) = up W 47 5 (a + d) := by
  have e : ∀ _ : Nat, atV W 47 6 5 = a := fun _ => (atV_in (by omega) (by omega)).trans ha
  rw [e 0, w32_id (by omega) (by omega)]
  exact setV_in (by omega) (by omega)
theorem laid_eq {W : VV} {h : HP} (hh : HOK h) {l : Nat} {c : Int} (hc : W 28 2 = c) (hb : 0 ≤ c ∧ c < (ordN h : Int)) : f_Loads_noteLaid W h (l : Int) = up (up W h.2.1 c.toNat (l : Int)) 28 2 (c + 1) := by
  obtain ⟨i1, i2, i3⟩ := hh.lie
  obtain ⟨o1, o2, o3⟩ := hh.bd
  unfold f_Loads_noteLaid
  rw [hc, lt_eq, setV_in hb.1 hb.2, up_na _ _ _ (show (28 : Nat) ≠ h.2.1 by omega), hc, w32_id (by omega) (by omega)]
theorem took {V0 U0 V U : VV} {h : HP} {t tl : Int} (e : EN V0 U0) (ht : 0 ≤ t ∧ t ≤ 4319) (r : FR V0 U0 h t (t + 1) tl (fun _ => t + 1) (fun _ => t + 1) V U) (hj : U 62 74 < U0 62 13) (h75 : U 62 75 = 0) : ∃ b, f_Mo_firstWaiting U (U 62 74) = some b ∧ ((b = -1 ∧ f_Paving_takeLoad V h t = some (V, 0)) ∨ (0 ≤ b ∧ Two (f_Paving_takeLoad V h t) (f_Mo_takes U b t) (fun q U2 => q.2 = 1 ∧ FR V0 U0 h t (t + 1) tl (fun _ => t + 1) (fun _ => t + 1) q.1 U2 ∧ sm (wai U2) (U0 62 22).toNat = sm (wai U) (U0 62 22).toNat - 1 ∧ Same U U2))) := by
  obtain ⟨r0, rt, rj, rp, l0, l1⟩ := id r
  obtain ⟨nN, nP, nw, np, -, -⟩ := e.nv r0
  obtain ⟨hc, hm, hh⟩ := id r0
  obtain ⟨rA, rB, rC, rD, rPA, rPS, rGA⟩ := id rt
  obtain ⟨la, lo, jo, jl⟩ := id rj
  obtain ⟨la1, la2, la3⟩ := id la
  obtain ⟨o1, o2, o3⟩ := hh.bd
  obtain ⟨i1, i2, i3⟩ := hh.lie
  obtain ⟨-, -, -, jb4, -, -, -⟩ := e.jobs r0
  obtain ⟨hd, hhd⟩ : ∃ hd : Nat, U 62 74 = (hd : Int) := ⟨(U 62 74).toNat, by have := jl.2.1.1; omega⟩
  obtain ⟨b, hb1, hb⟩ := fwM (U := U) (v := (hd : Int)) (by omega) (fun k hk h5 => by have := (rB k (by omega) (by omega)).2.1; omega)
  rw [nN.2.1] at hb
  have fc : Sm (f_Haulage_firstStanding V h 5 0 (hd : Int)) (fun x => x = b) := by
    refine (fsC (by omega)).imp (fun x hx => ?_)
    rw [nN.1] at hx
    have eqv : ∀ k, k < (U0 62 22).toNat → ((V 42 k = 5 ∧ f_Loads_of V h (V 44 k) 0 = (hd : Int)) ↔ (U 86 k = 5 ∧ U 99 (U 90 k).toNat = (hd : Int))) := by
      intro k hk
      have t1 := rA k (by omega)
      rw [t1.1]
      by_cases z : U 86 k = 5
      · obtain ⟨b1, b2, b3, b4, b5, -⟩ := rB k (by omega) (by omega)
        have : f_Loads_of V h (V 44 k) 0 = U 99 (U 90 k).toNat := by
          rw [b1]
          have := ld_of (V := V) (f := 0) hh (l := (U 90 k).toNat) (by omega) (by omega)
          rw [show ((U 90 k).toNat : Int) = U 90 k by omega] at this
          exact this.trans ((la3 (U 90 k).toNat (by omega)).1 0 (by omega))
        rw [this]
      · exact ⟨fun y => absurd y.1 z, fun y => absurd y.1 z⟩
    refine Fst.eq hx hb eqv (fun k k' hk hk' hP hP' o => ?_)
    have s1 := ((eqv k hk).mp hP).1
    have s2 := ((eqv k' hk').mp hP').1
    exact rD k k' (by omega) (by omega) (Or.inr s1) (Or.inr s2) o
  refine ⟨b, by rw [hhd]; exact hb1, ?_⟩
  obtain ⟨x, x1, rfl⟩ := fc
  by_cases gb : x = -1
  · left
    refine ⟨gb, ?_⟩
    unfold f_Paving_takeLoad
    rw [jl.1, hhd, x1]
    show (if x = -1 then some (V, 0) else _) = _
    rw [if_pos gb]
  · right
    obtain ⟨k, rfl, k1, k2, k3⟩ : ∃ k : Nat, x = (k : Int) ∧ (k : Int) < U0 62 22 ∧ U 86 k = 5 ∧ U 99 (U 90 k).toNat = (hd : Int) := by
      rcases hb with ⟨z, -⟩ | ⟨m, z1, z2, z3, -⟩
      · exact absurd z gb
      · exact ⟨m, z1, by omega, z3⟩
    refine ⟨by omega, ?_⟩
    obtain ⟨b1, b2, b3, b4, b5, b6, -⟩ := rB k k1 (by omega)
    obtain ⟨l, hl⟩ : ∃ l : Nat, U 90 k = (l : Int) := ⟨(U 90 k).toNat, by omega⟩
    rw [hl, Int.toNat_natCast] at k3
    have lr := la3 l (by omega)
    have lbe := (l1.2 l (by omega)).1
    have hT := e.warm r0
    obtain ⟨wm, -, v15, wk, -, -⟩ := hT
    have wk0 := wk 0 (by omega)
    have wk1 := wk 1 (by omega)
    have wk2 := wk 2 (by omega)
    obtain ⟨w0, w1, w2, -⟩ := wm
    have hbd := heat_bd (hot := V 15 0) (keep := V 15 1) (d := t - U 104 l) w0 w1 (by omega)
    have of : ∀ (W : VV) (f : Nat), f < 9 → f_Loads_of W h (l : Int) (f : Int) = W h.1 (9 * l + f) := fun W f hf => ld_of hh (by omega) hf
    have of5 : ∀ W : VV, f_Loads_of W h (l : Int) 5 = W h.1 (9 * l + 5) := fun W => by
      rw [show (5 : Int) = ((5 : Nat) : Int) from rfl]; exact of W 5 (by omega)
    have of1 : ∀ W : VV, f_Loads_of W h (l : Int) 1 = W h.1 (9 * l + 1) := fun W => by
      rw [show (1 : Int) = ((1 : Nat) : Int) from rfl]; exact of W 1 (by omega)
    have nt : ∀ (W : VV) (f : Nat) (x : Int), f < 9 → f_Loads_note W h (l : Int) (f : Int) x = up W h.1 (9 * l + f) x := fun W f x hf => ld_note hh (by omega) hf
    have nt6 : ∀ (W : VV) (x : Int), f_Loads_note W h (l : Int) 6 x = up W h.1 (9 * l + 6) x := fun W x => by
      rw [show (6 : Int) = ((6 : Nat) : Int) from rfl]; exact nt W 6 x (by omega)
    have nt7 : ∀ (W : VV) (x : Int), f_Loads_note W h (l : Int) 7 x = up W h.1 (9 * l + 7) x := fun W x => by
      rw [show (7 : Int) = ((7 : Nat) : Int) from rfl]; exact nt W 7 x (by omega)
    have nt8 : ∀ (W : VV) (x : Int), f_Loads_note W h (l : Int) 8 x = up W h.1 (9 * l + 8) x := fun W x => by
      rw [show (8 : Int) = ((8 : Nat) : Int) from rfl]; exact nt W 8 x (by omega)
    have eU : ∀ _ : Nat, f_Haulage_unload V (k : Int) = (up V 42 k 0, (l : Int)) := by
      intro _
      unfold f_Haulage_unload
      rw [lt_eq, setV_in (by omega) (by omega), atV_in (by omega) (by omega), Int.toNat_natCast, up_na _ _ _ (by omega), b1, hl]
    -- the heat
    have hx : ∀ _ : Nat, w32 (up V 42 k 0 15 0 - cutV (w32 (t - f_Loads_of (up V 42 k 0) h (l : Int) 5)) (up V 42 k 0 15 1)) = V 15 0 - (t - U 104 l).tdiv (V 15 1) := by
      intro _; rw [up_na V _ _ (show (15 : Nat) ≠ 42 by omega), of5, up_na _ _ _ (by omega), lr.1 5 (by omega)]
      unfold cutV
      rw [if_neg (by omega), w32_id (x := t - U (99 + 5) l) (by show -2147483648 ≤ t - U 104 l; omega) (by show t - U 104 l < 2147483648; omega)]
      show w32 (V 15 0 - w32 ((t - U 104 l).tdiv (V 15 1))) = _
      rw [w32_id (x := (t - U 104 l).tdiv (V 15 1)) (by omega) (by omega), w32_id (by omega) (by omega)]
    have hxM : ∀ _ : Nat, w32 ((U 62 24) - (w32 (Int.tdiv (w32 (t - (U 104 l))) (U 62 25)))) = V 15 0 - (t - U 104 l).tdiv (V 15 1) := by
      intro _
      have e24 : U 62 24 = V 15 0 := wk0
      have e25 : U 62 25 = V 15 1 := wk1
      rw [e24, e25, w32_id (x := t - U 104 l) (by omega) (by omega), w32_id (x := (t - U 104 l).tdiv (V 15 1)) (by omega) (by omega), w32_id (by omega) (by omega)]
    generalize hX : V 15 0 - (t - U 104 l).tdiv (V 15 1) = X at *
    have ltn : ∀ _ : Nat, f_Loads_of (up V 42 k 0) h (l : Int) 1 = U 100 l := by
      intro _; rw [of1, up_na _ _ _ (by omega)]
      exact lr.1 1 (by omega)
    have e26 : U 62 26 = V 15 2 := wk2
    have e25 : U 62 25 = V 15 1 := wk1
    have g2 : gLA (up (up (up V 42 k 0) h.1 (9 * l + 6) t) h.1 (9 * l + 7) X) h U0 (up (up (up U 86 k 0) 105 l t) 106 l X) := by
      have s1 : gLA (up V 42 k 0) h U0 (up U 86 k 0) := by
        unfold gLA
        rw [up_na _ _ _ (by omega), up_na _ _ _ (by omega), up_na _ _ _ (by omega), up_na _ _ _ (by omega), up_na _ _ _ (by omega), up_na _ _ _ (by omega)]
        refine ⟨la1, la2, fun l' hl' => ⟨fun f hf => ?_, (la3 l' hl').2⟩⟩
        rw [up_na _ _ _ (by omega)]
        exact (la3 l' hl').1 f hf
      exact (s1.note hh (l := l) (f := 6) (x := t) (by omega) (by omega)).note hh (l := l) (f := 7) (x := X) (by omega) (by omega)
    unfold f_Paving_takeLoad f_Mo_takes
    rw [jl.1, hhd, x1]
    refine Two.bindL (P := fun y => y = (k : Int)) (Sm.ok rfl) (fun y hy => ?_)
    rw [hy, if_neg gb, eU 0, lt_eq, lt_eq]
    dsimp only
    rw [hx 0, ltn 0, lt_eq, Int.toNat_natCast, hl, Int.toNat_natCast, hxM 0, e26, e25]
    rw [nt6, nt7]
    have eX : ∀ _ : Nat, up (up (up U 86 k 0) 105 l t) 106 l X 106 l = X := fun _ => up_eq _ _ _ _
    rw [eX 0]
    refine Two.posR (by omega) (Two.posR (by omega) (Two.posR (by omega) (Two.posR (by omega) (Two.negR (by omega) (Two.posR (by omega) (Two.posR (by omega) ?_))))))
    have e15 : ∀ _ : Nat, up (up (up V 42 k 0) h.1 (9 * l + 6) t) h.1 (9 * l + 7) X 15 2 = V 15 2 := by intro _; rw [up_na _ _ _ (by omega), up_na _ _ _ (by omega), up_na _ _ _ (by omega)]
    rw [e15 0]
    obtain ⟨z1, z2, z3⟩ := jo.2.2 hd (by omega)
    obtain ⟨-, -, tt1, tt2, -⟩ := e.ton r0 (j := hd) (by omega)
    have pd := pend_off (U0 := U0) (U := U) (U2 := up U 86 k 0) (k := k) (l := l) (j := hd) (n := U 100 l) k1 k2 hl rfl (fun x => by rw [up_ap, if_pos rfl]) (up_na _ _ _ (by omega)) (up_na _ _ _ (by omega)) (up_na _ _ _ (by omega))
    rw [if_pos k3] at pd
    have pn := sm_nn (f := pend (up U 86 k 0) hd) (n := (U0 62 22).toNat) (fun i hi => by
      unfold pend
      split
      · next y =>
        have y1 := y.1
        rw [up_ap, if_pos rfl] at y1
        rw [up_na _ _ _ (by omega), up_na _ _ _ (by omega)]
        by_cases ei : i = k
        · rw [if_pos ei] at y1; omega
        · rw [if_neg ei] at y1
          have := rB i (by omega) y1
          have := (la3 (U 90 i).toNat (by omega)).2.2.1
          omega
      · omega)
    have u95 : 0 ≤ U 95 hd := by
      rw [jl.2.2.1 hd (by omega), if_neg (by omega), if_pos (by omega)]; exact jl.2.2.2.1
    rw [if_pos (by omega), h75] at z2
    by_cases gr : X < V 15 2
    · rw [if_pos gr, if_pos gr]
      refine Two.posR (by omega) (Two.posR (by omega) (Two.posR (by omega) (Two.posR (by omega) (Two.posR (by omega) ?_))))
      have obd : U 62 79 ≤ 17280 ∧ 0 ≤ U 62 79 ∧ U 62 80 ≤ 30 * U 62 79 ∧ 0 ≤ U 62 80 := by
        have := sm_nn (f := busy U) (n := (U0 62 22).toNat) (fun k _ => by unfold busy; split <;> omega)
        have := lo.1
        have := lo.2.1
        have := lo.2.2.1
        have := rp.1.2.2.2.2.2.2.1
        omega
      obtain ⟨s1, s2, s3, s4, s5, s6, s7, s8, s9⟩ := rp.1
      rw [lt_eq, nt8]
      rw [lt_eq, again_eq (W := up (up (up (up V 42 k 0) h.1 (9 * l + 6) t) h.1 (9 * l + 7) X) h.1 (9 * l + 8) 1) (hd := hd) (n := U 100 l) (o := U 94 hd) (q := V 37 6) hh (by omega) (by
        rw [up_nf _ _ (by omega), up_nf _ _ (by omega), up_nf _ _ (by omega), up_na _ _ _ (by omega)]
        exact (lr.1 0 (by omega)).trans k3) (by
        rw [up_nf _ _ (by omega), up_nf _ _ (by omega), up_nf _ _ (by omega), up_na _ _ _ (by omega)]
        exact lr.1 1 (by omega)) (by
        rw [up_na _ _ _ (by omega), up_na _ _ _ (by omega), up_na _ _ _ (by omega), up_na _ _ _ (by omega)]
        exact z1) (by
        rw [up_na _ _ _ (by omega), up_na _ _ _ (by omega), up_na _ _ _ (by omega), up_na _ _ _ (by omega)]) (by omega) (by omega)]
      rw [lt_eq, sum4_eq (W := up (up (up (up (up (up V 42 k 0) h.1 (9 * l + 6) t) h.1 (9 * l + 7) X) h.1 (9 * l + 8) 1) 45 hd (U 94 hd - U 100 l)) 37 6 (min (V 37 6) (hd : Int))) (a := U 62 79) (by
        rw [up_na _ _ _ (by omega), up_na _ _ _ (by omega), up_na _ _ _ (by omega), up_na _ _ _ (by omega), up_na _ _ _ (by omega), up_na _ _ _ (by omega)]
        exact s5) (by omega)]
      rw [lt_eq, sum5_eq (W := up (up (up (up (up (up (up V 42 k 0) h.1 (9 * l + 6) t) h.1 (9 * l + 7) X) h.1 (9 * l + 8) 1) 45 hd (U 94 hd - U 100 l)) 37 6 (min (V 37 6) (hd : Int))) 47 4 (U 62 79 + 1)) (a := U 62 80) (by
        rw [up_nf _ _ (by omega), up_na _ _ _ (by omega), up_na _ _ _ (by omega), up_na _ _ _ (by omega), up_na _ _ _ (by omega), up_na _ _ _ (by omega), up_na _ _ _ (by omega)]
        exact s6) (by omega) (by omega)]
      rw [Int.toNat_natCast, w32_id (x := U 94 hd - U 100 l) (by omega) (by omega), w32_id (x := U 62 79 + 1) (by omega) (by omega), w32_id (x := U 62 80 + U 100 l) (by omega) (by omega)]
      refine Two.ok ?_
      dsimp only
      have kr := (kE_row hh).1
      have u86 : ∀ x, up (up (up (up (up (up (up U 86 k 0) 105 l t) 106 l X) 107 l 1) 94 hd (U 94 hd - U 100 l)) 62 79 (U 62 79 + 1)) 62 80 (U 62 80 + U 100 l) 86 x = if x = k then 0 else U 86 x := fun x => by simp only [up_ap, Nat.reduceEqDiff, reduceIte]
      refine ⟨rfl, ?_, wai_off k1 k2 u86, ?_⟩
      · refine r.takeR (k := k) (l := l) (hd := hd) (n := U 100 l) (x := X) ht k1 k2 hl hhd k3 rfl h75 ?_ ?_ ?_ ?_ ?_ ?_ ?_ ?_ ?_ ?_ u86 ?_ (fun x => by simp only [up_ap, Nat.reduceEqDiff, reduceIte])
        · exact ((((((((hc.up rfl).up (kr _)).up (kr _)).up (kr _)).up rfl).up rfl).up rfl).up rfl)
        · exact (((((((hm.up rfl).up rfl).up rfl).up rfl).up rfl).up rfl).up rfl)
        · intro i x1 x2 x3 x4 x5
          rw [up_na _ _ _ x4, up_na _ _ _ x4, up_na _ _ _ x1, up_na _ _ _ x3, up_na _ _ _ x5, up_na _ _ _ x5, up_na _ _ _ x5, up_na _ _ _ x2]
        · intro x
          rw [up_na _ _ _ (by omega), up_na _ _ _ (by omega), up_ap, if_pos rfl, up_na _ _ _ (by omega), up_na _ _ _ (by omega), up_na _ _ _ (by omega), up_na _ _ _ (by omega), up_na _ _ _ (by omega)]
        · intro x
          rw [up_na _ _ _ (by omega), up_na _ _ _ (by omega), up_na _ _ _ (by omega), up_na _ _ _ (by omega), up_na _ _ _ (by omega), up_na _ _ _ (by omega), up_na _ _ _ (by omega), up_ap, if_pos rfl]
        · intro x
          rw [up_na _ _ _ (by omega), up_na _ _ _ (by omega), up_na _ _ _ (by omega), up_ap, if_pos rfl, up_na _ _ _ (by omega), up_na _ _ _ (by omega), up_na _ _ _ (by omega), up_na _ _ _ (by omega)]
        · intro x
          rw [up_ap, if_pos rfl, up_ap, if_pos rfl, up_na _ _ _ (by omega), up_na _ _ _ (by omega), up_na _ _ _ (by omega), up_na _ _ _ (by omega), up_na _ _ _ (by omega), up_na _ _ _ (by omega), s5, s6]
        · have g3 := g2.note hh (l := l) (f := 8) (x := 1) (by omega) (by omega)
          unfold gLA at g3 ⊢
          rw [up_na _ _ _ (show (28 : Nat) ≠ 47 by omega), up_na _ _ _ (show (28 : Nat) ≠ 47 by omega), up_na _ _ _ (show (28 : Nat) ≠ 37 by omega), up_na _ _ _ (show (28 : Nat) ≠ 45 by omega), up_na _ _ _ (show h.1 ≠ 47 by omega), up_na _ _ _ (show h.1 ≠ 47 by omega), up_na _ _ _ (show h.1 ≠ 37 by omega), up_na _ _ _ (show h.1 ≠ 45 by omega), up_nf _ _ (show (72 : Nat) ≠ 80 by omega), up_nf _ _ (show (72 : Nat) ≠ 79 by omega), up_na _ _ _ (show (62 : Nat) ≠ 94 by omega)]
          refine ⟨g3.1, g3.2.1, fun l' hl' => ?_⟩
          obtain ⟨y1, y2⟩ := g3.2.2 l' hl'
          rw [up_na _ _ _ (show (99 : Nat) ≠ 62 by omega), up_na _ _ _ (show (99 : Nat) ≠ 62 by omega), up_na _ _ _ (show (99 : Nat) ≠ 94 by omega), up_na _ _ _ (show (100 : Nat) ≠ 62 by omega), up_na _ _ _ (show (100 : Nat) ≠ 62 by omega), up_na _ _ _ (show (100 : Nat) ≠ 94 by omega), up_na _ _ _ (show (104 : Nat) ≠ 62 by omega), up_na _ _ _ (show (104 : Nat) ≠ 62 by omega), up_na _ _ _ (show (104 : Nat) ≠ 94 by omega)]
          refine ⟨fun f hf => ?_, y2⟩
          rw [up_na _ _ _ (show 99 + f ≠ 62 by omega), up_na _ _ _ (show 99 + f ≠ 62 by omega), up_na _ _ _ (show 99 + f ≠ 94 by omega)]
          exact y1 f hf
        · intro i x1 x2 x3 x4 x5 x6
          rw [up_na _ _ _ x1, up_na _ _ _ x1, up_na _ _ _ x3, up_na _ _ _ x6, up_na _ _ _ x5, up_na _ _ _ x4, up_na _ _ _ x2]
        · intro x; simp only [up_ap, Nat.reduceEqDiff, reduceIte]
        · intro x; simp only [up_ap, Nat.reduceEqDiff, reduceIte]
      · refine ⟨fun x a b c => ?_, ?_, ?_, ?_⟩
        · rw [up_nf _ _ c, up_nf _ _ b, up_na _ _ _ (by omega), up_na _ _ _ (by omega), up_na _ _ _ (by omega), up_na _ _ _ (by omega), up_na _ _ _ (by omega)]
        · iterate 7 rw [up_na _ _ _ (by omega)]
        · iterate 7 rw [up_na _ _ _ (by omega)]
        · iterate 7 rw [up_na _ _ _ (by omega)]
    · rw [if_neg gr, if_neg gr, lt_eq]
      refine Two.posR (by omega) (Two.posR (by omega) (Two.posR (by omega) ?_))
      have e95 : U 95 hd = V 46 13 := by rw [jl.2.2.1 hd (by omega), if_neg (by omega), if_pos (by omega)]
      have ob : 0 ≤ V 28 2 ∧ V 28 2 < (ordN h : Int) := by
        have bz := sm_nn (f := busy (up U 86 k 0)) (n := (U0 62 22).toNat) (fun k _ => by unfold busy; split <;> omega)
        have bo := busy_off (U0 := U0) (U := U) (U2 := up U 86 k 0) k1 k2 (fun x => by rw [up_ap, if_pos rfl])
        have := lo.1
        have := lo.2.1
        have := lo.2.2.1
        omega
      have e46 : ∀ i, up (up (up V 42 k 0) h.1 (9 * l + 6) t) h.1 (9 * l + 7) X 46 i = V 46 i := fun i => by rw [up_na _ _ _ (by omega), up_na _ _ _ (by omega), up_na _ _ _ (by omega)]
      simp only [e46]
      rw [laid_eq (W := up (up (up (up (up V 42 k 0) h.1 (9 * l + 6) t) h.1 (9 * l + 7) X) 46 14 (if V 46 13 = 0 then X else min (V 46 14) X)) 46 15 (U 100 l)) (c := V 28 2) hh (by
        rw [up_na _ _ _ (by omega), up_na _ _ _ (by omega), up_na _ _ _ (by omega), up_na _ _ _ (by omega), up_na _ _ _ (by omega)]) ob]
      -- the coldest
      have hcold : V 46 13 ≠ 0 → V 46 14 = U 98 hd := by
        intro z
        have := (rp.2.1.2.2 (Or.inl z)).1
        rw [hhd, Int.toNat_natCast] at this
        exact this
      have hcx : (if V 46 13 = 0 then X else min (V 46 14) X) = if V 46 13 = 0 then X else min (U 98 hd) X := by
        by_cases z : V 46 13 = 0
        · rw [if_pos z, if_pos z]
        · rw [if_neg z, if_neg z, hcold z]
      have kr := (kE_row hh).1
      have kro := (kE_row hh).2
      have fin : ∀ U2 : VV, MFr U0 U2 → (∀ i, i ≠ 62 → i ≠ 86 → i ≠ 98 → i ≠ 105 → i ≠ 106 → i ≠ 108 → U2 i = U i) → (∀ x, U2 62 x = if x = 75 then U 100 l else U 62 x) → (∀ x, U2 86 x = if x = k then 0 else U 86 x) → (∀ x, U2 98 x = if x = hd then (if V 46 13 = 0 then X else min (U 98 hd) X) else U 98 x) → (∀ x, U2 108 x = if x = l then U 62 73 else U 108 x) → (∀ x, U2 105 x = if x = l then t else U 105 x) → (∀ x, U2 106 x = if x = l then X else U 106 x) → Two (some (up (up (up (up (up (up (up V 42 k 0) h.1 (9 * l + 6) t) h.1 (9 * l + 7) X) 46 14 (if V 46 13 = 0 then X else min (V 46 14) X)) 46 15 (U 100 l)) h.2.1 (V 28 2).toNat (l : Int)) 28 2 (V 28 2 + 1), (1 : Int))) (some U2) (fun q U2 => q.2 = 1 ∧ FR V0 U0 h t (t + 1) tl (fun _ => t + 1) (fun _ => t + 1) q.1 U2 ∧ sm (wai U2) (U0 62 22).toNat = sm (wai U) (U0 62 22).toNat - 1 ∧ Same U U2) := by
        intro U2 mf u0 u62 u86 u98 u108 u105 u106
        refine Two.ok ⟨rfl, ?_, wai_off k1 k2 u86, ?_⟩
        · dsimp only
          refine r.takeA (k := k) (l := l) (hd := hd) (n := U 100 l) (x := X) (cx := if V 46 13 = 0 then X else min (U 98 hd) X) ht k1 k2 hl hhd (by omega) k3 rfl h75 (by omega) rfl ?_ mf ?_ ?_ ?_ ?_ ?_ ?_ u0 u62 u86 u98 u108
          · exact (((((((hc.up rfl).up (kr _)).up (kr _)).up rfl).up rfl).up (kro _)).up rfl)
          · intro i x1 x2 x3 x4 x5
            rw [up_na _ _ _ x1, up_na _ _ _ x5, up_na _ _ _ x3, up_na _ _ _ x3, up_na _ _ _ x4, up_na _ _ _ x4, up_na _ _ _ x2]
          · intro x
            rw [up_ap, if_pos rfl, up_na _ _ _ (by omega), up_na _ _ _ (by omega), up_na _ _ _ (by omega), up_na _ _ _ (by omega), up_na _ _ _ (by omega), up_na _ _ _ (by omega)]
          · intro x
            rw [up_na _ _ _ (by omega), up_na _ _ _ (by omega), up_na _ _ _ (by omega), up_na _ _ _ (by omega), up_na _ _ _ (by omega), up_na _ _ _ (by omega), up_ap, if_pos rfl]
          · intro x
            rw [up_na _ _ _ (by omega), up_na _ _ _ (by omega), up_ap, if_pos rfl, up_ap, if_pos rfl, up_na _ _ _ (by omega), up_na _ _ _ (by omega), up_na _ _ _ (by omega), hcx]
          · intro x
            rw [up_na _ _ _ (by omega), up_ap, if_pos rfl, up_na _ _ _ (by omega), up_na _ _ _ (by omega), up_na _ _ _ (fun z => i3 z.symm), up_na _ _ _ (fun z => i3 z.symm), up_na _ _ _ (by omega)]
          · unfold gLA at g2 ⊢
            rw [up_nf _ _ (show (3 : Nat) ≠ 2 by omega), up_na _ _ _ (show (28 : Nat) ≠ h.2.1 by omega), up_na _ _ _ (show (28 : Nat) ≠ 46 by omega), up_na _ _ _ (show (28 : Nat) ≠ 46 by omega), up_na _ _ _ (show h.1 ≠ 28 by omega), up_na _ _ _ i3, up_na _ _ _ (show h.1 ≠ 46 by omega), up_na _ _ _ (show h.1 ≠ 46 by omega), u62, if_neg (by omega), u0 99 (by omega) (by omega) (by omega) (by omega) (by omega) (by omega), u0 100 (by omega) (by omega) (by omega) (by omega) (by omega) (by omega), u0 104 (by omega) (by omega) (by omega) (by omega) (by omega) (by omega)]
            have n62 : ∀ _ : Nat, up (up (up U 86 k 0) 105 l t) 106 l X 62 = U 62 := by intro _; rw [up_na _ _ _ (by omega), up_na _ _ _ (by omega), up_na _ _ _ (by omega)]
            rw [n62 0] at g2
            refine ⟨g2.1, g2.2.1, fun l' hl' => ⟨fun f hf => ?_, (la3 l' hl').2⟩⟩
            rw [(g2.2.2 l' hl').1 f hf]
            have : f = 0 ∨ f = 1 ∨ f = 2 ∨ f = 3 ∨ f = 4 ∨ f = 5 ∨ f = 8 ∨ f = 6 ∨ f = 7 := by omega
            rcases this with rfl | rfl | rfl | rfl | rfl | rfl | rfl | rfl | rfl
            iterate 7 (· rw [u0 _ (by omega) (by omega) (by omega) (by omega) (by omega) (by omega), up_na _ _ _ (by omega), up_na _ _ _ (by omega), up_na _ _ _ (by omega)])
            · show up (up (up U 86 k 0) 105 l t) 106 l X 105 l' = U2 105 l'
              rw [u105, up_na _ _ _ (by omega), up_ap, if_pos rfl, up_na _ _ _ (by omega)]
            · show up (up (up U 86 k 0) 105 l t) 106 l X 106 l' = U2 106 l'
              rw [u106, up_ap, if_pos rfl, up_na _ _ _ (by omega), up_na _ _ _ (by omega)]
        · refine ⟨fun x a b c => by rw [u62, if_neg a], u0 97 (by omega) (by omega) (by omega) (by omega) (by omega) (by omega), u0 109 (by omega) (by omega) (by omega) (by omega) (by omega) (by omega), u0 95 (by omega) (by omega) (by omega) (by omega) (by omega) (by omega)⟩
      rw [Int.toNat_natCast, e95]
      have m5 : MFr U0 (up (up (up (up (up U 86 k 0) 105 l t) 106 l X) 62 75 (U 100 l)) 108 l (U 62 73)) := (((((hm.up rfl).up rfl).up rfl).up rfl).up rfl)
      have t21 : (V 46 13 = 0 ∨ X < U 98 hd) → Two (some (up (up (up (up (up (up (up V 42 k 0) h.1 (9 * l + 6) t) h.1 (9 * l + 7) X) 46 14 (if V 46 13 = 0 then X else min (V 46 14) X)) 46 15 (U 100 l)) h.2.1 (V 28 2).toNat (l : Int)) 28 2 (V 28 2 + 1), (1 : Int))) (f_Mo_takes_21 (up (up (up (up (up U 86 k 0) 105 l t) 106 l X) 62 75 (U 100 l)) 108 l (U 62 73)) (l : Int)) (fun q U2 => q.2 = 1 ∧ FR V0 U0 h t (t + 1) tl (fun _ => t + 1) (fun _ => t + 1) q.1 U2 ∧ sm (wai U2) (U0 62 22).toNat = sm (wai U) (U0 62 22).toNat - 1 ∧ Same U U2) := by
        intro hz
        unfold f_Mo_takes_21
        have e74 : ∀ _ : Nat, up (up (up (up (up U 86 k 0) 105 l t) 106 l X) 62 75 (U 100 l)) 108 l (U 62 73) 62 74 = (hd : Int) := by intro _; rw [up_na _ _ _ (by omega), up_nf _ _ (by omega), up_na _ _ _ (by omega), up_na _ _ _ (by omega), up_na _ _ _ (by omega), hhd]
        have e106 : ∀ _ : Nat, up (up (up (up (up U 86 k 0) 105 l t) 106 l X) 62 75 (U 100 l)) 108 l (U 62 73) 106 l = X := by intro _; rw [up_na _ _ _ (by omega), up_na _ _ _ (by omega), up_eq]
        rw [e74 0, Int.toNat_natCast, Int.toNat_natCast, e106 0]
        refine Two.posR (by omega) (Two.posR (by omega) (fin _ (m5.up rfl) ?_ ?_ ?_ ?_ ?_ ?_ ?_))
        · intro i x1 x2 x3 x4 x5 x6
          rw [up_na _ _ _ x3, up_na _ _ _ x6, up_na _ _ _ x1, up_na _ _ _ x5, up_na _ _ _ x4, up_na _ _ _ x2]
        · intro x; simp only [up_ap, Nat.reduceEqDiff, reduceIte]
        · intro x; simp only [up_ap, Nat.reduceEqDiff, reduceIte]
        · intro x
          have : (if V 46 13 = 0 then X else min (U 98 hd) X) = X := by split <;> omega
          rw [this]; simp only [up_ap, Nat.reduceEqDiff, reduceIte]
        · intro x; simp only [up_ap, Nat.reduceEqDiff, reduceIte]
        · intro x; simp only [up_ap, Nat.reduceEqDiff, reduceIte]
        · intro x; simp only [up_ap, Nat.reduceEqDiff, reduceIte]
      refine Two.iteR (fun z => t21 (Or.inl z)) (fun z => Two.posR (by omega) (Two.posR (by omega) (Two.iteR (fun y => t21 (Or.inr y)) (fun y => fin _ m5 ?_ ?_ ?_ ?_ ?_ ?_ ?_))))
      · intro i x1 x2 x3 x4 x5 x6
        rw [up_na _ _ _ x6, up_na _ _ _ x1, up_na _ _ _ x5, up_na _ _ _ x4, up_na _ _ _ x2]
      · intro x; simp only [up_ap, Nat.reduceEqDiff, reduceIte]
      · intro x; simp only [up_ap, Nat.reduceEqDiff, reduceIte]
      · intro x
        have : (if V 46 13 = 0 then X else min (U 98 hd) X) = U 98 hd := by rw [if_neg z]; omega
        rw [this]; simp only [up_ap, Nat.reduceEqDiff, reduceIte]
        split
        · next q => rw [q]
        · rfl
      · intro x; simp only [up_ap, Nat.reduceEqDiff, reduceIte]
      · intro x; simp only [up_ap, Nat.reduceEqDiff, reduceIte]
      · intro x; simp only [up_ap, Nat.reduceEqDiff, reduceIte]
