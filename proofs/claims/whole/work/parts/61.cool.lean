/-! both sides cool as the shells tell -/
def cJ (dep : Int) : Int := min 400 (400000 / (dep * dep))
theorem cJ_bd {dep : Int} (h0 : 20 ≤ dep) (h1 : dep ≤ 260) : (0 ≤ cJ dep ∧ cJ dep ≤ 400) ∧ (400 ≤ dep * dep ∧ dep * dep ≤ 67600) ∧ min 400 (cutV 400000 (w32 (dep * dep))) = cJ dep ∧ (if 400 < (w32 (Int.tdiv 400000 (w32 (dep * dep)))) then 400 else w32 (Int.tdiv 400000 (w32 (dep * dep))) : Int) = cJ dep := by
  have m1 := mul_bd (a := dep) (b := dep) (A := 260) (B := 260) (by omega) h1 (by omega) h1
  have m2 : 20 * 20 ≤ dep * dep := Int.mul_le_mul h0 h0 (by omega) (by omega)
  have d0 : 0 ≤ 400000 / (dep * dep) := Int.ediv_nonneg (by omega) (by omega)
  have d1 : 400000 / (dep * dep) ≤ 400000 := Int.ediv_le_self _ (by omega)
  have e : w32 (Int.tdiv 400000 (w32 (dep * dep))) = 400000 / (dep * dep) := by
    rw [w32_id (x := dep * dep) (by omega) (by omega), Int.tdiv_eq_ediv_of_nonneg (by omega), w32_id (by omega) (by omega)]
  unfold cJ
  refine ⟨by omega, by omega, ?_, ?_⟩
  · unfold cutV
    rw [if_neg (by rw [w32_id (by omega) (by omega)]; omega), e]
  · rw [e]; split <;> omega
def WmOK (V : VV) : Prop := (100 ≤ V 15 0 ∧ V 15 0 ≤ 200) ∧ (1 ≤ V 15 1 ∧ V 15 1 ≤ 20) ∧ (0 ≤ V 15 2 ∧ V 15 2 ≤ 200) ∧ (0 ≤ V 15 3 ∧ V 15 3 ≤ 200) ∧ (0 ≤ V 15 4 ∧ V 15 4 ≤ 200) ∧ (-20 ≤ V 15 5 ∧ V 15 5 ≤ 50) ∧ (-20 ≤ V 15 6 ∧ V 15 6 ≤ 60) ∧ (1 ≤ V 15 7 ∧ V 15 7 ≤ 200) ∧ (1 ≤ V 15 8 ∧ V 15 8 ≤ 200)
def shJ (V : VV) (dep ht : Int) : Nat → Nat → Int := sh (cJ dep) (V 15 5) (V 15 7) (V 15 6) (V 15 8) ht
def mnJ (V : VV) (dep ht : Int) : Nat → Int := mn (cJ dep) (V 15 5) (V 15 7) (V 15 6) (V 15 8) ht
theorem WmOK.cp {V : VV} (w : WmOK V) {dep ht : Int} (h0 : 20 ≤ dep) (h1 : dep ≤ 260) (t0 : 0 ≤ ht) (t1 : ht ≤ 200) : CP (cJ dep) (V 15 5) (V 15 7) (V 15 6) (V 15 8) ht := by
  obtain ⟨-, -, -, -, -, w5, w6, w7, w8⟩ := w
  exact ⟨(cJ_bd h0 h1).1, w5, w7, w6, w8, t0, t1⟩
/-- what the class knows of a job that cools -/
def CoolK (V : VV) (j : Nat) : Prop := (0 ≤ V 34 j ∧ V 34 j ≤ 600) ∧ (∀ s : Nat, s < 5 → V 35 (5 * j + s) = shJ V (V 8 j) (V 33 j) (V 34 j).toNat s) ∧ ∀ i : Nat, (i : Int) ≤ V 34 j → V 36 (601 * j + i) = mnJ V (V 8 j) (V 33 j) i
/-- nothing but what is known of job j -/
def CO (j : Nat) (V0 V : VV) : Prop := (∀ i, i ≠ 34 → i ≠ 35 → i ≠ 36 → V i = V0 i) ∧ (∀ k, k ≠ j → V 34 k = V0 34 k) ∧ (∀ m, m < 5 * j ∨ 5 * j + 5 ≤ m → V 35 m = V0 35 m) ∧ ∀ m, m < 601 * j ∨ 601 * j + 601 ≤ m → V 36 m = V0 36 m
theorem CO.rf {j : Nat} {V : VV} : CO j V V := ⟨fun _ _ _ _ => rfl, fun _ _ => rfl, fun _ _ => rfl, fun _ _ => rfl⟩
theorem CO.tr {j : Nat} {V0 V V2 : VV} (h : CO j V0 V) (h2 : CO j V V2) : CO j V0 V2 :=
  ⟨fun i a b c => (h2.1 i a b c).trans (h.1 i a b c), fun k a => (h2.2.1 k a).trans (h.2.1 k a), fun m a => (h2.2.2.1 m a).trans (h.2.2.1 m a), fun m a => (h2.2.2.2 m a).trans (h.2.2.2 m a)⟩
theorem CoolK.co {j k : Nat} {V0 V : VV} (h : CO j V0 V) (hk : k ≠ j) (c : CoolK V0 k) : CoolK V k := by
  obtain ⟨h1, h2, h3, h4⟩ := h
  obtain ⟨c1, c2, c3⟩ := c
  unfold CoolK shJ mnJ
  rw [h2 k hk, h1 8 (by omega) (by omega) (by omega), h1 33 (by omega) (by omega) (by omega), h1 15 (by omega) (by omega) (by omega)]
  refine ⟨c1, fun s hs => ?_, fun i hi => ?_⟩
  · rw [h3 _ (by omega)]; exact c2 s hs
  · rw [h4 _ (by omega)]; exact c3 i hi
theorem cool17 {k6 : VV → Int → Int → Int → Int → Int → Int → Option (VV × Int)} {V : VV} {c f s o cm k b g : Int} {Q : VV × Int → Prop} (h0 : 0 ≤ f + k) (h1 : f + k < 180) (ho : -2000 ≤ o ∧ o ≤ 2000) (hc : -2000 ≤ cm ∧ cm ≤ 2000) (hg : -2000 ≤ g ∧ g ≤ 2000) (hs : -20000 ≤ s ∧ s ≤ 20000) (hk : 0 ≤ k ∧ k < 5) (K : Sm (k6 (up V 35 (f + k).toNat (o + cm - g)) c f (s + (o + cm - g)) b g (k + 1)) Q) : Sm (f_Cooling_cool_17 k6 V c f s o cm k b g) Q := by
  unfold f_Cooling_cool_17
  rw [w32_id (x := f + k) (by omega) (by omega), w32_id (x := o + cm) (by omega) (by omega), w32_id (x := o + cm - g) (by omega) (by omega), w32_id (x := s + (o + cm - g)) (by omega) (by omega), w32_id (x := k + 1) (by omega) (by omega), setV_in h0 (by omega)]
  exact K
theorem coolS {V : VV} {n : Nat} {c f s o cm k : Int} {Q : VV × Int → Prop} (h0 : 0 ≤ f) (h1 : f + 5 ≤ 180) (hk : 0 ≤ k ∧ k < 4) (hcc : 0 ≤ c ∧ c ≤ 400) (ho : -20 ≤ o ∧ o ≤ 200) (hb : -20 ≤ V 35 (f + k + 1).toNat ∧ V 35 (f + k + 1).toNat ≤ 200) (hc : -300 ≤ cm ∧ cm ≤ 300) (hs : -10000 ≤ s ∧ s ≤ 10000) (K : Sm (f_Cooling_cool_6 n (up V 35 (f + k).toNat (o + cm - fl c o (V 35 (f + k + 1).toNat))) c f (s + (o + cm - fl c o (V 35 (f + k + 1).toNat))) (V 35 (f + k + 1).toNat) (fl c o (V 35 (f + k + 1).toNat)) (k + 1)) Q) : Sm (f_Cooling_cool_6 (n + 1) V c f s o cm k) Q := by
  show Sm (if k < 5 then if (if k = 4 then 1 else 0 : Int) = 0 then f_Cooling_cool_17 (f_Cooling_cool_6 n) V c f s o cm k (if (if k = 4 then 1 else 0 : Int) = 0 then atV V 35 180 (w32 ((w32 (f + k)) + 1)) else 0 : Int) (w32 (Int.tdiv (w32 ((w32 (o - (if (if k = 4 then 1 else 0 : Int) = 0 then atV V 35 180 (w32 ((w32 (f + k)) + 1)) else 0 : Int))) * c)) 1000)) else f_Cooling_cool_17 (f_Cooling_cool_6 n) V c f s o cm k (if (if k = 4 then 1 else 0 : Int) = 0 then atV V 35 180 (w32 ((w32 (f + k)) + 1)) else 0 : Int) (w32 (Int.tdiv (w32 ((w32 (o - (V 15 6))) * (V 15 8))) 1000)) else some (V, s)) Q
  have e4 : (if k = 4 then 1 else 0 : Int) = 0 := if_neg (by omega)
  rw [e4, if_pos rfl, if_pos rfl, w32_id (x := f + k) (by omega) (by omega), w32_id (x := f + k + 1) (by omega) (by omega), atV_in (by omega) (by omega)]
  obtain ⟨x1, x2, x3⟩ := fl_w (a := o) (b := V 35 (f + k + 1).toNat) hcc.1 hcc.2 (by omega) (by omega) (by omega)
  rw [x1]
  exact Sm.pos (by omega) (cool17 (by omega) (by omega) (by omega) (by omega) (by omega) (by omega) (by omega) K)
theorem coolL {V : VV} {n : Nat} {c f s o cm : Int} {Q : VV × Int → Prop} (h0 : 0 ≤ f) (h1 : f + 5 ≤ 180) (hgr : -20 ≤ V 15 6 ∧ V 15 6 ≤ 60) (hgg : 1 ≤ V 15 8 ∧ V 15 8 ≤ 200) (ho : -20 ≤ o ∧ o ≤ 200) (hc : -300 ≤ cm ∧ cm ≤ 300) (hs : -10000 ≤ s ∧ s ≤ 10000) (K : Q (up V 35 (f + 4).toNat (o + cm - fl (V 15 8) o (V 15 6)), s + (o + cm - fl (V 15 8) o (V 15 6)))) : Sm (f_Cooling_cool_6 (n + 2) V c f s o cm 4) Q := by
  show Sm (f_Cooling_cool_17 (f_Cooling_cool_6 (n + 1)) V c f s o cm 4 0 (w32 (Int.tdiv (w32 ((w32 (o - (V 15 6))) * (V 15 8))) 1000))) Q
  obtain ⟨x1, x2, x3⟩ := fl_w (a := o) (b := V 15 6) (c := V 15 8) (C := 200) (by omega) hgg.2 (by omega) (by omega) (by omega)
  rw [x1]
  refine cool17 (by omega) (by omega) (by omega) (by omega) (by omega) (by omega) (by omega) ?_
  exact Sm.ok K
theorem cool_c {V : VV} {j : Nat} (w : WmOK V) (hj : j < 36) (d0 : 20 ≤ V 8 j) (d1 : V 8 j ≤ 260) (t0 : 0 ≤ V 33 j) (t1 : V 33 j ≤ 200) (ck : CoolK V j) : Sm (f_Cooling_cool V (j : Int)) (fun q => (∀ i, i ≠ 35 → q.1 i = V i) ∧ (∀ m, m < 5 * j ∨ 5 * j + 5 ≤ m → q.1 35 m = V 35 m) ∧ (∀ s : Nat, s < 5 → q.1 35 (5 * j + s) = shJ V (V 8 j) (V 33 j) ((V 34 j).toNat + 1) s) ∧ q.2 = shJ V (V 8 j) (V 33 j) ((V 34 j).toNat + 1) 0 + shJ V (V 8 j) (V 33 j) ((V 34 j).toNat + 1) 1 + shJ V (V 8 j) (V 33 j) ((V 34 j).toNat + 1) 2 + shJ V (V 8 j) (V 33 j) ((V 34 j).toNat + 1) 3 + shJ V (V 8 j) (V 33 j) ((V 34 j).toNat + 1) 4) := by
  obtain ⟨c1, c2, c3⟩ := ck
  obtain ⟨b1, b2, b3, b4⟩ := cJ_bd d0 d1
  have cp := w.cp d0 d1 t0 t1
  obtain ⟨-, -, -, -, -, w5, w6, w7, w8⟩ := w
  have h0 := c2 0 (by omega)
  have h1 := c2 1 (by omega)
  have h2 := c2 2 (by omega)
  have h3 := c2 3 (by omega)
  have h4 := c2 4 (by omega)
  have e0 : V 35 (5 * (j : Int)).toNat = shJ V (V 8 j) (V 33 j) (V 34 j).toNat 0 := by rw [show (5 * (j : Int)).toNat = 5 * j + 0 by omega]; exact h0
  generalize hi : (V 34 j).toNat = i at *
  have q0 := sh_bd cp i 0 (by omega)
  have q1 := sh_bd cp i 1 (by omega)
  have q2 := sh_bd cp i 2 (by omega)
  have q3 := sh_bd cp i 3 (by omega)
  have q4 := sh_bd cp i 4 (by omega)
  have nx0 : shJ V (V 8 j) (V 33 j) (i + 1) 0 = shJ V (V 8 j) (V 33 j) i 0 - fl (V 15 7) (shJ V (V 8 j) (V 33 j) i 0) (V 15 5) - fl (cJ (V 8 j)) (shJ V (V 8 j) (V 33 j) i 0) (shJ V (V 8 j) (V 33 j) i 1) := rfl
  have nx1 : shJ V (V 8 j) (V 33 j) (i + 1) 1 = shJ V (V 8 j) (V 33 j) i 1 + fl (cJ (V 8 j)) (shJ V (V 8 j) (V 33 j) i 0) (shJ V (V 8 j) (V 33 j) i 1) - fl (cJ (V 8 j)) (shJ V (V 8 j) (V 33 j) i 1) (shJ V (V 8 j) (V 33 j) i 2) := rfl
  have nx2 : shJ V (V 8 j) (V 33 j) (i + 1) 2 = shJ V (V 8 j) (V 33 j) i 2 + fl (cJ (V 8 j)) (shJ V (V 8 j) (V 33 j) i 1) (shJ V (V 8 j) (V 33 j) i 2) - fl (cJ (V 8 j)) (shJ V (V 8 j) (V 33 j) i 2) (shJ V (V 8 j) (V 33 j) i 3) := rfl
  have nx3 : shJ V (V 8 j) (V 33 j) (i + 1) 3 = shJ V (V 8 j) (V 33 j) i 3 + fl (cJ (V 8 j)) (shJ V (V 8 j) (V 33 j) i 2) (shJ V (V 8 j) (V 33 j) i 3) - fl (cJ (V 8 j)) (shJ V (V 8 j) (V 33 j) i 3) (shJ V (V 8 j) (V 33 j) i 4) := rfl
  have nx4 : shJ V (V 8 j) (V 33 j) (i + 1) 4 = shJ V (V 8 j) (V 33 j) i 4 + fl (cJ (V 8 j)) (shJ V (V 8 j) (V 33 j) i 3) (shJ V (V 8 j) (V 33 j) i 4) - fl (V 15 8) (shJ V (V 8 j) (V 33 j) i 4) (V 15 6) := rfl
  have q0' : -20 ≤ shJ V (V 8 j) (V 33 j) i 0 ∧ shJ V (V 8 j) (V 33 j) i 0 ≤ 200 := q0
  have q1' : -20 ≤ shJ V (V 8 j) (V 33 j) i 1 ∧ shJ V (V 8 j) (V 33 j) i 1 ≤ 200 := q1
  have q2' : -20 ≤ shJ V (V 8 j) (V 33 j) i 2 ∧ shJ V (V 8 j) (V 33 j) i 2 ≤ 200 := q2
  have q3' : -20 ≤ shJ V (V 8 j) (V 33 j) i 3 ∧ shJ V (V 8 j) (V 33 j) i 3 ≤ 200 := q3
  have q4' : -20 ≤ shJ V (V 8 j) (V 33 j) i 4 ∧ shJ V (V 8 j) (V 33 j) i 4 ≤ 200 := q4
  clear q0 q1 q2 q3 q4
  generalize shJ V (V 8 j) (V 33 j) i 0 = x0 at *
  generalize shJ V (V 8 j) (V 33 j) i 1 = x1 at *
  generalize shJ V (V 8 j) (V 33 j) i 2 = x2 at *
  generalize shJ V (V 8 j) (V 33 j) i 3 = x3 at *
  generalize shJ V (V 8 j) (V 33 j) i 4 = x4 at *
  obtain ⟨y1, y2, y3⟩ := fl_w (a := x0) (b := V 15 5) (c := V 15 7) (C := 200) (by omega) w7.2 (by omega) (by omega) (by omega)
  unfold f_Cooling_cool
  rw [atV_in (V := V) (id := 8) (by omega) (by omega), show ((j : Int)).toNat = j by omega, b3, w32_id (x := (j : Int) * 5) (by omega) (by omega), show (j : Int) * 5 = 5 * (j : Int) by omega, atV_in (V := V) (id := 35) (by omega) (by omega), e0, y1, w32_id (x := -fl (V 15 7) x0 (V 15 5)) (by omega) (by omega)]
  have r1 : V 35 (5 * (j : Int) + 0 + 1).toNat = x1 := by rw [show (5 * (j : Int) + 0 + 1).toNat = 5 * j + 1 by omega]; exact h1
  have r2 : V 35 (5 * (j : Int) + 1 + 1).toNat = x2 := by rw [show (5 * (j : Int) + 1 + 1).toNat = 5 * j + 2 by omega]; exact h2
  have r3 : V 35 (5 * (j : Int) + 2 + 1).toNat = x3 := by rw [show (5 * (j : Int) + 2 + 1).toNat = 5 * j + 3 by omega]; exact h3
  have r4 : V 35 (5 * (j : Int) + 3 + 1).toNat = x4 := by rw [show (5 * (j : Int) + 3 + 1).toNat = 5 * j + 4 by omega]; exact h4
  obtain ⟨-, z1, z2⟩ := fl_w (a := x0) (b := x1) (c := cJ (V 8 j)) (C := 400) b1.1 b1.2 (by omega) (by omega) (by omega)
  obtain ⟨-, z3, z4⟩ := fl_w (a := x1) (b := x2) (c := cJ (V 8 j)) (C := 400) b1.1 b1.2 (by omega) (by omega) (by omega)
  obtain ⟨-, z5, z6⟩ := fl_w (a := x2) (b := x3) (c := cJ (V 8 j)) (C := 400) b1.1 b1.2 (by omega) (by omega) (by omega)
  obtain ⟨-, z7, z8⟩ := fl_w (a := x3) (b := x4) (c := cJ (V 8 j)) (C := 400) b1.1 b1.2 (by omega) (by omega) (by omega)
  have rd : ∀ (W : VV) (a b : Int) (x y : Int), a ≠ b → 0 ≤ a → 0 ≤ b → W 35 a.toNat = y → up W 35 b.toNat x 35 a.toNat = y := by
    intro W a b x y h1 h2 h3 h4
    rw [up_nf _ _ (by omega)]; exact h4
  show Sm (f_Cooling_cool_6 (39999 + 1) V _ _ _ _ _ _) _
  refine coolS (by omega) (by omega) (by omega) b1 q0' (by rw [r1]; exact q1') (by omega) (by omega) ?_
  rw [r1]
  show Sm (f_Cooling_cool_6 (39998 + 1) _ _ _ _ _ _ _) _
  have s2 := rd V (5 * (j : Int) + (0 + 1) + 1) (5 * (j : Int) + 0) (x0 + -fl (V 15 7) x0 (V 15 5) - fl (cJ (V 8 j)) x0 x1) x2 (by omega) (by omega) (by omega) r2
  refine coolS (by omega) (by omega) (by omega) b1 q1' (by rw [s2]; exact q2') (by omega) (by omega) ?_
  rw [s2]
  show Sm (f_Cooling_cool_6 (39997 + 1) _ _ _ _ _ _ _) _
  have s3 := rd (up V 35 (5 * (j : Int) + 0).toNat (x0 + -fl (V 15 7) x0 (V 15 5) - fl (cJ (V 8 j)) x0 x1)) (5 * (j : Int) + (0 + 1 + 1) + 1) (5 * (j : Int) + (0 + 1)) (x1 + fl (cJ (V 8 j)) x0 x1 - fl (cJ (V 8 j)) x1 x2) x3 (by omega) (by omega) (by omega) (rd V _ _ _ _ (by omega) (by omega) (by omega) r3)
  refine coolS (by omega) (by omega) (by omega) b1 q2' (by rw [s3]; exact q3') (by omega) (by omega) ?_
  rw [s3]
  show Sm (f_Cooling_cool_6 (39996 + 1) _ _ _ _ _ _ _) _
  have s4 := rd (up (up V 35 (5 * (j : Int) + 0).toNat (x0 + -fl (V 15 7) x0 (V 15 5) - fl (cJ (V 8 j)) x0 x1)) 35 (5 * (j : Int) + (0 + 1)).toNat (x1 + fl (cJ (V 8 j)) x0 x1 - fl (cJ (V 8 j)) x1 x2)) (5 * (j : Int) + (0 + 1 + 1 + 1) + 1) (5 * (j : Int) + (0 + 1 + 1)) (x2 + fl (cJ (V 8 j)) x1 x2 - fl (cJ (V 8 j)) x2 x3) x4 (by omega) (by omega) (by omega) (rd _ _ _ _ _ (by omega) (by omega) (by omega) (rd V _ _ _ _ (by omega) (by omega) (by omega) r4))
  refine coolS (by omega) (by omega) (by omega) b1 q3' (by rw [s4]; exact q4') (by omega) (by omega) ?_
  rw [s4]
  show Sm (f_Cooling_cool_6 (39994 + 2) _ _ _ _ _ _ 4) _
  refine coolL (by omega) (by omega) w6 w8 q4' (by omega) (by omega) ?_
  refine ⟨fun a ha => ?_, fun m hm => ?_, fun s hs => ?_, ?_⟩
  · dsimp only
    rw [up_na _ _ _ ha, up_na _ _ _ ha, up_na _ _ _ ha, up_na _ _ _ ha, up_na _ _ _ ha]
  · dsimp only
    rw [up_nf _ _ (by omega), up_nf _ _ (by omega), up_nf _ _ (by omega), up_nf _ _ (by omega), up_nf _ _ (by omega)]
  · have hc : s = 0 ∨ s = 1 ∨ s = 2 ∨ s = 3 ∨ s = 4 := by omega
    dsimp only
    rcases hc with rfl | rfl | rfl | rfl | rfl
    · rw [up_nf _ _ (by omega), up_nf _ _ (by omega), up_nf _ _ (by omega), up_nf _ _ (by omega), show 5 * j + 0 = (5 * (j : Int) + 0).toNat by omega, up_eq, nx0]
      omega
    · rw [up_nf _ _ (by omega), up_nf _ _ (by omega), up_nf _ _ (by omega), show 5 * j + 1 = (5 * (j : Int) + (0 + 1)).toNat by omega, up_eq, nx1]
    · rw [up_nf _ _ (by omega), up_nf _ _ (by omega), show 5 * j + 2 = (5 * (j : Int) + (0 + 1 + 1)).toNat by omega, up_eq, nx2]
    · rw [up_nf _ _ (by omega), show 5 * j + 3 = (5 * (j : Int) + (0 + 1 + 1 + 1)).toNat by omega, up_eq, nx3]
    · rw [show 5 * j + 4 = (5 * (j : Int) + 4).toNat by omega, up_eq, nx4]
      rfl
  · rw [nx0, nx1, nx2, nx3, nx4]
    show 0 + _ + _ + _ + _ + (x4 + fl (cJ (V 8 j)) x3 x4 - fl (V 15 8) x4 (V 15 6)) = _
    omega
