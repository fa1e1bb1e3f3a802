/-! the reference cools -/
theorem w16_id {x : Int} (h1 : -32768 ≤ x) (h2 : x < 32768) : w16 x = x := by unfold w16; omega
theorem c13s {k11 : VV → Int → Int → Int → Option VV} {n : Nat} {U : VV} {j c t s k : Int} {Q : VV → Prop} (hk : 0 ≤ k ∧ k < 5) (hs : -10000 ≤ s ∧ s ≤ 10000) (hx : -1000 ≤ U 110 k.toNat ∧ U 110 k.toNat ≤ 1000) (K : Sm (f_Mo_cool_13 k11 n (up U 111 k.toNat (U 110 k.toNat)) j c t (s + U 110 k.toNat) (k + 1)) Q) : Sm (f_Mo_cool_13 k11 (n + 1) U j c t s k) Q := by
  show Sm (if k < 5 then if 0 ≤ k ∧ k < (5 : Int) then if 0 ≤ k ∧ k < (5 : Int) then if 0 ≤ k ∧ k < (5 : Int) then f_Mo_cool_13 k11 n (up U 111 k.toNat (U 110 k.toNat)) j c t (w32 (s + (U 110 k.toNat))) (w32 (k + 1)) else none else none else none else _) Q
  rw [w32_id (x := s + U 110 k.toNat) (by omega) (by omega), w32_id (x := k + 1) (by omega) (by omega)]
  exact Sm.pos (by omega) (Sm.pos hk (Sm.pos hk (Sm.pos hk K)))
theorem c13e {k11 : VV → Int → Int → Int → Option VV} {n : Nat} {U : VV} {j c t s : Int} {Q : VV → Prop} (hj : 0 ≤ j ∧ j < 36) (ht : 0 ≤ t ∧ t ≤ 600) (hs : -100 ≤ s ∧ s ≤ 1000) (K : Sm (f_Mo_cool_21 k11 FU (up U 109 (601 * j + t).toNat (s.tdiv 5)) j c t 0) Q) : Sm (f_Mo_cool_13 k11 (n + 1) U j c t s 5) Q := by
  have e := td5 hs.1 hs.2
  show Sm (if 0 ≤ (w32 ((w32 (601 * j)) + t)) ∧ (w32 ((w32 (601 * j)) + t)) < (21636 : Int) then f_Mo_cool_21 k11 FU (up U 109 ((w32 ((w32 (601 * j)) + t)).toNat) (w16 (w16 (w32 (Int.tdiv s 5))))) j c t 0 else none) Q
  rw [e.2.2, w16_id (x := s.tdiv 5) (by omega) (by omega), w16_id (x := s.tdiv 5) (by omega) (by omega), w32_id (x := 601 * j) (by omega) (by omega), w32_id (x := 601 * j + t) (by omega) (by omega)]
  exact Sm.pos (by omega) K
theorem c21s {k11 : VV → Int → Int → Int → Option VV} {n : Nat} {U : VV} {j c t k a b p q : Int} {Q : VV → Prop} (hk : 0 ≤ k ∧ k < 4) (hc : 0 ≤ c ∧ c ≤ 400) (e1 : U 111 k.toNat = a) (e2 : U 111 (k + 1).toNat = b) (e3 : U 110 k.toNat = p) (e4 : U 110 (k + 1).toNat = q) (ab : -300 ≤ a - b ∧ a - b ≤ 300) (hp : -2000 ≤ p ∧ p ≤ 2000) (hq : -2000 ≤ q ∧ q ≤ 2000) (K : Sm (f_Mo_cool_21 k11 n (up (up U 110 k.toNat (p - fl c a b)) 110 (k + 1).toNat (q + fl c a b)) j c t (k + 1)) Q) : Sm (f_Mo_cool_21 k11 (n + 1) U j c t k) Q := by
  show Sm (if k < 4 then if 0 ≤ k ∧ k < (5 : Int) then if 0 ≤ (w32 (k + 1)) ∧ (w32 (k + 1)) < (5 : Int) then if 0 ≤ k ∧ k < (5 : Int) then if 0 ≤ k ∧ k < (5 : Int) then if 0 ≤ (w32 (k + 1)) ∧ (w32 (k + 1)) < (5 : Int) then if 0 ≤ (w32 (k + 1)) ∧ (w32 (k + 1)) < (5 : Int) then f_Mo_cool_21 k11 n (up (up U 110 k.toNat (w32 ((U 110 k.toNat) - (w32 (Int.tdiv (w32 ((w32 ((U 111 k.toNat) - (U 111 ((w32 (k + 1)).toNat)))) * c)) 1000))))) 110 ((w32 (k + 1)).toNat) (w32 (((up U 110 k.toNat (w32 ((U 110 k.toNat) - (w32 (Int.tdiv (w32 ((w32 ((U 111 k.toNat) - (U 111 ((w32 (k + 1)).toNat)))) * c)) 1000))))) 110 ((w32 (k + 1)).toNat)) + (w32 (Int.tdiv (w32 ((w32 ((U 111 k.toNat) - (U 111 ((w32 (k + 1)).toNat)))) * c)) 1000))))) j c t (w32 (k + 1)) else none else none else none else none else none else none else _) Q
  obtain ⟨x1, x2, x3⟩ := fl_w (a := a) (b := b) hc.1 hc.2 (by omega) ab.1 ab.2
  rw [w32_id (x := k + 1) (by omega) (by omega), e1, e2, e3, x1, up_nf _ _ (by omega), e4, w32_id (x := p - fl c a b) (by omega) (by omega), w32_id (x := q + fl c a b) (by omega) (by omega)]
  exact Sm.pos (by omega) (Sm.pos (by omega) (Sm.pos (by omega) (Sm.pos (by omega) (Sm.pos (by omega) (Sm.pos (by omega) (Sm.pos (by omega) K))))))
theorem c21e {k11 : VV → Int → Int → Int → Option VV} {n : Nat} {U : VV} {j c t a b p q : Int} {Q : VV → Prop} (ht : 0 ≤ t ∧ t ≤ 600) (e1 : U 111 0 = a) (e2 : U 111 4 = b) (e3 : U 110 0 = p) (e4 : U 110 4 = q) (ha : -20 ≤ a ∧ a ≤ 200) (hb : -20 ≤ b ∧ b ≤ 200) (hp : -2000 ≤ p ∧ p ≤ 2000) (hq : -2000 ≤ q ∧ q ≤ 2000) (w5 : -20 ≤ U 62 29 ∧ U 62 29 ≤ 50) (w6 : -20 ≤ U 62 30 ∧ U 62 30 ≤ 60) (w7 : 1 ≤ U 62 31 ∧ U 62 31 ≤ 200) (w8 : 1 ≤ U 62 32 ∧ U 62 32 ≤ 200) (K : Sm (k11 (up (up U 110 0 (p - fl (U 62 31) a (U 62 29))) 110 4 (q - fl (U 62 32) b (U 62 30))) j c (t + 1)) Q) : Sm (f_Mo_cool_21 k11 (n + 1) U j c t 4) Q := by
  show Sm (k11 (up (up U 110 0 (w32 ((U 110 0) - (w32 (Int.tdiv (w32 ((w32 ((U 111 0) - (U 62 29))) * (U 62 31))) 1000))))) 110 4 (w32 ((U 110 4) - (w32 (Int.tdiv (w32 ((w32 ((U 111 4) - (U 62 30))) * (U 62 32))) 1000))))) j c (w32 (t + 1))) Q
  obtain ⟨x1, x2, x3⟩ := fl_w (a := a) (b := U 62 29) (c := U 62 31) (C := 200) (by omega) w7.2 (by omega) (by omega) (by omega)
  obtain ⟨y1, y2, y3⟩ := fl_w (a := b) (b := U 62 30) (c := U 62 32) (C := 200) (by omega) w8.2 (by omega) (by omega) (by omega)
  rw [e1, e2, e3, e4, x1, y1, w32_id (x := t + 1) (by omega) (by omega), w32_id (x := p - fl (U 62 31) a (U 62 29)) (by omega) (by omega), w32_id (x := q - fl (U 62 32) b (U 62 30)) (by omega) (by omega)]
  exact K
def F109 (j : Nat) (U0 U : VV) : Prop := (∀ i, i ≠ 109 → i ≠ 110 → i ≠ 111 → U i = U0 i) ∧ ∀ m, m < 601 * j ∨ 601 * j + 601 ≤ m → U 109 m = U0 109 m
def WmU (U : VV) : Prop := (-20 ≤ U 62 29 ∧ U 62 29 ≤ 50) ∧ (-20 ≤ U 62 30 ∧ U 62 30 ≤ 60) ∧ (1 ≤ U 62 31 ∧ U 62 31 ≤ 200) ∧ (1 ≤ U 62 32 ∧ U 62 32 ≤ 200)
def shU (U : VV) (dep ht : Int) : Nat → Nat → Int := sh (cJ dep) (U 62 29) (U 62 31) (U 62 30) (U 62 32) ht
def mnU (U : VV) (dep ht : Int) : Nat → Int := mn (cJ dep) (U 62 29) (U 62 31) (U 62 30) (U 62 32) ht
theorem c11 {U0 : VV} {j : Nat} {dep ht : Int} (w : WmU U0) (hj : j < 36) (d0 : 20 ≤ dep) (d1 : dep ≤ 260) (t0 : 0 ≤ ht) (t1 : ht ≤ 200) : ∀ (k n : Nat) (U : VV) (t : Nat), 601 - t ≤ k → k < n → t ≤ 601 → F109 j U0 U → (∀ s : Nat, s < 5 → U 110 s = shU U0 dep ht t s) → (∀ i : Nat, i < t → U 109 (601 * j + i) = mnU U0 dep ht i) → Sm (f_Mo_cool_11 n U (j : Int) (cJ dep) (t : Int)) (fun U => F109 j U0 U ∧ ∀ i : Nat, i ≤ 600 → U 109 (601 * j + i) = mnU U0 dep ht i) := by
  intro k
  induction k with
  | zero =>
    intro n U t e1 e2 e3 f s m
    cases n with
    | zero => omega
    | succ n =>
      show Sm (if 600 < (t : Int) then some U else _) _
      exact Sm.pos (by omega) (Sm.ok ⟨f, fun i hi => m i (by omega)⟩)
  | succ k ih =>
    intro n U t e1 e2 e3 f s m
    cases n with
    | zero => omega
    | succ n =>
      show Sm (if 600 < (t : Int) then some U else f_Mo_cool_13 (f_Mo_cool_11 n) FU U (j : Int) (cJ dep) (t : Int) 0 0) _
      refine Sm.ite (fun g => Sm.ok ⟨f, fun i hi => m i (by omega)⟩) (fun g => ?_)
      obtain ⟨w5, w6, w7, w8⟩ := id w
      have cp : CP (cJ dep) (U0 62 29) (U0 62 31) (U0 62 30) (U0 62 32) ht := ⟨(cJ_bd d0 d1).1, w5, w7, w6, w8, t0, t1⟩
      have hc := (cJ_bd d0 d1).1
      have h0 := s 0 (by omega)
      have h1 := s 1 (by omega)
      have h2 := s 2 (by omega)
      have h3 := s 3 (by omega)
      have h4 := s 4 (by omega)
      have f62 : U 62 = U0 62 := f.1 62 (by omega) (by omega) (by omega)
      have nx0 : shU U0 dep ht (t + 1) 0 = shU U0 dep ht t 0 - fl (U0 62 31) (shU U0 dep ht t 0) (U0 62 29) - fl (cJ dep) (shU U0 dep ht t 0) (shU U0 dep ht t 1) := rfl
      have nx1 : shU U0 dep ht (t + 1) 1 = shU U0 dep ht t 1 + fl (cJ dep) (shU U0 dep ht t 0) (shU U0 dep ht t 1) - fl (cJ dep) (shU U0 dep ht t 1) (shU U0 dep ht t 2) := rfl
      have nx2 : shU U0 dep ht (t + 1) 2 = shU U0 dep ht t 2 + fl (cJ dep) (shU U0 dep ht t 1) (shU U0 dep ht t 2) - fl (cJ dep) (shU U0 dep ht t 2) (shU U0 dep ht t 3) := rfl
      have nx3 : shU U0 dep ht (t + 1) 3 = shU U0 dep ht t 3 + fl (cJ dep) (shU U0 dep ht t 2) (shU U0 dep ht t 3) - fl (cJ dep) (shU U0 dep ht t 3) (shU U0 dep ht t 4) := rfl
      have nx4 : shU U0 dep ht (t + 1) 4 = shU U0 dep ht t 4 + fl (cJ dep) (shU U0 dep ht t 3) (shU U0 dep ht t 4) - fl (U0 62 32) (shU U0 dep ht t 4) (U0 62 30) := rfl
      have hm : mnU U0 dep ht t = (shU U0 dep ht t 0 + shU U0 dep ht t 1 + shU U0 dep ht t 2 + shU U0 dep ht t 3 + shU U0 dep ht t 4).tdiv 5 := rfl
      have q0 : -20 ≤ shU U0 dep ht t 0 ∧ shU U0 dep ht t 0 ≤ 200 := sh_bd cp t 0 (by omega)
      have q1 : -20 ≤ shU U0 dep ht t 1 ∧ shU U0 dep ht t 1 ≤ 200 := sh_bd cp t 1 (by omega)
      have q2 : -20 ≤ shU U0 dep ht t 2 ∧ shU U0 dep ht t 2 ≤ 200 := sh_bd cp t 2 (by omega)
      have q3 : -20 ≤ shU U0 dep ht t 3 ∧ shU U0 dep ht t 3 ≤ 200 := sh_bd cp t 3 (by omega)
      have q4 : -20 ≤ shU U0 dep ht t 4 ∧ shU U0 dep ht t 4 ≤ 200 := sh_bd cp t 4 (by omega)
      generalize shU U0 dep ht t 0 = x0 at *
      generalize shU U0 dep ht t 1 = x1 at *
      generalize shU U0 dep ht t 2 = x2 at *
      generalize shU U0 dep ht t 3 = x3 at *
      generalize shU U0 dep ht t 4 = x4 at *
      have z0 := (fl_w (a := x0) (b := x1) (c := cJ dep) (C := 400) hc.1 hc.2 (by omega) (by omega) (by omega)).2
      have z1 := (fl_w (a := x1) (b := x2) (c := cJ dep) (C := 400) hc.1 hc.2 (by omega) (by omega) (by omega)).2
      have z2 := (fl_w (a := x2) (b := x3) (c := cJ dep) (C := 400) hc.1 hc.2 (by omega) (by omega) (by omega)).2
      have z3 := (fl_w (a := x3) (b := x4) (c := cJ dep) (C := 400) hc.1 hc.2 (by omega) (by omega) (by omega)).2
      -- what was there is kept, and summed up
      show Sm (f_Mo_cool_13 _ (39999 + 1) _ _ _ _ _ _) _
      refine c13s (k := 0) (by omega) (by omega) (by show -1000 ≤ U 110 0 ∧ U 110 0 ≤ 1000; omega) ?_
      show Sm (f_Mo_cool_13 _ (39998 + 1) (up U 111 0 (U 110 0)) _ _ _ (0 + U 110 0) 1) _
      refine c13s (k := 1) (by omega) (by omega) (by show -1000 ≤ U 110 1 ∧ U 110 1 ≤ 1000; omega) ?_
      show Sm (f_Mo_cool_13 _ (39997 + 1) (up (up U 111 0 (U 110 0)) 111 1 (U 110 1)) _ _ _ (0 + U 110 0 + U 110 1) 2) _
      refine c13s (k := 2) (by omega) (by omega) (by show -1000 ≤ U 110 2 ∧ U 110 2 ≤ 1000; omega) ?_
      show Sm (f_Mo_cool_13 _ (39996 + 1) (up (up (up U 111 0 (U 110 0)) 111 1 (U 110 1)) 111 2 (U 110 2)) _ _ _ (0 + U 110 0 + U 110 1 + U 110 2) 3) _
      refine c13s (k := 3) (by omega) (by omega) (by show -1000 ≤ U 110 3 ∧ U 110 3 ≤ 1000; omega) ?_
      show Sm (f_Mo_cool_13 _ (39995 + 1) (up (up (up (up U 111 0 (U 110 0)) 111 1 (U 110 1)) 111 2 (U 110 2)) 111 3 (U 110 3)) _ _ _ (0 + U 110 0 + U 110 1 + U 110 2 + U 110 3) 4) _
      refine c13s (k := 4) (by omega) (by omega) (by show -1000 ≤ U 110 4 ∧ U 110 4 ≤ 1000; omega) ?_
      show Sm (f_Mo_cool_13 _ (39994 + 1) (up (up (up (up (up U 111 0 (U 110 0)) 111 1 (U 110 1)) 111 2 (U 110 2)) 111 3 (U 110 3)) 111 4 (U 110 4)) _ _ _ (0 + U 110 0 + U 110 1 + U 110 2 + U 110 3 + U 110 4) 5) _
      rw [h0, h1, h2, h3, h4, Int.zero_add]
      refine c13e (by omega) (by omega) (by omega) ?_
      generalize hW : up (up (up (up (up (up U 111 0 x0) 111 1 x1) 111 2 x2) 111 3 x3) 111 4 x4) 109 (601 * (j : Int) + (t : Int)).toNat ((x0 + x1 + x2 + x3 + x4).tdiv 5) = W
      have W0 : W 111 0 = x0 := by rw [← hW]; rfl
      have W1 : W 111 1 = x1 := by rw [← hW]; rfl
      have W2 : W 111 2 = x2 := by rw [← hW]; rfl
      have W3 : W 111 3 = x3 := by rw [← hW]; rfl
      have W4 : W 111 4 = x4 := by rw [← hW]; rfl
      have W110 : W 110 = U 110 := by rw [← hW]; rfl
      have W62 : W 62 = U0 62 := by rw [← f62, ← hW]; rfl
      have W109 : ∀ a, W 109 a = if a = 601 * j + t then (x0 + x1 + x2 + x3 + x4).tdiv 5 else U 109 a := by
        intro a
        rw [← hW, show (601 * (j : Int) + (t : Int)).toNat = 601 * j + t by omega]; rfl
      have Wo : ∀ i, i ≠ 109 → i ≠ 110 → i ≠ 111 → W i = U0 i := by
        intro i a b c
        rw [← hW, up_na _ _ _ a, up_na _ _ _ c, up_na _ _ _ c, up_na _ _ _ c, up_na _ _ _ c, up_na _ _ _ c]; exact f.1 i a b c
      clear hW
      show Sm (f_Mo_cool_21 _ (39999 + 1) W _ _ _ 0) _
      refine c21s (k := 0) (a := x0) (b := x1) (p := x0) (q := x1) (by omega) hc W0 W1 (by show W 110 0 = x0; rw [W110]; exact h0) (by show W 110 1 = x1; rw [W110]; exact h1) (by omega) (by omega) (by omega) ?_
      show Sm (f_Mo_cool_21 _ (39998 + 1) (up (up W 110 0 (x0 - fl (cJ dep) x0 x1)) 110 1 (x1 + fl (cJ dep) x0 x1)) _ _ _ 1) _
      refine c21s (k := 1) (a := x1) (b := x2) (p := x1 + fl (cJ dep) x0 x1) (q := x2) (by omega) hc W1 W2 rfl (by show W 110 2 = x2; rw [W110]; exact h2) (by omega) (by omega) (by omega) ?_
      show Sm (f_Mo_cool_21 _ (39997 + 1) (up (up (up (up W 110 0 (x0 - fl (cJ dep) x0 x1)) 110 1 (x1 + fl (cJ dep) x0 x1)) 110 1 (x1 + fl (cJ dep) x0 x1 - fl (cJ dep) x1 x2)) 110 2 (x2 + fl (cJ dep) x1 x2)) _ _ _ 2) _
      refine c21s (k := 2) (a := x2) (b := x3) (p := x2 + fl (cJ dep) x1 x2) (q := x3) (by omega) hc W2 W3 rfl (by show W 110 3 = x3; rw [W110]; exact h3) (by omega) (by omega) (by omega) ?_
      show Sm (f_Mo_cool_21 _ (39996 + 1) (up (up (up (up (up (up W 110 0 (x0 - fl (cJ dep) x0 x1)) 110 1 (x1 + fl (cJ dep) x0 x1)) 110 1 (x1 + fl (cJ dep) x0 x1 - fl (cJ dep) x1 x2)) 110 2 (x2 + fl (cJ dep) x1 x2)) 110 2 (x2 + fl (cJ dep) x1 x2 - fl (cJ dep) x2 x3)) 110 3 (x3 + fl (cJ dep) x2 x3)) _ _ _ 3) _
      refine c21s (k := 3) (a := x3) (b := x4) (p := x3 + fl (cJ dep) x2 x3) (q := x4) (by omega) hc W3 W4 rfl (by show W 110 4 = x4; rw [W110]; exact h4) (by omega) (by omega) (by omega) ?_
      show Sm (f_Mo_cool_21 _ (39995 + 1) (up (up (up (up (up (up (up (up W 110 0 (x0 - fl (cJ dep) x0 x1)) 110 1 (x1 + fl (cJ dep) x0 x1)) 110 1 (x1 + fl (cJ dep) x0 x1 - fl (cJ dep) x1 x2)) 110 2 (x2 + fl (cJ dep) x1 x2)) 110 2 (x2 + fl (cJ dep) x1 x2 - fl (cJ dep) x2 x3)) 110 3 (x3 + fl (cJ dep) x2 x3)) 110 3 (x3 + fl (cJ dep) x2 x3 - fl (cJ dep) x3 x4)) 110 4 (x4 + fl (cJ dep) x3 x4)) _ _ _ 4) _
      have y5 : -20 ≤ W 62 29 ∧ W 62 29 ≤ 50 := by rw [W62]; exact w5
      have y6 : -20 ≤ W 62 30 ∧ W 62 30 ≤ 60 := by rw [W62]; exact w6
      have y7 : 1 ≤ W 62 31 ∧ W 62 31 ≤ 200 := by rw [W62]; exact w7
      have y8 : 1 ≤ W 62 32 ∧ W 62 32 ≤ 200 := by rw [W62]; exact w8
      refine c21e (a := x0) (b := x4) (p := x0 - fl (cJ dep) x0 x1) (q := x4 + fl (cJ dep) x3 x4) (by omega) W0 W4 rfl rfl q0 q4 (by omega) (by omega) y5 y6 y7 y8 ?_
      refine ih n _ (t + 1) (by omega) (by omega) (by omega) ⟨fun i a b c => ?_, fun m' hm' => ?_⟩ (fun s' hs' => ?_) (fun i hi => ?_)
      · rw [up_na _ _ _ b, up_na _ _ _ b, up_na _ _ _ b, up_na _ _ _ b, up_na _ _ _ b, up_na _ _ _ b, up_na _ _ _ b, up_na _ _ _ b, up_na _ _ _ b, up_na _ _ _ b]; exact Wo i a b c
      · show W 109 m' = _
        rw [W109, if_neg (by omega)]; exact f.2 m' hm'
      · have hcs : s' = 0 ∨ s' = 1 ∨ s' = 2 ∨ s' = 3 ∨ s' = 4 := by omega
        rcases hcs with rfl | rfl | rfl | rfl | rfl
        · show x0 - fl (cJ dep) x0 x1 - fl (W 62 31) x0 (W 62 29) = _
          rw [nx0, W62]; omega
        · show x1 + fl (cJ dep) x0 x1 - fl (cJ dep) x1 x2 = _
          rw [nx1]
        · show x2 + fl (cJ dep) x1 x2 - fl (cJ dep) x2 x3 = _
          rw [nx2]
        · show x3 + fl (cJ dep) x2 x3 - fl (cJ dep) x3 x4 = _
          rw [nx3]
        · show x4 + fl (cJ dep) x3 x4 - fl (W 62 32) x4 (W 62 30) = _
          rw [nx4, W62]
      · show W 109 _ = _
        rw [W109]
        by_cases e : i = t
        · rw [if_pos (by omega), e, hm]
        · rw [if_neg (by omega)]; exact m i (by omega)
theorem c6 {U0 : VV} {j : Nat} {dep ht : Int} (w : WmU U0) (hj : j < 36) (d0 : 20 ≤ dep) (d1 : dep ≤ 260) (t0 : 0 ≤ ht) (t1 : ht ≤ 200) (e98 : U0 98 j = ht) : ∀ (k n : Nat) (U : VV) (s : Int), 5 - s ≤ (k : Int) → k < n → 0 ≤ s → s ≤ 5 → F109 j U0 U → (∀ i : Nat, (i : Int) < s → U 110 i = ht) → Sm (f_Mo_cool_6 n U (j : Int) (cJ dep) s) (fun U => F109 j U0 U ∧ ∀ i : Nat, i ≤ 600 → U 109 (601 * j + i) = mnU U0 dep ht i) := by
  have fin : ∀ U : VV, F109 j U0 U → (∀ i : Nat, (i : Int) < 5 → U 110 i = ht) → Sm (f_Mo_cool_11 FU U (j : Int) (cJ dep) 0) (fun U => F109 j U0 U ∧ ∀ i : Nat, i ≤ 600 → U 109 (601 * j + i) = mnU U0 dep ht i) := by
    intro U f h
    exact c11 w hj d0 d1 t0 t1 601 FU U 0 (by omega) (by decide) (by omega) f (fun s hs => by rw [h s (by omega)]; rfl) (fun i hi => by omega)
  intro k
  induction k with
  | zero =>
    intro n U s a1 a2 a3 a4 f h
    cases n with
    | zero => omega
    | succ n =>
      show Sm (if s < 5 then _ else f_Mo_cool_11 FU U (j : Int) (cJ dep) 0) _
      exact Sm.neg (by omega) (fin U f (fun i hi => h i (by omega)))
  | succ k ih =>
    intro n U s a1 a2 a3 a4 f h
    cases n with
    | zero => omega
    | succ n =>
      show Sm (if s < 5 then if 0 ≤ (j : Int) ∧ (j : Int) < (36 : Int) then if 0 ≤ s ∧ s < (5 : Int) then f_Mo_cool_6 n (up U 110 s.toNat (U 98 ((j : Int)).toNat)) (j : Int) (cJ dep) (w32 (s + 1)) else none else none else f_Mo_cool_11 FU U (j : Int) (cJ dep) 0) _
      refine Sm.ite (fun g => Sm.pos (by omega) (Sm.pos (by omega) ?_)) (fun g => fin U f (fun i hi => h i (by omega)))
      rw [w32_id (x := s + 1) (by omega) (by omega), show ((j : Int)).toNat = j by omega, f.1 98 (by omega) (by omega) (by omega), e98]
      refine ih n _ (s + 1) (by omega) (by omega) (by omega) (by omega) ⟨fun i a b c => by rw [up_na _ _ _ b, f.1 i a b c], fun m hm => by rw [up_na _ _ _ (by omega), f.2 m hm]⟩ (fun i hi => ?_)
      by_cases e : (i : Int) = s
      · rw [show i = s.toNat by omega, up_eq]
      · rw [up_nf _ _ (by omega)]; exact h i (by omega)
theorem cool_m {U : VV} {j : Nat} (w : WmU U) (hj : j < 36) (d0 : 20 ≤ U 69 j) (d1 : U 69 j ≤ 260) (t0 : 0 ≤ U 98 j) (t1 : U 98 j ≤ 200) : Sm (f_Mo_cool U (j : Int)) (fun W => F109 j U W ∧ ∀ i : Nat, i ≤ 600 → W 109 (601 * j + i) = mnU U (U 69 j) (U 98 j) i) := by
  obtain ⟨b1, b2, b3, b4⟩ := cJ_bd d0 d1
  unfold f_Mo_cool
  rw [show ((j : Int)).toNat = j by omega, b4]
  refine Sm.pos (by omega) (Sm.pos (by omega) (Sm.neg (by rw [w32_id (by omega) (by omega)]; omega) ?_))
  exact c6 w hj d0 d1 t0 t1 rfl 5 FU U 0 (by omega) (by decide) (by omega) (by omega) ⟨fun _ _ _ _ => rfl, fun _ _ => rfl⟩ (fun i hi => by omega)
