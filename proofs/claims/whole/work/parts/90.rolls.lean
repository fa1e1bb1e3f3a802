/-! rolling: minute by minute -/
theorem RF.fr {V U V2 : VV} (f : RF V U) (h : ∀ i, (i = 1 ∨ i = 2 ∨ i = 3 ∨ i = 6 ∨ i = 7 ∨ i = 8 ∨ i = 15 ∨ i = 32 ∨ i = 33 ∨ (50 ≤ i ∧ i ≤ 54)) → V2 i = V i) (h49 : V2 49 11 = V 49 11) : RF V2 U := by
  obtain ⟨rs, wm, f1, f2, f3, f4, f5, f6⟩ := f
  have nj : nJ V2 = nJ V := by unfold nJ; rw [h 1 (by omega)]
  refine ⟨?_, ?_, ?_, ?_, ?_, ?_, ?_, ?_⟩
  · unfold RS; rw [h 1 (by omega), h 2 (by omega), h 3 (by omega), h 6 (by omega), h 7 (by omega)]; exact rs
  · unfold WmOK; rw [h 15 (by omega)]; exact wm
  · rw [nj, h 1 (by omega), h 2 (by omega)]; exact f1
  · rw [h49]; exact f2
  · rw [h 50 (by omega), h 51 (by omega)]; exact f3
  · rw [h 52 (by omega), h 53 (by omega), h 54 (by omega)]; exact f4
  · rw [nj, h 32 (by omega), h 8 (by omega), h 33 (by omega)]
    unfold mnJ
    rw [h 15 (by omega)]
    exact f5
  · rw [nj, h 32 (by omega)]; exact f6
/-- one pass that is begun, on both sides -/
theorem RU.fin {V U X W : VV} {t : Int} {r s : Nat} {b : Int} (f : RF V U) (u : RU V U X t) (ht : 0 ≤ t ∧ t ≤ 5000) (hs : s < 3) (hr : (r : Int) < U 62 33) (k : KC V W) (q : Fst (mayP V t s) (mu V t) (nJ V).toNat b) : RF (finC W V r t s b) U ∧ RU (finC W V r t s b) U (finM X V r t s b) t ∧ (∀ j : Nat, (j : Int) < nJ V → CoolK (finC W V r t s b) j) ∧ (∀ i, ¬ (34 ≤ i ∧ i ≤ 36) → ¬ (55 ≤ i ∧ i ≤ 57) → finC W V r t s b i = V i) := by
  have k0 := k.1
  have fW : RF W U := f.fr (fun i hi => k0 i (by omega) (by omega) (by omega)) (by rw [k0 49 (by omega) (by omega) (by omega)])
  by_cases hb : b = -1
  · unfold finC finM
    rw [if_pos hb, if_pos hb]
    refine ⟨fW, ?_, k.2, fun i h1 h2 => k0 i (by omega) (by omega) (by omega)⟩
    unfold RU
    rw [kc_nJ k, k0 56 (by omega) (by omega) (by omega), k0 57 (by omega) (by omega) (by omega), k0 55 (by omega) (by omega) (by omega)]
    exact u
  · obtain ⟨m, rfl, hm, hP⟩ : ∃ m : Nat, b = (m : Int) ∧ (m : Int) < nJ V ∧ mayP V t s m := by
      rcases id q with ⟨x, -⟩ | ⟨m, x, y, z, -⟩
      · exact absurd x hb
      · exact ⟨m, x, by omega, z⟩
    obtain ⟨rs, wm, f1, f2, f3, f4, f5, f6⟩ := id f
    obtain ⟨sp1, sp2, sp3, sp4, sp5⟩ := rs.split (j := (m : Int)) (by omega) hm
    have ln := rs.2.2.2.2.2.2.2.1 ((m : Int) % V 1 8).toNat (by omega)
    obtain ⟨-, v51, v51b⟩ := f3 r hr
    obtain ⟨-, tk2, tk3⟩ := tk_bd (l := V 2 ((m : Int) % V 1 8).toNat) (v := V 51 r) ln.1 (by omega)
    have e1 : finC W V r t s (m : Int) = up (up (up W 56 (3 * m + s) (V 56 (3 * m + s) + 1)) 57 m (t + (V 2 ((m : Int) % V 1 8).toNat + V 51 r - 1) / V 51 r)) 55 r (t + (V 2 ((m : Int) % V 1 8).toNat + V 51 r - 1) / V 51 r) := by
      unfold finC
      rw [if_neg hb, Int.toNat_natCast, k0 56 (by omega) (by omega) (by omega)]
    have e2 : finM X V r t s (m : Int) = up (up (up (up (up X 112 (3 * m + s) (X 112 (3 * m + s) + 1)) 114 m (t + (V 2 ((m : Int) % V 1 8).toNat + V 51 r - 1) / V 51 r)) 115 m (s : Int)) 116 m (t + (V 2 ((m : Int) % V 1 8).toNat + V 51 r - 1) / V 51 r)) 117 r (t + (V 2 ((m : Int) % V 1 8).toNat + V 51 r - 1) / V 51 r) := by
      unfold finM
      rw [if_neg hb, Int.toNat_natCast]
    rw [e1, e2]
    generalize (V 2 ((m : Int) % V 1 8).toNat + V 51 r - 1) / V 51 r = T at *
    obtain ⟨u0, u1, u2, u3⟩ := u
    have c0 : ∀ i, i ≠ 56 → i ≠ 57 → i ≠ 55 → up (up (up W 56 (3 * m + s) (V 56 (3 * m + s) + 1)) 57 m (t + T)) 55 r (t + T) i = W i := fun i x y z => by rw [up_na _ _ _ z, up_na _ _ _ y, up_na _ _ _ x]
    have c56 : ∀ i, up (up (up W 56 (3 * m + s) (V 56 (3 * m + s) + 1)) 57 m (t + T)) 55 r (t + T) 56 i = if i = 3 * m + s then V 56 (3 * m + s) + 1 else V 56 i := fun i => by rw [up_na _ _ _ (by omega), up_na _ _ _ (by omega), up_ap, if_pos rfl, k0 56 (by omega) (by omega) (by omega)]
    have c57 : ∀ i, up (up (up W 56 (3 * m + s) (V 56 (3 * m + s) + 1)) 57 m (t + T)) 55 r (t + T) 57 i = if i = m then t + T else V 57 i := fun i => by rw [up_na _ _ _ (by omega), up_ap, if_pos rfl, up_na _ _ _ (by omega), k0 57 (by omega) (by omega) (by omega)]
    have c55 : ∀ i, up (up (up W 56 (3 * m + s) (V 56 (3 * m + s) + 1)) 57 m (t + T)) 55 r (t + T) 55 i = if i = r then t + T else V 55 i := fun i => by rw [up_ap, if_pos rfl, up_na _ _ _ (by omega), up_na _ _ _ (by omega), k0 55 (by omega) (by omega) (by omega)]
    have d0 : ∀ i, ¬ (112 ≤ i ∧ i ≤ 117) → up (up (up (up (up X 112 (3 * m + s) (X 112 (3 * m + s) + 1)) 114 m (t + T)) 115 m (s : Int)) 116 m (t + T)) 117 r (t + T) i = U i := fun i hi => by rw [up_na _ _ _ (by omega), up_na _ _ _ (by omega), up_na _ _ _ (by omega), up_na _ _ _ (by omega), up_na _ _ _ (by omega)]; exact u0 i hi
    have d112 : ∀ i, up (up (up (up (up X 112 (3 * m + s) (X 112 (3 * m + s) + 1)) 114 m (t + T)) 115 m (s : Int)) 116 m (t + T)) 117 r (t + T) 112 i = if i = 3 * m + s then X 112 (3 * m + s) + 1 else X 112 i := fun i => by simp only [up_ap, Nat.reduceEqDiff, reduceIte]
    have d113 : ∀ i, up (up (up (up (up X 112 (3 * m + s) (X 112 (3 * m + s) + 1)) 114 m (t + T)) 115 m (s : Int)) 116 m (t + T)) 117 r (t + T) 113 i = X 113 i := fun i => by simp only [up_ap, Nat.reduceEqDiff, reduceIte]
    have d114 : ∀ i, up (up (up (up (up X 112 (3 * m + s) (X 112 (3 * m + s) + 1)) 114 m (t + T)) 115 m (s : Int)) 116 m (t + T)) 117 r (t + T) 114 i = if i = m then t + T else X 114 i := fun i => by simp only [up_ap, Nat.reduceEqDiff, reduceIte]
    have d115 : ∀ i, up (up (up (up (up X 112 (3 * m + s) (X 112 (3 * m + s) + 1)) 114 m (t + T)) 115 m (s : Int)) 116 m (t + T)) 117 r (t + T) 115 i = if i = m then (s : Int) else X 115 i := fun i => by simp only [up_ap, Nat.reduceEqDiff, reduceIte]
    have d116 : ∀ i, up (up (up (up (up X 112 (3 * m + s) (X 112 (3 * m + s) + 1)) 114 m (t + T)) 115 m (s : Int)) 116 m (t + T)) 117 r (t + T) 116 i = if i = m then t + T else X 116 i := fun i => by simp only [up_ap, Nat.reduceEqDiff, reduceIte]
    have d117 : ∀ i, up (up (up (up (up X 112 (3 * m + s) (X 112 (3 * m + s) + 1)) 114 m (t + T)) 115 m (s : Int)) 116 m (t + T)) 117 r (t + T) 117 i = if i = r then t + T else X 117 i := fun i => by simp only [up_ap, Nat.reduceEqDiff, reduceIte]
    generalize up (up (up W 56 (3 * m + s) (V 56 (3 * m + s) + 1)) 57 m (t + T)) 55 r (t + T) = C at *
    generalize up (up (up (up (up X 112 (3 * m + s) (X 112 (3 * m + s) + 1)) 114 m (t + T)) 115 m (s : Int)) 116 m (t + T)) 117 r (t + T) = D at *
    have nC : nJ C = nJ V := by unfold nJ; rw [c0 1 (by omega) (by omega) (by omega), k0 1 (by omega) (by omega) (by omega)]
    have g := f4 s hs
    have hm2 := u2 m hm
    have p3 := hP.2.2.1
    have p2 := hP.2.1
    refine ⟨fW.fr (fun i hi => c0 i (by omega) (by omega) (by omega)) (by rw [c0 49 (by omega) (by omega) (by omega)]), ⟨d0, fun j hj l hl => ?_, fun j hj => ?_, fun r' hr' => ?_⟩, fun j hj => ?_, fun i h1 h2 => by rw [c0 i (by omega) (by omega) (by omega)]; exact k0 i (by omega) (by omega) (by omega)⟩
    · rw [nC] at hj
      have b := u1 j hj l hl
      rw [c56, d112, d113, d114, d115]
      by_cases e : j = m
      · subst e
        rw [if_pos rfl, if_pos rfl]
        by_cases el : l = s
        · subst el
          rw [if_pos rfl, if_pos rfl, if_pos ⟨by omega, rfl⟩]
          rw [if_neg (fun y => by omega)] at b
          omega
        · rw [if_neg (by omega), if_neg (by omega), if_neg (fun y => el (by omega))]
          rw [if_neg (fun y => by omega)] at b
          omega
      · rw [if_neg (by omega), if_neg (by omega), if_neg e, if_neg e]
        exact b
    · rw [nC] at hj
      have b := u2 j hj
      rw [c57, d116, d114, d115]
      by_cases e : j = m
      · subst e
        rw [if_pos rfl, if_pos rfl, if_pos rfl, if_pos rfl]
        exact ⟨rfl, by omega, Or.inr ⟨rfl, by omega, by omega, by omega⟩⟩
      · rw [if_neg e, if_neg e, if_neg e, if_neg e]
        exact b
    · rw [c55, d117]
      by_cases e : r' = r
      · rw [if_pos e, if_pos e]; omega
      · rw [if_neg e, if_neg e]; exact u3 r' hr'
    · have := k.2 j hj
      unfold CoolK shJ mnJ at this ⊢
      rw [c0 34 (by omega) (by omega) (by omega), c0 35 (by omega) (by omega) (by omega), c0 36 (by omega) (by omega) (by omega), c0 8 (by omega) (by omega) (by omega), c0 33 (by omega) (by omega) (by omega), c0 15 (by omega) (by omega) (by omega)]
      exact this
/-- what holds in the rolling -/
def RV (V U X : VV) (t : Int) : Prop := RF V U ∧ RU V U X t ∧ ∀ j : Nat, (j : Int) < nJ V → CoolK V j
def KR (V0 V : VV) : Prop := ∀ i, ¬ (34 ≤ i ∧ i ≤ 36) → ¬ (55 ≤ i ∧ i ≤ 57) → V i = V0 i
theorem KR.rf {V : VV} : KR V V := fun _ _ _ => rfl
theorem KR.tr {V V2 V3 : VV} (h : KR V V2) (h2 : KR V2 V3) : KR V V3 := fun i a b => (h2 i a b).trans (h i a b)
theorem pass2 {V U X : VV} {t : Int} {r : Nat} (v : RV V U X t) (ht : 0 ≤ t ∧ t ≤ 5000) (hr : (r : Int) < U 62 33) : Two (f_Rolling_beginPass V (r : Int) t) (f_Mo_rollOne X (r : Int) t) (fun V2 X2 => RV V2 U X2 t ∧ KR V V2) := by
  obtain ⟨f, u, ck⟩ := v
  obtain ⟨rs, wm, f1, f2, f3, f4, f5, f6⟩ := id f
  obtain ⟨⟨s1, s2, s3⟩, -⟩ := f3 r hr
  obtain ⟨s, hs⟩ : ∃ s : Nat, U 75 r = (s : Int) := ⟨(U 75 r).toNat, by omega⟩
  unfold f_Rolling_beginPass f_Mo_rollOne
  rw [atV_in (by omega) (by omega), Int.toNat_natCast, u.1 75 (by omega), s1, hs]
  refine Two.posR (by omega) (Two.ofL ?_)
  have c := bpC f (r := r) (s := s) (t := t) ht (by omega) hr (fun j hj => (u.2.1 j hj s (by omega)).2.1.1) 36 FU V (-1) 0 0 (by omega) (by decide) (by omega) (KC.rf ck) Fst.nil (fun z => absurd rfl z)
  have m := roM f (r := r) (s := s) (t := t) u ht (by omega) hr 36 FU (-1) 0 (by omega) (by decide) (by omega) Fst.nil
  refine c.imp (fun A hA => m.imp (fun B hB => ?_))
  obtain ⟨b, W, q, k, rfl⟩ := hA
  obtain ⟨b2, q2, rfl⟩ := hB
  have eb : b2 = b := q2.eq2 q (fun _ _ => Iff.rfl) (fun _ _ => rfl)
  subst eb
  obtain ⟨g1, g2, g3, g4⟩ := u.fin f ht (by omega : s < 3) hr k q
  have nj : nJ (finC W V r t s b2) = nJ V := by unfold nJ; rw [g4 1 (by omega) (by omega)]
  exact ⟨⟨g1, g2, fun j hj => g3 j (by rw [← nj]; exact hj)⟩, g4⟩
theorem rol11 {U : VV} {t : Int} {k9 : VV → Int → Int → Option VV} {k15 : VV → Int → Option VV} {last : Int} {Q : VV → VV → Prop} (ht : 0 ≤ t ∧ t ≤ 5000) : ∀ (k n m : Nat) (V0 V X : VV) (r : Nat), U 62 33 - (r : Int) ≤ (k : Int) → k < n → k < m → (r : Int) ≤ U 62 33 → RV V U X t → KR V0 V → (∀ V2 X2, RV V2 U X2 t → KR V0 V2 → Two (k9 V2 last (t + 1)) (k15 X2 (t + 1)) Q) → Two (f_Rolling_roll_11 k9 n V last t (r : Int)) (f_Mo_roll_18 k15 m X t (r : Int)) Q := by
  intro k
  induction k with
  | zero =>
    intro n m V0 V X r e1 e2 e3 e4 v kr K
    cases n with
    | zero => omega
    | succ n =>
      cases m with
      | zero => omega
      | succ m =>
        obtain ⟨rs, wm, f1, f2, f3, f4, f5, f6⟩ := id v.1
        have x62 := v.2.1.1 62 (by omega)
        show Two (if (r : Int) < V 49 11 then _ else k9 V last (w32 (t + 1))) (if (r : Int) < X 62 33 then _ else k15 X (w32 (t + 1))) Q
        rw [w32_id (by omega) (by omega)]
        exact Two.negL (by omega) (Two.negR (by rw [x62]; omega) (K V X v kr))
  | succ k ih =>
    intro n m V0 V X r e1 e2 e3 e4 v kr K
    cases n with
    | zero => omega
    | succ n =>
      cases m with
      | zero => omega
      | succ m =>
        obtain ⟨rs, wm, f1, f2, f3, f4, f5, f6⟩ := id v.1
        have x62 := v.2.1.1 62 (by omega)
        show Two (if (r : Int) < V 49 11 then if t < (atV V 55 6 (r : Int)) then f_Rolling_roll_11 k9 n V last t (w32 ((r : Int) + 1)) else Option.bind (f_Rolling_beginPass V (r : Int) t) (fun q4 => f_Rolling_roll_11 k9 n q4 last t (w32 ((r : Int) + 1))) else k9 V last (w32 (t + 1))) (if (r : Int) < X 62 33 then if 0 ≤ (r : Int) ∧ (r : Int) < (6 : Int) then if t < (X 117 ((r : Int)).toNat) then f_Mo_roll_18 k15 m X t (w32 ((r : Int) + 1)) else Option.bind (f_Mo_rollOne X (r : Int) t) (fun q4 => f_Mo_roll_18 k15 m q4 t (w32 ((r : Int) + 1))) else none else k15 X (w32 (t + 1))) Q
        rw [x62, f2.1]
        by_cases g : (r : Int) < U 62 33
        · rw [if_pos g, if_pos g]
          refine Two.posR (by omega) ?_
          rw [w32_id (x := (r : Int) + 1) (by omega) (by omega), show (r : Int) + 1 = ((r + 1 : Nat) : Int) by omega, atV_in (by omega) (by omega), Int.toNat_natCast, (v.2.1.2.2.2 r g).1]
          by_cases g2 : t < X 117 r
          · rw [if_pos g2, if_pos g2]
            exact ih n m V0 V X (r + 1) (by omega) (by omega) (by omega) (by omega) v kr K
          · rw [if_neg g2, if_neg g2]
            refine Two.bind2 (pass2 v ht g) (fun V2 X2 h2 => ?_)
            exact ih n m V0 V2 X2 (r + 1) (by omega) (by omega) (by omega) (by omega) h2.1 (kr.tr h2.2) K
        · rw [if_neg g, if_neg g, w32_id (by omega) (by omega)]
          exact K V X v kr
/-- passes that end are over -/
theorem settl {V U : VV} {t : Int} (f : RF V U) (ht : -1 ≤ t ∧ t ≤ 4999) {X0 : VV} (u0 : RU V U X0 t) : ∀ (k n : Nat) (X : VV) (j : Nat), nJ V - (j : Int) ≤ (k : Int) → k < n → (j : Int) ≤ nJ V → (∀ i, i ≠ 113 → i ≠ 114 → X i = X0 i) → (∀ i : Nat, (i : Int) < nJ V → X 114 i = if i < j ∧ X0 114 i = t + 1 then -1 else X0 114 i) → (∀ i : Nat, (i : Int) < nJ V → ∀ s : Nat, s < 3 → X 113 (3 * i + s) = X0 112 (3 * i + s) - (if 0 ≤ X 114 i ∧ X0 115 i = (s : Int) then 1 else 0)) → Sm (f_Mo_settle_1 n X (t + 1) (j : Int)) (fun X => RU V U X (t + 1)) := by
  obtain ⟨rs, wm, f1, f2, f3, f4, f5, f6⟩ := id f
  obtain ⟨a0, a1, a2, a3⟩ := u0
  have fin : ∀ (X : VV) (j : Nat), (j : Int) ≤ nJ V → ¬ (j : Int) < nJ V → (∀ i, i ≠ 113 → i ≠ 114 → X i = X0 i) → (∀ i : Nat, (i : Int) < nJ V → X 114 i = if i < j ∧ X0 114 i = t + 1 then -1 else X0 114 i) → (∀ i : Nat, (i : Int) < nJ V → ∀ s : Nat, s < 3 → X 113 (3 * i + s) = X0 112 (3 * i + s) - (if 0 ≤ X 114 i ∧ X0 115 i = (s : Int) then 1 else 0)) → Sm (some X) (fun X => RU V U X (t + 1)) := by
    intro X j h1 h2 x0 x14 x13
    have x112 := x0 112 (by omega) (by omega)
    have x115 := x0 115 (by omega) (by omega)
    have x116 := x0 116 (by omega) (by omega)
    have x117 := x0 117 (by omega) (by omega)
    refine Sm.ok ⟨fun i hi => (x0 i (by omega) (by omega)).trans (a0 i hi), fun i hi s hs => ?_, fun i hi => ?_, fun r hr => ?_⟩
    · rw [x112, x115]
      exact ⟨(a1 i hi s hs).1, (a1 i hi s hs).2.1, x13 i hi s hs⟩
    · rw [x116, x115]
      obtain ⟨b1, b2, b3⟩ := a2 i hi
      refine ⟨b1, b2, ?_⟩
      rw [x14 i hi]
      by_cases e : X0 114 i = t + 1
      · rw [if_pos ⟨by omega, e⟩]; omega
      · rw [if_neg (fun y => e y.2)]; omega
    · rw [x117]; exact a3 r hr
  intro k
  induction k with
  | zero =>
    intro n X j e1 e2 e3 x0 x14 x13
    cases n with
    | zero => omega
    | succ n =>
      show Sm (if (j : Int) < X 62 13 then _ else some X) _
      exact Sm.neg (by rw [x0 62 (by omega) (by omega), a0 62 (by omega)]; omega) (fin X j e3 (by omega) x0 x14 x13)
  | succ k ih =>
    intro n X j e1 e2 e3 x0 x14 x13
    cases n with
    | zero => omega
    | succ n =>
      have x62 : X 62 13 = nJ V := by rw [x0 62 (by omega) (by omega), a0 62 (by omega)]; exact f1.2.2.1
      show Sm (if (j : Int) < X 62 13 then if 0 ≤ (j : Int) ∧ (j : Int) < (36 : Int) then if (X 114 ((j : Int)).toNat) = t + 1 then if 0 ≤ (j : Int) ∧ (j : Int) < (36 : Int) then if 0 ≤ (w32 ((w32 (3 * (j : Int))) + (X 115 ((j : Int)).toNat))) ∧ (w32 ((w32 (3 * (j : Int))) + (X 115 ((j : Int)).toNat))) < (108 : Int) then if 0 ≤ (w32 ((w32 (3 * (j : Int))) + (X 115 ((j : Int)).toNat))) ∧ (w32 ((w32 (3 * (j : Int))) + (X 115 ((j : Int)).toNat))) < (108 : Int) then if 0 ≤ (j : Int) ∧ (j : Int) < (36 : Int) then f_Mo_settle_1 n (up (up X 113 ((w32 ((w32 (3 * (j : Int))) + (X 115 ((j : Int)).toNat))).toNat) (w32 ((X 113 ((w32 ((w32 (3 * (j : Int))) + (X 115 ((j : Int)).toNat))).toNat)) + 1))) 114 ((j : Int)).toNat (-1)) (t + 1) (w32 ((j : Int) + 1)) else none else none else none else none else f_Mo_settle_1 n X (t + 1) (w32 ((j : Int) + 1)) else none else some X) _
      rw [x62]
      refine Sm.ite (fun g => Sm.pos (by omega) ?_) (fun g => fin X j e3 g x0 x14 x13)
      rw [w32_id (x := (j : Int) + 1) (by omega) (by omega), show (j : Int) + 1 = ((j + 1 : Nat) : Int) by omega, Int.toNat_natCast]
      have xj := x14 j g
      rw [if_neg (fun y => absurd y.1 (by omega))] at xj
      have x115 := x0 115 (by omega) (by omega)
      refine Sm.ite (fun z => ?_) (fun z => ih n X (j + 1) (by omega) (by omega) (by omega) x0 (fun i hi => ?_) x13)
      · obtain ⟨b1, b2, b3⟩ := a2 j g
        have b5 : 0 ≤ X0 115 j ∧ X0 115 j < 3 := by omega
        obtain ⟨s, hs⟩ : ∃ s : Nat, X0 115 j = (s : Int) := ⟨(X0 115 j).toNat, by omega⟩
        have c13 := x13 j g s (by omega)
        rw [if_pos ⟨by omega, hs⟩] at c13
        have d1 := a1 j g s (by omega)
        rw [x115, hs, w32_id (x := 3 * (j : Int)) (by omega) (by omega), w32_id (x := 3 * (j : Int) + (s : Int)) (by omega) (by omega), show (3 * (j : Int) + (s : Int)).toNat = 3 * j + s by omega, w32_id (x := X 113 (3 * j + s) + 1) (by omega) (by omega)]
        refine Sm.pos (by omega) (Sm.pos (by omega) (Sm.pos (by omega) (Sm.pos (by omega) (ih n _ (j + 1) (by omega) (by omega) (by omega) (fun i h1 h2 => by rw [up_na _ _ _ h2, up_na _ _ _ h1]; exact x0 i h1 h2) (fun i hi => ?_) (fun i hi l hl => ?_)))))
        · rw [up_ap, if_pos rfl, up_na _ _ _ (show (114 : Nat) ≠ 113 by omega)]
          by_cases e : i = j
          · subst e
            rw [if_pos rfl, if_pos ⟨by omega, by omega⟩]
          · rw [if_neg e, x14 i hi]
            by_cases y : i < j ∧ X0 114 i = t + 1
            · rw [if_pos y, if_pos ⟨by omega, y.2⟩]
            · rw [if_neg y, if_neg (fun w => y ⟨by omega, w.2⟩)]
        · rw [up_na _ _ _ (show (113 : Nat) ≠ 114 by omega), up_ap, if_pos rfl, up_ap, if_pos rfl, up_na _ _ _ (show (114 : Nat) ≠ 113 by omega)]
          by_cases e : i = j
          · subst e
            rw [if_pos rfl, if_neg (show ¬ ((0 : Int) ≤ -1 ∧ X0 115 i = (l : Int)) from fun y => absurd y.1 (by omega))]
            by_cases el : l = s
            · subst el
              rw [if_pos rfl]; omega
            · rw [if_neg (by omega)]
              have := x13 i hi l hl
              rw [if_neg (fun y => el (by omega))] at this
              exact this
          · rw [if_neg (by omega), if_neg e]
            exact x13 i hi l hl
      · rw [x14 i hi]
        by_cases e : i = j
        · subst e
          rw [if_neg (fun y => absurd y.1 (by omega)), if_neg (fun y => by omega)]
        · by_cases y : i < j ∧ X0 114 i = t + 1
          · rw [if_pos y, if_pos ⟨by omega, y.2⟩]
          · rw [if_neg y, if_neg (fun w => y ⟨by omega, w.2⟩)]
