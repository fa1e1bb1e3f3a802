/-! rolling: the whole -/
theorem roll9 {U : VV} : ∀ (k n m : Nat) (V0 V X : VV) (t : Int), U 62 77 + 601 - t ≤ (k : Int) → k < n → k < m → 0 ≤ t → t ≤ U 62 77 + 601 → U 62 77 ≤ 4320 → RF V U → RU V U X (t - 1) → (∀ j : Nat, (j : Int) < nJ V → CoolK V j) → KR V0 V → Two (f_Rolling_roll_9 n V (U 62 77 + 600) t) (f_Mo_roll_15 m X t) (fun V2 X2 => RV V2 U X2 (U 62 77 + 600) ∧ KR V0 V2) := by
  have fin : ∀ (V0 V X : VV) (t : Int), t = U 62 77 + 601 → RF V U → RU V U X (t - 1) → (∀ j : Nat, (j : Int) < nJ V → CoolK V j) → KR V0 V → Two (some V) (some X) (fun V2 X2 => RV V2 U X2 (U 62 77 + 600) ∧ KR V0 V2) := by
    intro V0 V X t e f u ck kr
    rw [show t - 1 = U 62 77 + 600 by omega] at u
    exact Two.ok ⟨⟨f, u, ck⟩, kr⟩
  intro k
  induction k with
  | zero =>
    intro n m V0 V X t e1 e2 e3 t0 t1 hb f u ck kr
    cases n with
    | zero => omega
    | succ n =>
      cases m with
      | zero => omega
      | succ m =>
        have x62 := u.1 62 (by omega)
        have h77 := f.2.2.2.2.2.2.2
        have h0 := (f.2.2.2.2.2.2.1 (nJ V - 1).toNat (by have := f.2.2.1.1; omega)).1
        show Two (if U 62 77 + 600 < t then some V else _) (if (w32 ((X 62 77) + 600)) < t then some X else _) _
        rw [x62, w32_id (by omega) (by omega)]
        exact Two.posL (by omega) (Two.posR (by omega) (fin V0 V X t (by omega) f u ck kr))
  | succ k ih =>
    intro n m V0 V X t e1 e2 e3 t0 t1 hb f u ck kr
    cases n with
    | zero => omega
    | succ n =>
      cases m with
      | zero => omega
      | succ m =>
        have x62 := u.1 62 (by omega)
        have h77 := f.2.2.2.2.2.2.2
        have h0 := (f.2.2.2.2.2.2.1 (nJ V - 1).toNat (by have := f.2.2.1.1; omega)).1
        show Two (if U 62 77 + 600 < t then some V else f_Rolling_roll_11 (f_Rolling_roll_9 n) FU V (U 62 77 + 600) t 0) (if (w32 ((X 62 77) + 600)) < t then some X else Option.bind (f_Mo_settle X t) (fun q2 => f_Mo_roll_18 (f_Mo_roll_15 m) FU q2 t 0)) _
        rw [x62, w32_id (by omega) (by omega)]
        by_cases g : U 62 77 + 600 < t
        · rw [if_pos g, if_pos g]
          exact fin V0 V X t (by omega) f u ck kr
        · rw [if_neg g, if_neg g]
          have st := settl f (t := t - 1) (X0 := X) (by omega) u 36 FU X 0 (by have := f.2.2.1; omega) (by decide) (by have := f.2.2.1; omega) (fun _ _ _ => rfl) (fun i hi => by rw [if_neg (fun y => absurd y.1 (by omega))]) (fun i hi s hs => (u.2.1 i hi s hs).2.2)
          rw [show t - 1 + 1 = t by omega] at st
          unfold f_Mo_settle
          refine Two.bindR st (fun Y hY => ?_)
          refine rol11 (t := t) (by omega) 6 FU FU V0 V Y 0 (by have := f.2.2.2.1; omega) (by decide) (by decide) (by have := f.2.2.2.1; omega) ⟨f, hY, ck⟩ kr (fun V2 X2 h2 k2 => ?_)
          exact ih n m V0 V2 X2 (t + 1) (by omega) (by omega) (by omega) (by omega) (by omega) hb h2.1 (by rw [show t + 1 - 1 = t by omega]; exact h2.2.1) h2.2.2 k2
theorem preM {V U : VV} {Q : VV → Prop} (f : RF V U) (hb : U 62 77 ≤ 4320) (i14 : ∀ j : Nat, (j : Int) < nJ V → V 57 j = -1) (K : ∀ m X, 30000 < m → RU V U X (V 32 0) → Sm (f_Mo_roll_15 m X (V 32 0 + 1)) Q) : ∀ (k m : Nat) (X : VV) (t : Int), V 32 0 + 1 - t ≤ (k : Int) → k + 30000 < m → 0 ≤ t → t ≤ V 32 0 + 1 → RU V U X (-1) → (∀ j : Nat, (j : Int) < nJ V → X 114 j = -1) → Sm (f_Mo_roll_15 m X t) Q := by
  obtain ⟨rs, wm, f1, f2, f3, f4, f5, f6⟩ := id f
  have z0 := f5 0 (by omega)
  have atT : ∀ (X : VV) (t : Int), -1 ≤ t → RU V U X (-1) → (∀ j : Nat, (j : Int) < nJ V → X 114 j = -1) → RU V U X t := by
    intro X t ht hu h14
    obtain ⟨u0, u1, u2, u3⟩ := hu
    refine ⟨u0, u1, fun j hj => ?_, u3⟩
    obtain ⟨b1, b2, b3⟩ := u2 j hj
    have := h14 j hj
    have := i14 j hj
    exact ⟨b1, b2, Or.inl (by omega)⟩
  intro k
  induction k with
  | zero =>
    intro m X t e1 e2 t0 t1 hu h14
    rw [show t = V 32 0 + 1 by omega]
    exact K m X (by omega) (atT X _ (by omega) hu h14)
  | succ k ih =>
    intro m X t e1 e2 t0 t1 hu h14
    by_cases g : t = V 32 0 + 1
    · rw [g]
      exact K m X (by omega) (atT X _ (by omega) hu h14)
    · cases m with
      | zero => omega
      | succ m =>
        have x62 := hu.1 62 (by omega)
        show Sm (if (w32 ((X 62 77) + 600)) < t then some X else Option.bind (f_Mo_settle X t) (fun q2 => f_Mo_roll_18 (f_Mo_roll_15 m) FU q2 t 0)) _
        rw [x62, w32_id (by omega) (by omega)]
        refine Sm.neg (by omega) ?_
        have st := settl f (t := t - 1) (X0 := X) (by omega) (atT X _ (by omega) hu h14) 36 FU X 0 (by omega) (by decide) (by omega) (fun _ _ _ => rfl) (fun i hi => by rw [if_neg (fun y => absurd y.1 (by omega))]) (fun i hi s hs => (hu.2.1 i hi s hs).2.2)
        rw [show t - 1 + 1 = t by omega] at st
        unfold f_Mo_settle
        refine Sm.bind st (fun Y _ hY => ?_)
        have y14 : ∀ j : Nat, (j : Int) < nJ V → Y 114 j = -1 := by
          intro j hj
          have a := hY.2.2.1 j hj
          have b := i14 j hj
          omega
        have hY1 : RU V U Y (-1) := by
          obtain ⟨u0, u1, u2, u3⟩ := hY
          refine ⟨u0, u1, fun j hj => ?_, u3⟩
          obtain ⟨b1, b2, b3⟩ := u2 j hj
          have := y14 j hj
          have := i14 j hj
          exact ⟨b1, b2, Or.inl (by omega)⟩
        -- no job may be rolled yet
        have none_ : ∀ s j : Nat, (j : Int) < nJ V → ¬ mayP V t s j := by
          intro s j hj p
          have := (f5 j hj).2.1
          have := p.1.1
          omega
        have r18 : ∀ (k2 n2 : Nat) (r : Nat), U 62 33 - (r : Int) ≤ (k2 : Int) → k2 < n2 → (r : Int) ≤ U 62 33 → Sm (f_Mo_roll_18 (f_Mo_roll_15 m) n2 Y t (r : Int)) Q := by
          have nxt : Sm (f_Mo_roll_15 m Y (t + 1)) Q := ih m Y (t + 1) (by omega) (by omega) (by omega) (by omega) hY1 y14
          intro k2
          induction k2 with
          | zero =>
            intro n2 r c1 c2 c3
            cases n2 with
            | zero => omega
            | succ n2 =>
              show Sm (if (r : Int) < Y 62 33 then _ else f_Mo_roll_15 m Y (w32 (t + 1))) Q
              rw [hY.1 62 (by omega), w32_id (by omega) (by omega)]
              exact Sm.neg (by omega) nxt
          | succ k2 ih2 =>
            intro n2 r c1 c2 c3
            cases n2 with
            | zero => omega
            | succ n2 =>
              show Sm (if (r : Int) < Y 62 33 then if 0 ≤ (r : Int) ∧ (r : Int) < (6 : Int) then if t < (Y 117 ((r : Int)).toNat) then f_Mo_roll_18 (f_Mo_roll_15 m) n2 Y t (w32 ((r : Int) + 1)) else Option.bind (f_Mo_rollOne Y (r : Int) t) (fun q4 => f_Mo_roll_18 (f_Mo_roll_15 m) n2 q4 t (w32 ((r : Int) + 1))) else none else f_Mo_roll_15 m Y (w32 (t + 1))) Q
              rw [hY.1 62 (by omega), w32_id (x := t + 1) (by omega) (by omega)]
              refine Sm.ite (fun gr => Sm.pos (by omega) ?_) (fun _ => nxt)
              rw [w32_id (by omega) (by omega), show (r : Int) + 1 = ((r + 1 : Nat) : Int) by omega]
              refine Sm.ite (fun _ => ih2 n2 (r + 1) (by omega) (by omega) (by omega)) (fun _ => ?_)
              obtain ⟨⟨s1, s2, s3⟩, -⟩ := f3 r gr
              obtain ⟨s, hs⟩ : ∃ s : Nat, U 75 r = (s : Int) := ⟨(U 75 r).toNat, by omega⟩
              have e1 : f_Mo_rollOne Y (r : Int) t = f_Mo_rollOne_2 FU Y (r : Int) t (s : Int) (-1) 0 := by
                unfold f_Mo_rollOne
                rw [if_pos (by omega), Int.toNat_natCast, hY.1 75 (by omega), hs]
              rw [e1]
              refine Sm.bind (roM f (r := r) (s := s) (t := t) hY (by omega) (by omega) gr 36 FU (-1) 0 (by omega) (by decide) (by omega) Fst.nil) (fun Z _ hZ => ?_)
              obtain ⟨b, qb, rfl⟩ := hZ
              have hb1 : b = -1 := by
                rcases qb with ⟨x, -⟩ | ⟨j, x, y, z, -⟩
                · exact x
                · exact absurd z (none_ s j (by omega))
              unfold finM
              rw [if_pos hb1]
              exact ih2 n2 (r + 1) (by omega) (by omega) (by omega)
        exact r18 6 FU 0 (by omega) (by decide) (by omega)
/-- the reference's rows when the rolling begins -/
def ini (U X : VV) (n : Int) : Prop := (∀ i, ¬ (112 ≤ i ∧ i ≤ 117) → X i = U i) ∧ ∀ j : Nat, (j : Int) < n → X 114 j = -1 ∧ X 116 j = -1 ∧ ∀ s : Nat, s < 3 → X 112 (3 * j + s) = 0 ∧ X 113 (3 * j + s) = 0
theorem ri5 {U : VV} {k1 : VV → Int → Option VV} {Q : VV → Prop} {j : Nat} (hj : j < 36) (K : ∀ X, ini U X ((j : Int) + 1) → Sm (k1 X ((j : Int) + 1)) Q) : ∀ (k n : Nat) (X : VV) (s : Nat), 3 - s ≤ k → k < n → s ≤ 3 → ini U X (j : Int) → X 114 j = -1 → X 116 j = -1 → (∀ l : Nat, l < s → X 112 (3 * j + l) = 0 ∧ X 113 (3 * j + l) = 0) → Sm (f_Mo_roll_5 k1 n X (j : Int) (s : Int)) Q := by
  have fin : ∀ (X : VV), ini U X (j : Int) → X 114 j = -1 → X 116 j = -1 → (∀ l : Nat, l < 3 → X 112 (3 * j + l) = 0 ∧ X 113 (3 * j + l) = 0) → Sm (k1 X (w32 ((j : Int) + 1))) Q := by
    intro X i h1 h2 h3
    rw [w32_id (by omega) (by omega)]
    refine K X ⟨i.1, fun j' hj' => ?_⟩
    by_cases e : j' = j
    · subst e; exact ⟨h1, h2, h3⟩
    · exact i.2 j' (by omega)
  intro k
  induction k with
  | zero =>
    intro n X s e1 e2 e3 i h1 h2 h3
    cases n with
    | zero => omega
    | succ n =>
      show Sm (if (s : Int) < 3 then _ else k1 X (w32 ((j : Int) + 1))) Q
      exact Sm.neg (by omega) (fin X i h1 h2 (fun l hl => h3 l (by omega)))
  | succ k ih =>
    intro n X s e1 e2 e3 i h1 h2 h3
    cases n with
    | zero => omega
    | succ n =>
      show Sm (if (s : Int) < 3 then if 0 ≤ (w32 ((w32 (3 * (j : Int))) + (s : Int))) ∧ (w32 ((w32 (3 * (j : Int))) + (s : Int))) < (108 : Int) then if 0 ≤ (w32 ((w32 (3 * (j : Int))) + (s : Int))) ∧ (w32 ((w32 (3 * (j : Int))) + (s : Int))) < (108 : Int) then f_Mo_roll_5 k1 n (up (up X 112 ((w32 ((w32 (3 * (j : Int))) + (s : Int))).toNat) 0) 113 ((w32 ((w32 (3 * (j : Int))) + (s : Int))).toNat) 0) (j : Int) (w32 ((s : Int) + 1)) else none else none else k1 X (w32 ((j : Int) + 1))) Q
      refine Sm.ite (fun g => ?_) (fun g => fin X i h1 h2 (fun l hl => h3 l (by omega)))
      rw [w32_id (x := 3 * (j : Int)) (by omega) (by omega), w32_id (x := 3 * (j : Int) + (s : Int)) (by omega) (by omega), show (3 * (j : Int) + (s : Int)).toNat = 3 * j + s by omega, w32_id (by omega) (by omega), show (s : Int) + 1 = ((s + 1 : Nat) : Int) by omega]
      have c : ∀ y, up (up X 112 (3 * j + s) 0) 113 (3 * j + s) 0 112 y = if y = 3 * j + s then 0 else X 112 y := fun y => by rw [up_na _ _ _ (by omega), up_ap, if_pos rfl]
      have d : ∀ y, up (up X 112 (3 * j + s) 0) 113 (3 * j + s) 0 113 y = if y = 3 * j + s then 0 else X 113 y := fun y => by rw [up_ap, if_pos rfl, up_na _ _ _ (by omega)]
      have o : ∀ y, y ≠ 112 → y ≠ 113 → up (up X 112 (3 * j + s) 0) 113 (3 * j + s) 0 y = X y := fun y a b => by rw [up_na _ _ _ b, up_na _ _ _ a]
      refine Sm.pos (by omega) (Sm.pos (by omega) (ih n _ (s + 1) (by omega) (by omega) (by omega) ⟨fun y hy => by rw [o y (by omega) (by omega)]; exact i.1 y hy, fun j' hj' => ?_⟩ (by rw [o 114 (by omega) (by omega)]; exact h1) (by rw [o 116 (by omega) (by omega)]; exact h2) (fun l hl => ?_)))
      · obtain ⟨a1, a2, a3⟩ := i.2 j' hj'
        refine ⟨by rw [o 114 (by omega) (by omega)]; exact a1, by rw [o 116 (by omega) (by omega)]; exact a2, fun l hl => ?_⟩
        rw [c, d, if_neg (by omega), if_neg (by omega)]
        exact a3 l hl
      · rw [c, d]
        by_cases e : l = s
        · rw [if_pos (by omega), if_pos (by omega)]; exact ⟨rfl, rfl⟩
        · rw [if_neg (by omega), if_neg (by omega)]; exact h3 l (by omega)
theorem ri1 {U : VV} {N : Int} {Q : VV → Prop} (hN : U 62 13 = N ∧ 0 ≤ N ∧ N ≤ 36) (K : ∀ X, ini U X N → Sm (f_Mo_roll_11 FU X 0) Q) : ∀ (k n : Nat) (X : VV) (j : Nat), N - (j : Int) ≤ (k : Int) → k < n → (j : Int) ≤ N → ini U X (j : Int) → Sm (f_Mo_roll_1 n X (j : Int)) Q := by
  intro k
  induction k with
  | zero =>
    intro n X j e1 e2 e3 i
    cases n with
    | zero => omega
    | succ n =>
      show Sm (if (j : Int) < X 62 13 then _ else f_Mo_roll_11 FU X 0) Q
      rw [i.1 62 (by omega), hN.1]
      refine Sm.neg (by omega) (K X ?_)
      rw [show N = (j : Int) by omega]; exact i
  | succ k ih =>
    intro n X j e1 e2 e3 i
    cases n with
    | zero => omega
    | succ n =>
      show Sm (if (j : Int) < X 62 13 then if 0 ≤ (j : Int) ∧ (j : Int) < (36 : Int) then if 0 ≤ (j : Int) ∧ (j : Int) < (36 : Int) then f_Mo_roll_5 (f_Mo_roll_1 n) FU (up (up X 114 ((j : Int)).toNat (-1)) 116 ((j : Int)).toNat (-1)) (j : Int) 0 else none else none else f_Mo_roll_11 FU X 0) Q
      rw [i.1 62 (by omega), hN.1]
      refine Sm.ite (fun g => Sm.pos (by omega) (Sm.pos (by omega) ?_)) (fun g => K X (by rw [show N = (j : Int) by omega]; exact i))
      rw [Int.toNat_natCast]
      have o : ∀ y, y ≠ 114 → y ≠ 116 → up (up X 114 j (-1)) 116 j (-1) y = X y := fun y a b => by rw [up_na _ _ _ b, up_na _ _ _ a]
      have c : ∀ y, up (up X 114 j (-1)) 116 j (-1) 114 y = if y = j then -1 else X 114 y := fun y => by rw [up_na _ _ _ (by omega), up_ap, if_pos rfl]
      have d : ∀ y, up (up X 114 j (-1)) 116 j (-1) 116 y = if y = j then -1 else X 116 y := fun y => by rw [up_ap, if_pos rfl, up_na _ _ _ (by omega)]
      refine ri5 (U := U) (j := j) (by omega) (fun Y hY => ?_) 3 FU _ 0 (by omega) (by decide) (by omega) ⟨fun y hy => by rw [o y (by omega) (by omega)]; exact i.1 y hy, fun j' hj' => ?_⟩ (by rw [c, if_pos rfl]) (by rw [d, if_pos rfl]) (fun l hl => by omega)
      · rw [show (j : Int) + 1 = ((j + 1 : Nat) : Int) by omega] at hY ⊢
        exact ih n Y (j + 1) (by omega) (by omega) (by omega) hY
      · obtain ⟨a1, a2, a3⟩ := i.2 j' hj'
        rw [c, d, if_neg (by omega), if_neg (by omega), o 112 (by omega) (by omega), o 113 (by omega) (by omega)]
        exact ⟨a1, a2, a3⟩
theorem ri11 {U : VV} {N R : Int} {Q : VV → Prop} (hR : U 62 33 = R ∧ 0 ≤ R ∧ R ≤ 6) (K : ∀ X, ini U X N → (∀ r : Nat, (r : Int) < R → X 117 r = 0) → Sm (f_Mo_roll_15 FU X 0) Q) : ∀ (k n : Nat) (X : VV) (r : Nat), R - (r : Int) ≤ (k : Int) → k < n → (r : Int) ≤ R → ini U X N → (∀ i : Nat, i < r → X 117 i = 0) → Sm (f_Mo_roll_11 n X (r : Int)) Q := by
  intro k
  induction k with
  | zero =>
    intro n X r e1 e2 e3 i q
    cases n with
    | zero => omega
    | succ n =>
      show Sm (if (r : Int) < X 62 33 then _ else f_Mo_roll_15 FU X 0) Q
      rw [i.1 62 (by omega), hR.1]
      exact Sm.neg (by omega) (K X i (fun r' hr' => q r' (by omega)))
  | succ k ih =>
    intro n X r e1 e2 e3 i q
    cases n with
    | zero => omega
    | succ n =>
      show Sm (if (r : Int) < X 62 33 then if 0 ≤ (r : Int) ∧ (r : Int) < (6 : Int) then f_Mo_roll_11 n (up X 117 ((r : Int)).toNat 0) (w32 ((r : Int) + 1)) else none else f_Mo_roll_15 FU X 0) Q
      rw [i.1 62 (by omega), hR.1]
      refine Sm.ite (fun g => Sm.pos (by omega) ?_) (fun g => K X i (fun r' hr' => q r' (by omega)))
      rw [Int.toNat_natCast, w32_id (by omega) (by omega), show (r : Int) + 1 = ((r + 1 : Nat) : Int) by omega]
      refine ih n _ (r + 1) (by omega) (by omega) (by omega) ⟨fun y hy => by rw [up_na _ _ _ (by omega)]; exact i.1 y hy, fun j hj => ?_⟩ (fun y hy => ?_)
      · rw [up_na _ _ _ (by omega), up_na _ _ _ (by omega), up_na _ _ _ (by omega), up_na _ _ _ (by omega)]
        exact i.2 j hj
      · rw [up_ap, if_pos rfl]
        by_cases e : y = r
        · rw [if_pos e]
        · rw [if_neg e]; exact q y (by omega)
theorem roll2 {V U : VV} {x : Int} (f : RF V U) (ck : ∀ j : Nat, (j : Int) < nJ V → CoolK V j) : Two (rollX V x) (f_Mo_roll U) (fun V2 X2 => RV V2 U X2 (U 62 77 + 600) ∧ KR (up V 49 10 x) V2) := by
  obtain ⟨rs, wm, f1, f2, f3, f4, f5, f6⟩ := id f
  have z0 := f5 0 (by omega)
  have zN := f5 (nJ V - 1).toNat (by omega)
  unfold rollX
  rw [lt_eq, lt_eq, lt_eq]
  have w0 : ∀ i, i ≠ 49 → i ≠ 55 → i ≠ 56 → i ≠ 57 → fillV (fillV (fillV (up V 49 10 x) 55 6 0) 56 108 0) 57 36 (-1) i = V i := fun i a b c d => by rw [fill_na d, fill_na c, fill_na b, up_na _ _ _ a]
  have w49 : fillV (fillV (fillV (up V 49 10 x) 55 6 0) 56 108 0) 57 36 (-1) 49 11 = V 49 11 := by rw [fill_na (by omega), fill_na (by omega), fill_na (by omega), up_nf _ _ (by omega)]
  have w55 : ∀ i, i < 6 → fillV (fillV (fillV (up V 49 10 x) 55 6 0) 56 108 0) 57 36 (-1) 55 i = 0 := fun i hi => by rw [fill_na (by omega), fill_na (by omega), fill_in hi]
  have w56 : ∀ i, i < 108 → fillV (fillV (fillV (up V 49 10 x) 55 6 0) 56 108 0) 57 36 (-1) 56 i = 0 := fun i hi => by rw [fill_na (by omega), fill_in hi]
  have w57 : ∀ i, i < 36 → fillV (fillV (fillV (up V 49 10 x) 55 6 0) 56 108 0) 57 36 (-1) 57 i = -1 := fun i hi => by rw [fill_in hi]
  have wk : KR (up V 49 10 x) (fillV (fillV (fillV (up V 49 10 x) 55 6 0) 56 108 0) 57 36 (-1)) := fun i a b => by rw [fill_na (by omega), fill_na (by omega), fill_na (by omega)]
  generalize fillV (fillV (fillV (up V 49 10 x) 55 6 0) 56 108 0) 57 36 (-1) = W at *
  have fW : RF W U := f.fr (fun i hi => w0 i (by omega) (by omega) (by omega) (by omega)) w49
  have nW : nJ W = nJ V := by unfold nJ; rw [w0 1 (by omega) (by omega) (by omega) (by omega)]
  have ckW : ∀ j : Nat, (j : Int) < nJ W → CoolK W j := fun j hj => by
    have := ck j (by omega)
    unfold CoolK shJ mnJ at this ⊢
    rw [w0 34 (by omega) (by omega) (by omega) (by omega), w0 35 (by omega) (by omega) (by omega) (by omega), w0 36 (by omega) (by omega) (by omega) (by omega), w0 8 (by omega) (by omega) (by omega) (by omega), w0 33 (by omega) (by omega) (by omega) (by omega), w0 15 (by omega) (by omega) (by omega) (by omega)]
    exact this
  have jW : f_Road_jobs W = nJ V := (jobs_row (w0 1 (by omega) (by omega) (by omega) (by omega))).trans rs.jobs
  have w32 := w0 32 (by omega) (by omega) (by omega) (by omega)
  have a1 : ∀ _ : Nat, atV W 32 36 (nJ V - 1) = U 62 77 := fun _ => by rw [atV_in (by omega) (by omega), w32, f6]
  have a0 : ∀ _ : Nat, atV W 32 36 0 = V 32 0 := fun _ => by rw [atV_in (by omega) (by omega), w32]; rfl
  rw [jW, w32_id (x := nJ V - 1) (by omega) (by omega), a1 0, a0 0, w32_id (x := U 62 77 + 600) (by omega) (by omega), w32_id (x := V 32 0 + 1) (by omega) (by omega)]
  unfold f_Mo_roll
  refine Two.ofR (ri1 (U := U) (N := nJ V) ⟨f1.2.2.1, by omega, by omega⟩ (fun X iX => ?_) 36 FU U 0 (by omega) (by decide) (by omega) ⟨fun _ _ => rfl, fun j hj => by omega⟩)
  refine ri11 (U := U) (N := nJ V) (R := U 62 33) ⟨rfl, f2.2.1, f2.2.2⟩ (fun Y iY h117 => ?_) 6 FU X 0 (by omega) (by decide) (by omega) iX (fun i hi => by omega)
  have ru : RU W U Y (-1) := by
    refine ⟨iY.1, fun j hj s hs => ?_, fun j hj => ?_, fun r hr => ?_⟩
    · obtain ⟨b1, b2, b3⟩ := iY.2 j (by omega)
      rw [w56 _ (by omega), (b3 s hs).1, (b3 s hs).2, b1, if_neg (fun y => absurd y.1 (by omega))]
      exact ⟨rfl, by omega, rfl⟩
    · obtain ⟨b1, b2, b3⟩ := iY.2 j (by omega)
      rw [w57 _ (by omega), b1, b2]
      exact ⟨rfl, by omega, Or.inl ⟨rfl, by omega⟩⟩
    · rw [w55 _ (by omega), h117 r hr]
      exact ⟨rfl, by omega⟩
  refine preM fW (by omega) (fun j hj => w57 j (by omega)) (fun m Z hm uZ => Two.toR ?_) 4400 FU Y 0 (by rw [w32]; omega) (by decide) (by omega) (by rw [w32]; omega) ru (fun j hj => (iY.2 j (by omega)).1)
  rw [w32] at uZ ⊢
  exact roll9 5000 FU m (up V 49 10 x) W Z (V 32 0 + 1) (by omega) (by decide) (by omega) (by omega) (by omega) (by omega) fW (by rw [show V 32 0 + 1 - 1 = V 32 0 by omega]; exact uZ) ckW wk
