/-! rolling: what stands still -/
def mu (V : VV) (t : Int) (j : Nat) : Int := mnJ V (V 8 j) (V 33 j) (max 0 (min 600 (t - V 32 j))).toNat
def RF (V U : VV) : Prop := RS V ∧ WmOK V ∧ (0 < nJ V ∧ nJ V ≤ 36 ∧ U 62 13 = nJ V ∧ U 62 0 = V 1 8 ∧ ∀ s : Nat, (s : Int) < V 1 8 → U 63 s = V 2 s) ∧ (V 49 11 = U 62 33 ∧ 0 ≤ U 62 33 ∧ U 62 33 ≤ 6) ∧ (∀ r : Nat, (r : Int) < U 62 33 → (V 50 r = U 75 r ∧ 0 ≤ U 75 r ∧ U 75 r ≤ 2) ∧ V 51 r = U 76 r ∧ 10 ≤ U 76 r ∧ U 76 r ≤ 100) ∧ (∀ s : Nat, s < 3 → V 52 s = U 77 s ∧ V 53 s = U 78 s ∧ V 54 s = U 79 s ∧ 0 ≤ U 79 s ∧ U 79 s ≤ 9) ∧ (∀ j : Nat, (j : Int) < nJ V → (V 32 j = U 97 j ∧ 0 ≤ U 97 j ∧ U 97 j ≤ 4320) ∧ V 32 0 ≤ V 32 j ∧ V 32 j ≤ U 62 77 ∧ (20 ≤ V 8 j ∧ V 8 j ≤ 260) ∧ (0 ≤ V 33 j ∧ V 33 j ≤ 200) ∧ ∀ i : Nat, i ≤ 600 → U 109 (601 * j + i) = mnJ V (V 8 j) (V 33 j) i) ∧ U 62 77 = V 32 (nJ V - 1).toNat
/-- the cooled rows -/
def KC (V W : VV) : Prop := (∀ i, i ≠ 34 → i ≠ 35 → i ≠ 36 → W i = V i) ∧ ∀ j : Nat, (j : Int) < nJ V → CoolK W j
theorem kc_nJ {V W : VV} (k : KC V W) : nJ W = nJ V := by unfold nJ; rw [k.1 1 (by omega) (by omega) (by omega)]
theorem KC.rf {V : VV} (h : ∀ j : Nat, (j : Int) < nJ V → CoolK V j) : KC V V := ⟨fun _ _ _ _ => rfl, h⟩
theorem KC.co {V W X : VV} {j : Nat} (k : KC V W) (c : CO j W X) (ck : CoolK X j) : KC V X := by
  refine ⟨fun i a b d => (c.1 i a b d).trans (k.1 i a b d), fun i hi => ?_⟩
  by_cases e : i = j
  · subst e; exact ck
  · exact (k.2 i hi).co c e
theorem mu_kc {V W : VV} (k : KC V W) (t : Int) (j : Nat) : mu W t j = mu V t j := by
  unfold mu mnJ
  rw [k.1 8 (by omega) (by omega) (by omega), k.1 33 (by omega) (by omega) (by omega), k.1 32 (by omega) (by omega) (by omega), k.1 15 (by omega) (by omega) (by omega)]
theorem meanA {V U W : VV} (f : RF V U) (k : KC V W) {t : Int} {j : Nat} (ht : 0 ≤ t ∧ t ≤ 5000) (hj : (j : Int) < nJ V) : Sm (f_Cooling_meanAt W (j : Int) t) (fun q => KC V q.1 ∧ q.2 = mu V t j) := by
  obtain ⟨rs, wm, f1, f2, f3, f4, f5, f6⟩ := f
  obtain ⟨b1, b2, b3, b4, b5, b6⟩ := f5 j hj
  have w32' := k.1 32 (by omega) (by omega) (by omega)
  have w8 := k.1 8 (by omega) (by omega) (by omega)
  have w33 := k.1 33 (by omega) (by omega) (by omega)
  have w15 := k.1 15 (by omega) (by omega) (by omega)
  have wW : WmOK W := by unfold WmOK; rw [w15]; exact wm
  unfold f_Cooling_meanAt
  rw [atV_in (by omega) (by omega), Int.toNat_natCast, w32', w32_id (by omega) (by omega)]
  refine Sm.bind (meanB wW (by omega) (by rw [w8]; exact b4.1) (by rw [w8]; exact b4.2) (by rw [w33]; exact b5.1) (by rw [w33]; exact b5.2) (k.2 j hj) (t - V 32 j)) (fun q _ hq => ?_)
  obtain ⟨q1, q2, q3⟩ := hq
  refine Sm.ok ⟨k.co q1 q2, ?_⟩
  dsimp only
  rw [q3]
  unfold mu mnJ
  rw [w8, w33, w15]
theorem meanM {V U X : VV} (f : RF V U) {t : Int} {j : Nat} (hX : X 109 = U 109) (hX2 : X 97 = U 97) (ht : 0 ≤ t ∧ t ≤ 5000) (hj : (j : Int) < nJ V) (hl : V 32 j ≤ t) : f_Mo_meanOf X (j : Int) (w32 (t - X 97 j)) = some (mu V t j) := by
  obtain ⟨rs, wm, f1, f2, f3, f4, f5, f6⟩ := f
  obtain ⟨b1, b2, b3, b4, b5, b6⟩ := f5 j hj
  rw [hX2, w32_id (by omega) (by omega), ← b1.1]
  unfold f_Mo_meanOf mu
  have em : (if 600 < t - V 32 j then 600 else t - V 32 j : Int) = min 600 (t - V 32 j) := by split <;> omega
  rw [em, w32_id (x := 601 * (j : Int)) (by omega) (by omega), w32_id (by omega) (by omega), if_pos (by omega), show (601 * (j : Int) + min 600 (t - V 32 j)).toNat = 601 * j + (max 0 (min 600 (t - V 32 j))).toNat by omega, hX, b6 _ (by omega)]
/-- a job may be rolled: what the class asks -/
def mayP (V : VV) (t : Int) (s j : Nat) : Prop := (1 ≤ t - V 32 j ∧ t - V 32 j ≤ 600) ∧ V 57 j ≤ t ∧ V 56 (3 * j + s) < V 54 s ∧ (∀ l : Nat, l < s → V 54 l ≤ V 56 (3 * j + l)) ∧ V 53 s ≤ mu V t j ∧ mu V t j ≤ V 52 s
def mayQ (V : VV) (t : Int) (s j : Nat) : Prop := (1 ≤ t - V 32 j ∧ t - V 32 j ≤ 600) ∧ V 57 j ≤ t ∧ V 56 (3 * j + s) < V 54 s ∧ ∀ l : Nat, l < s → V 54 l ≤ V 56 (3 * j + l)
theorem mb10 {V : VV} {j s : Nat} (hj : j < 36) (hs : s < 3) : ∀ (k n : Nat) (l : Nat), s - l ≤ k → k < n → l ≤ s → (∀ i : Nat, i < l → V 54 i ≤ V 56 (3 * j + i)) → Sm (f_Rolling_mayBegin_10 n V (j : Int) (s : Int) (l : Int)) (fun q => (q = 1 ∧ ∀ i : Nat, i < s → V 54 i ≤ V 56 (3 * j + i)) ∨ (q = 0 ∧ ¬ ∀ i : Nat, i < s → V 54 i ≤ V 56 (3 * j + i))) := by
  intro k
  induction k with
  | zero =>
    intro n l e1 e2 e3 q
    cases n with
    | zero => omega
    | succ n =>
      show Sm (if (l : Int) < (s : Int) then _ else some 1) _
      exact Sm.neg (by omega) (Sm.ok (Or.inl ⟨rfl, fun i hi => q i (by omega)⟩))
  | succ k ih =>
    intro n l e1 e2 e3 q
    cases n with
    | zero => omega
    | succ n =>
      show Sm (if (l : Int) < (s : Int) then if (atV V 56 108 (w32 ((w32 ((j : Int) * 3)) + (l : Int)))) < (atV V 54 3 (l : Int)) then some 0 else f_Rolling_mayBegin_10 n V (j : Int) (s : Int) (w32 ((l : Int) + 1)) else some 1) _
      refine Sm.ite (fun g => ?_) (fun g => Sm.ok (Or.inl ⟨rfl, fun i hi => q i (by omega)⟩))
      rw [w32_id (x := (j : Int) * 3) (by omega) (by omega), w32_id (x := (j : Int) * 3 + (l : Int)) (by omega) (by omega), atV_in (by omega) (by omega), atV_in (by omega) (by omega), show ((j : Int) * 3 + (l : Int)).toNat = 3 * j + l by omega, Int.toNat_natCast, w32_id (by omega) (by omega), show (l : Int) + 1 = ((l + 1 : Nat) : Int) by omega]
      refine Sm.ite (fun z => Sm.ok (Or.inr ⟨rfl, fun y => ?_⟩)) (fun z => ih n (l + 1) (by omega) (by omega) (by omega) (fun i hi => ?_))
      · have := y l (by omega); omega
      · by_cases e : i = l
        · subst e; omega
        · exact q i (by omega)
theorem mayB {V : VV} {j s : Nat} {t : Int} (hj : j < 36) (hs : s < 3) (ht : 0 ≤ t ∧ t ≤ 5000) (hl : 0 ≤ V 32 j ∧ V 32 j ≤ 4320) : Sm (f_Rolling_mayBegin V (j : Int) (s : Int) t) (fun q => (q = 1 ∧ mayQ V t s j) ∨ (q = 0 ∧ ¬ mayQ V t s j)) := by
  unfold f_Rolling_mayBegin
  rw [atV_in (by omega) (by omega), atV_in (by omega) (by omega), w32_id (x := (j : Int) * 3) (by omega) (by omega), w32_id (x := (j : Int) * 3 + (s : Int)) (by omega) (by omega), atV_in (by omega) (by omega), atV_in (by omega) (by omega), show ((j : Int) * 3 + (s : Int)).toNat = 3 * j + s by omega, Int.toNat_natCast, Int.toNat_natCast, w32_id (x := t - V 32 j) (by omega) (by omega)]
  refine Sm.ite (fun g => Sm.ok (Or.inr ⟨rfl, fun y => isFromV_0.mp g y.1⟩)) (fun g => Sm.ite (fun g2 => Sm.ok (Or.inr ⟨rfl, fun y => by have := y.2.1; omega⟩)) (fun g2 => Sm.ite (fun g3 => ?_) (fun g3 => Sm.ok (Or.inr ⟨rfl, fun y => g3 y.2.2.1⟩))))
  have g' : 1 ≤ t - V 32 j ∧ t - V 32 j ≤ 600 := Classical.byContradiction (fun y => g (isFromV_0.mpr y))
  refine (mb10 hj hs 3 FU 0 (by omega) (by decide) (by omega) (fun i hi => by omega)).imp (fun q hq => ?_)
  rcases hq with ⟨a, b⟩ | ⟨a, b⟩
  · exact Or.inl ⟨a, g', by omega, g3, b⟩
  · exact Or.inr ⟨a, fun y => b y.2.2.2⟩
/-- what a pass that is begun writes -/
def finC (W : VV) (V : VV) (r : Nat) (t : Int) (s : Nat) (b : Int) : VV := if b = -1 then W else up (up (up W 56 (3 * b.toNat + s) (W 56 (3 * b.toNat + s) + 1)) 57 b.toNat (t + (V 2 (b % V 1 8).toNat + V 51 r - 1) / V 51 r)) 55 r (t + (V 2 (b % V 1 8).toNat + V 51 r - 1) / V 51 r)
theorem tk_bd {l v : Int} (h1 : 10 ≤ l ∧ l ≤ 500) (h2 : 10 ≤ v ∧ v ≤ 100) : Int.tdiv (w32 (w32 (l + v) - 1)) v = (l + v - 1) / v ∧ 1 ≤ (l + v - 1) / v ∧ (l + v - 1) / v ≤ 600 := by
  rw [w32_id (x := l + v) (by omega) (by omega), w32_id (by omega) (by omega), Int.tdiv_eq_ediv_of_nonneg (by omega)]
  refine ⟨rfl, ?_, ?_⟩
  · have := (Int.le_ediv_iff_mul_le (a := 1) (b := l + v - 1) (c := v) (by omega)).mpr (by omega)
    exact this
  · have := Int.ediv_le_self v (a := l + v - 1) (by omega)
    omega
theorem bpC {V U : VV} (f : RF V U) {r s : Nat} {t : Int} (ht : 0 ≤ t ∧ t ≤ 5000) (hs : s < 3) (hr : (r : Int) < U 62 33) (h56 : ∀ j : Nat, (j : Int) < nJ V → 0 ≤ V 56 (3 * j + s)) : ∀ (k n : Nat) (W : VV) (b l : Int) (j : Nat), nJ V - (j : Int) ≤ (k : Int) → k < n → (j : Int) ≤ nJ V → KC V W → Fst (mayP V t s) (mu V t) j b → (b ≠ -1 → l = mu V t b.toNat) → Sm (f_Rolling_beginPass_2 n W (r : Int) t (s : Int) b l (j : Int)) (fun X => ∃ (b : Int) (W : VV), Fst (mayP V t s) (mu V t) (nJ V).toNat b ∧ KC V W ∧ X = finC W V r t s b) := by
  obtain ⟨rs, wm, f1, f2, f3, f4, f5, f6⟩ := id f
  have jb : ∀ W : VV, KC V W → f_Road_jobs W = nJ V := fun W k => (jobs_row (k.1 1 (by omega) (by omega) (by omega))).trans rs.jobs
  have fin : ∀ (W : VV) (b : Int) (j : Nat), (j : Int) ≤ nJ V → ¬ (j : Int) < nJ V → KC V W → Fst (mayP V t s) (mu V t) j b → Sm (if b = (-1) then some W else Option.bind (f_Road_sectionOf W b) (fun q5 => if (max 1 (atV W 51 6 (r : Int))) = 0 then none else lt_ (setV W 56 108 (w32 ((w32 (b * 3)) + (s : Int))) (w32 ((atV W 56 108 (w32 ((w32 (b * 3)) + (s : Int)))) + 1))) (fun q9 => lt_ (setV q9 57 36 b (w32 (t + (w32 (Int.tdiv (w32 ((w32 ((atV W 2 12 q5) + (max 1 (atV W 51 6 (r : Int))))) - 1)) (max 1 (atV W 51 6 (r : Int)))))))) (fun q10 => lt_ (setV q10 55 6 (r : Int) (w32 (t + (w32 (Int.tdiv (w32 ((w32 ((atV W 2 12 q5) + (max 1 (atV W 51 6 (r : Int))))) - 1)) (max 1 (atV W 51 6 (r : Int)))))))) (fun q11 => some q11))))) (fun X => ∃ (b : Int) (W : VV), Fst (mayP V t s) (mu V t) (nJ V).toNat b ∧ KC V W ∧ X = finC W V r t s b) := by
    intro W b j h1 h2 k q
    have ej : j = (nJ V).toNat := by omega
    subst ej
    refine Sm.ite (fun g => Sm.ok ⟨b, W, q, k, by unfold finC; rw [if_pos g]⟩) (fun g => ?_)
    obtain ⟨m, rfl, hm, hP⟩ : ∃ m : Nat, b = (m : Int) ∧ (m : Int) < nJ V ∧ mayP V t s m := by
      rcases id q with ⟨x, -⟩ | ⟨m, x, y, z, -⟩
      · exact absurd x g
      · exact ⟨m, x, by omega, z⟩
    obtain ⟨sp1, sp2, sp3, sp4, sp5⟩ := rs.split (j := (m : Int)) (by omega) hm
    have w1 := k.1 1 (by omega) (by omega) (by omega)
    have sec : f_Road_sectionOf W (m : Int) = some ((m : Int) % V 1 8) := by
      unfold f_Road_sectionOf
      rw [w1]
      have := rs.sec (j := (m : Int)) (by omega) hm
      unfold f_Road_sectionOf at this
      exact this
    rw [sec]
    have w51 := k.1 51 (by omega) (by omega) (by omega)
    have w2 := k.1 2 (by omega) (by omega) (by omega)
    have w56 := k.1 56 (by omega) (by omega) (by omega)
    obtain ⟨-, v51, v51b⟩ := f3 r hr
    have ln := rs.2.2.2.2.2.2.2.1 ((m : Int) % V 1 8).toNat (by omega)
    have e51 : ∀ _ : Nat, max 1 (atV W 51 6 (r : Int)) = V 51 r := fun _ => by rw [atV_in (by omega) (by omega), Int.toNat_natCast, w51]; omega
    have e2 : ∀ _ : Nat, atV W 2 12 ((m : Int) % V 1 8) = V 2 ((m : Int) % V 1 8).toNat := fun _ => by rw [atV_in (by omega) (by have := rs.1.2; omega), w2]
    show Sm (if (max 1 (atV W 51 6 (r : Int))) = 0 then none else _) _
    rw [e51 0, e2 0]
    obtain ⟨tk1, tk2, tk3⟩ := tk_bd (l := V 2 ((m : Int) % V 1 8).toNat) (v := V 51 r) ln.1 (by omega)
    have bg := f4 s hs
    have pB := hP.2.2.1
    have pb0 : ∀ _ : Nat, W 56 (3 * m + s) = V 56 (3 * m + s) := fun _ => by rw [w56]
    refine Sm.neg (by omega) ?_
    rw [tk1, lt_eq, lt_eq, lt_eq, w32_id (x := (m : Int) * 3) (by omega) (by omega), w32_id (x := (m : Int) * 3 + (s : Int)) (by omega) (by omega), atV_in (id := 56) (by omega) (by omega), setV_in (id := 56) (by omega) (by omega), setV_in (id := 57) (by omega) (by omega), setV_in (id := 55) (by omega) (by omega), show ((m : Int) * 3 + (s : Int)).toNat = 3 * m + s by omega, Int.toNat_natCast, Int.toNat_natCast, w32_id (x := (V 2 ((m : Int) % V 1 8).toNat + V 51 r - 1) / V 51 r) (by omega) (by omega), w32_id (x := t + (V 2 ((m : Int) % V 1 8).toNat + V 51 r - 1) / V 51 r) (by omega) (by omega)]
    have pb1 := h56 m hm
    have pb2 : W 56 (3 * m + s) = V 56 (3 * m + s) := pb0 0
    rw [w32_id (x := W 56 (3 * m + s) + 1) (by omega) (by omega)]
    refine Sm.ok ⟨(m : Int), W, q, k, ?_⟩
    unfold finC
    rw [if_neg g, Int.toNat_natCast]
  intro k
  induction k with
  | zero =>
    intro n W b l j e1 e2 e3 kc q hl
    cases n with
    | zero => omega
    | succ n =>
      show Sm (if (j : Int) < (f_Road_jobs W) then _ else _) _
      rw [jb W kc]
      exact Sm.neg (by omega) (fin W b j e3 (by omega) kc q)
  | succ k ih =>
    intro n W b l j e1 e2 e3 kc q hl
    cases n with
    | zero => omega
    | succ n =>
      show Sm (if (j : Int) < (f_Road_jobs W) then Option.bind (f_Rolling_mayBegin W (j : Int) (s : Int) t) (fun q12 => if q12 = 0 then f_Rolling_beginPass_2 n W (r : Int) t (s : Int) b l (w32 ((j : Int) + 1)) else Option.bind (f_Cooling_meanAt W (j : Int) t) (fun q14 => f_Rolling_beginPass_2 n q14.1 (r : Int) t (s : Int) (if (isFromV q14.2 (atV q14.1 53 3 (s : Int)) (atV q14.1 52 3 (s : Int))) = 0 then b else (if b = (-1) then (j : Int) else (if q14.2 < l then (j : Int) else b : Int) : Int) : Int) (if (isFromV q14.2 (atV q14.1 53 3 (s : Int)) (atV q14.1 52 3 (s : Int))) = 0 then l else (if b = (-1) then q14.2 else (if q14.2 < l then q14.2 else l : Int) : Int) : Int) (w32 ((j : Int) + 1)))) else _) _
      rw [jb W kc]
      refine Sm.ite (fun g => ?_) (fun g => fin W b j e3 g kc q)
      rw [w32_id (x := (j : Int) + 1) (by omega) (by omega), show (j : Int) + 1 = ((j + 1 : Nat) : Int) by omega]
      obtain ⟨b1, b2, b3, b4, b5, b6⟩ := f5 j g
      have k32 := kc.1 32 (by omega) (by omega) (by omega)
      have k52 := kc.1 52 (by omega) (by omega) (by omega)
      have k53 := kc.1 53 (by omega) (by omega) (by omega)
      have k54 := kc.1 54 (by omega) (by omega) (by omega)
      have k56 := kc.1 56 (by omega) (by omega) (by omega)
      have k57 := kc.1 57 (by omega) (by omega) (by omega)
      have mq : mayQ W t s j ↔ mayQ V t s j := by unfold mayQ; rw [k32, k54, k56, k57]
      refine Sm.bind (mayB (V := W) (t := t) (j := j) (s := s) (by omega) hs ht (by rw [k32]; omega)) (fun x _ hx => ?_)
      rcases hx with ⟨x1, x2⟩ | ⟨x1, x2⟩
      · rw [x1, if_neg (by omega)]
        have q0 := mq.mp x2
        refine Sm.bind (meanA f kc ht g) (fun y _ hy => ?_)
        obtain ⟨y1, y2⟩ := hy
        have a53 : ∀ _ : Nat, atV y.1 53 3 (s : Int) = V 53 s := fun _ => by rw [atV_in (by omega) (by omega), Int.toNat_natCast, y1.1 53 (by omega) (by omega) (by omega)]
        have a52 : ∀ _ : Nat, atV y.1 52 3 (s : Int) = V 52 s := fun _ => by rw [atV_in (by omega) (by omega), Int.toNat_natCast, y1.1 52 (by omega) (by omega) (by omega)]
        rw [a53 0, a52 0, y2]
        by_cases z : isFromV (mu V t j) (V 53 s) (V 52 s) = 0
        · rw [if_pos z, if_pos z]
          refine ih n y.1 b l (j + 1) (by omega) (by omega) (by omega) y1 (q.skip (fun p => isFromV_0.mp z p.2.2.2.2)) hl
        · rw [if_neg z, if_neg z]
          have z' : V 53 s ≤ mu V t j ∧ mu V t j ≤ V 52 s := Classical.byContradiction (fun p => z (isFromV_0.mpr p))
          have pj : mayP V t s j := ⟨q0.1, q0.2.1, q0.2.2.1, q0.2.2.2, z'⟩
          by_cases hb : b = -1
          · rw [if_pos hb, if_pos hb]
            subst hb
            refine ih n y.1 (j : Int) (mu V t j) (j + 1) (by omega) (by omega) (by omega) y1 (q.first pj) (fun _ => by rw [Int.toNat_natCast])
          · rw [if_neg hb, if_neg hb]
            obtain ⟨m, rfl, hm⟩ : ∃ m : Nat, b = (m : Int) ∧ m < j := by
              rcases q with ⟨x, -⟩ | ⟨m, x, y, -⟩
              · exact absurd x hb
              · exact ⟨m, x, y⟩
            have nq := q.next pj
            have el := hl hb
            rw [Int.toNat_natCast] at el
            rw [el]
            refine ih n y.1 _ _ (j + 1) (by omega) (by omega) (by omega) y1 nq (fun _ => ?_)
            by_cases w : mu V t j < mu V t m
            · rw [if_pos w, if_pos w, Int.toNat_natCast]
            · rw [if_neg w, if_neg w, Int.toNat_natCast]
      · rw [x1, if_pos rfl]
        exact ih n W b l (j + 1) (by omega) (by omega) (by omega) kc (q.skip (fun p => x2 (mq.mpr ⟨p.1, p.2.1, p.2.2.1, p.2.2.2.1⟩))) hl
