/-! rolling: the reference -/
/-- what the reference's rows say beside the class's (after the minute was settled) -/
def RU (V U X : VV) (t : Int) : Prop := (∀ i, ¬ (112 ≤ i ∧ i ≤ 117) → X i = U i) ∧ (∀ j : Nat, (j : Int) < nJ V → ∀ s : Nat, s < 3 → V 56 (3 * j + s) = X 112 (3 * j + s) ∧ (0 ≤ V 56 (3 * j + s) ∧ V 56 (3 * j + s) ≤ 9) ∧ X 113 (3 * j + s) = X 112 (3 * j + s) - (if 0 ≤ X 114 j ∧ X 115 j = (s : Int) then 1 else 0)) ∧ (∀ j : Nat, (j : Int) < nJ V → V 57 j = X 116 j ∧ (-1 ≤ V 57 j ∧ V 57 j ≤ 6000) ∧ ((X 114 j = -1 ∧ V 57 j ≤ t) ∨ (X 114 j = V 57 j ∧ t < V 57 j ∧ 0 ≤ X 115 j ∧ X 115 j < 3))) ∧ ∀ r : Nat, (r : Int) < U 62 33 → V 55 r = X 117 r ∧ -1 ≤ V 55 r ∧ V 55 r ≤ 6000
theorem mr11 {V U X : VV} (f : RF V U) {j s : Nat} {t : Int} (u : RU V U X t) (ht : 0 ≤ t ∧ t ≤ 5000) (hj : (j : Int) < nJ V) (hs : s < 3) (hq : mayQ V t s j ∨ (V 57 j ≤ t ∧ 1 ≤ t - V 32 j ∧ V 56 (3 * j + s) < V 54 s)) (h14 : X 114 j < 0) : ∀ (k n : Nat) (l : Nat), s - l ≤ k → k < n → l ≤ s → (∀ i : Nat, i < l → V 54 i ≤ V 56 (3 * j + i)) → Sm (f_Mo_mayRoll_11 n X (j : Int) (s : Int) t (l : Int)) (fun q => (q = 1 ∧ (∀ i : Nat, i < s → V 54 i ≤ V 56 (3 * j + i)) ∧ V 53 s ≤ mu V t j ∧ mu V t j ≤ V 52 s) ∨ (q = 0 ∧ ¬ ((∀ i : Nat, i < s → V 54 i ≤ V 56 (3 * j + i)) ∧ V 53 s ≤ mu V t j ∧ mu V t j ≤ V 52 s))) := by
  obtain ⟨rs, wm, f1, f2, f3, f4, f5, f6⟩ := id f
  obtain ⟨u0, u1, u2, u3⟩ := u
  have x79 := u0 79 (by omega)
  have fin : (∀ i : Nat, i < s → V 54 i ≤ V 56 (3 * j + i)) → Sm (if 0 ≤ (j : Int) ∧ (j : Int) < (36 : Int) then Option.bind (f_Mo_meanOf X (j : Int) (w32 (t - (X 97 ((j : Int)).toNat)))) (fun q3 => if 0 ≤ (s : Int) ∧ (s : Int) < (3 : Int) then if 0 ≤ (s : Int) ∧ (s : Int) < (3 : Int) then some (f_Mo_isIn X q3 (X 78 ((s : Int)).toNat) (X 77 ((s : Int)).toNat)) else none else none) else none) (fun q => (q = 1 ∧ (∀ i : Nat, i < s → V 54 i ≤ V 56 (3 * j + i)) ∧ V 53 s ≤ mu V t j ∧ mu V t j ≤ V 52 s) ∨ (q = 0 ∧ ¬ ((∀ i : Nat, i < s → V 54 i ≤ V 56 (3 * j + i)) ∧ V 53 s ≤ mu V t j ∧ mu V t j ≤ V 52 s))) := by
    intro hl
    have lt : V 32 j ≤ t := by rcases hq with y | y <;> (first | (have := y.1.1; omega) | (have := y.2.1; omega))
    rw [Int.toNat_natCast, Int.toNat_natCast, meanM f (u0 109 (by omega)) (u0 97 (by omega)) ht hj lt]
    refine Sm.pos (by omega) ?_
    show Sm (if 0 ≤ (s : Int) ∧ (s : Int) < (3 : Int) then _ else none) _
    refine Sm.pos (by omega) (Sm.pos (by omega) (Sm.ok ?_))
    rw [u0 78 (by omega), u0 77 (by omega), ← (f4 s hs).1, ← (f4 s hs).2.1]
    by_cases g : V 53 s ≤ mu V t j ∧ mu V t j ≤ V 52 s
    · exact Or.inl ⟨isIn_1 g.1 g.2, hl, g⟩
    · exact Or.inr ⟨isIn_0.mpr g, fun y => g y.2⟩
  intro k
  induction k with
  | zero =>
    intro n l e1 e2 e3 q
    cases n with
    | zero => omega
    | succ n =>
      show Sm (if (l : Int) < (s : Int) then _ else _) _
      exact Sm.neg (by omega) (fin (fun i hi => q i (by omega)))
  | succ k ih =>
    intro n l e1 e2 e3 q
    cases n with
    | zero => omega
    | succ n =>
      show Sm (if (l : Int) < (s : Int) then if 0 ≤ (w32 ((w32 (3 * (j : Int))) + (l : Int))) ∧ (w32 ((w32 (3 * (j : Int))) + (l : Int))) < (108 : Int) then if 0 ≤ (l : Int) ∧ (l : Int) < (3 : Int) then if (X 113 ((w32 ((w32 (3 * (j : Int))) + (l : Int))).toNat)) < (X 79 ((l : Int)).toNat) then some 0 else f_Mo_mayRoll_11 n X (j : Int) (s : Int) t (w32 ((l : Int) + 1)) else none else none else _) _
      refine Sm.ite (fun g => ?_) (fun g => fin (fun i hi => q i (by omega)))
      have b := u1 j hj l (by omega)
      have c := (f4 l (by omega)).2.2.1
      rw [w32_id (x := 3 * (j : Int)) (by omega) (by omega), w32_id (x := 3 * (j : Int) + (l : Int)) (by omega) (by omega), show (3 * (j : Int) + (l : Int)).toNat = 3 * j + l by omega, Int.toNat_natCast, w32_id (by omega) (by omega), show (l : Int) + 1 = ((l + 1 : Nat) : Int) by omega, b.2.2, if_neg (show ¬ (0 ≤ X 114 j ∧ X 115 j = (l : Int)) from fun y => absurd y.1 (by omega)), x79, ← c, ← b.1]
      refine Sm.pos (by omega) (Sm.pos (by omega) (Sm.ite (fun z => Sm.ok (Or.inr ⟨rfl, fun y => ?_⟩)) (fun z => ih n (l + 1) (by omega) (by omega) (by omega) (fun i hi => ?_))))
      · have := y.1 l (by omega); omega
      · by_cases e : i = l
        · subst e; omega
        · exact q i (by omega)
theorem mayR {V U X : VV} (f : RF V U) {j s : Nat} {t : Int} (u : RU V U X t) (ht : 0 ≤ t ∧ t ≤ 5000) (hj : (j : Int) < nJ V) (hs : s < 3) : Sm (f_Mo_mayRoll X (j : Int) (s : Int) t) (fun q => (q = 1 ∧ mayP V t s j) ∨ (q = 0 ∧ ¬ mayP V t s j)) := by
  obtain ⟨rs, wm, f1, f2, f3, f4, f5, f6⟩ := id f
  obtain ⟨u0, u1, u2, u3⟩ := id u
  obtain ⟨b1, b2, b3, b4, b5, b6⟩ := f5 j hj
  have x97 := u0 97 (by omega)
  have x79 := u0 79 (by omega)
  obtain ⟨c1, c2, c3⟩ := u2 j hj
  have d := u1 j hj s hs
  unfold f_Mo_mayRoll
  rw [Int.toNat_natCast, Int.toNat_natCast, x97, w32_id (x := U 97 j + 1) (by omega) (by omega), w32_id (x := U 97 j + 600) (by omega) (by omega), w32_id (x := 3 * (j : Int)) (by omega) (by omega), w32_id (x := 3 * (j : Int) + (s : Int)) (by omega) (by omega), show (3 * (j : Int) + (s : Int)).toNat = 3 * j + s by omega]
  refine Sm.pos (by omega) (Sm.pos (by omega) (Sm.ite (fun g => Sm.ok (Or.inr ⟨rfl, fun y => ?_⟩)) (fun g => Sm.pos (by omega) (Sm.ite (fun g2 => Sm.pos (by omega) (Sm.pos (by omega) (Sm.ite (fun g3 => ?_) (fun g3 => Sm.ok (Or.inr ⟨rfl, fun y => ?_⟩))))) (fun g2 => Sm.ok (Or.inr ⟨rfl, fun y => ?_⟩))))))
  · have := isIn_0.mp g
    have := y.1
    omega
  · have g' : U 97 j + 1 ≤ t ∧ t ≤ U 97 j + 600 := Classical.byContradiction (fun y => g (isIn_0.mpr y))
    rw [← d.1, x79, ← (f4 s hs).2.2.1] at g3
    refine (mr11 f u ht hj hs (Or.inr ⟨by omega, by omega, g3⟩) g2 3 FU 0 (by omega) (by decide) (by omega) (fun i hi => by omega)).imp (fun q hq => ?_)
    rcases hq with ⟨a, b, c⟩ | ⟨a, b⟩
    · exact Or.inl ⟨a, by omega, by omega, g3, b, c⟩
    · exact Or.inr ⟨a, fun y => b y.2.2.2⟩
  · rw [← d.1, x79, ← (f4 s hs).2.2.1] at g3
    exact g3 y.2.2.1
  · have := y.2.1
    omega
def finM (X : VV) (V : VV) (r : Nat) (t : Int) (s : Nat) (b : Int) : VV := if b = -1 then X else up (up (up (up (up X 112 (3 * b.toNat + s) (X 112 (3 * b.toNat + s) + 1)) 114 b.toNat (t + (V 2 (b % V 1 8).toNat + V 51 r - 1) / V 51 r)) 115 b.toNat (s : Int)) 116 b.toNat (t + (V 2 (b % V 1 8).toNat + V 51 r - 1) / V 51 r)) 117 r (t + (V 2 (b % V 1 8).toNat + V 51 r - 1) / V 51 r)
theorem roM {V U X : VV} (f : RF V U) {r s : Nat} {t : Int} (u : RU V U X t) (ht : 0 ≤ t ∧ t ≤ 5000) (hs : s < 3) (hr : (r : Int) < U 62 33) : ∀ (k n : Nat) (b : Int) (j : Nat), nJ V - (j : Int) ≤ (k : Int) → k < n → (j : Int) ≤ nJ V → Fst (mayP V t s) (mu V t) j b → Sm (f_Mo_rollOne_2 n X (r : Int) t (s : Int) b (j : Int)) (fun Y => ∃ b : Int, Fst (mayP V t s) (mu V t) (nJ V).toNat b ∧ Y = finM X V r t s b) := by
  obtain ⟨rs, wm, f1, f2, f3, f4, f5, f6⟩ := id f
  obtain ⟨u0, u1, u2, u3⟩ := id u
  have x62 := u0 62 (by omega)
  have x63 := u0 63 (by omega)
  have x76 := u0 76 (by omega)
  have x109 := u0 109 (by omega)
  have x97 := u0 97 (by omega)
  have fin : ∀ (b : Int) (j : Nat), (j : Int) ≤ nJ V → ¬ (j : Int) < nJ V → Fst (mayP V t s) (mu V t) j b → Sm (if b < 0 then some X else if (X 62 0) = 0 then none else if 0 ≤ (Int.tmod b (X 62 0)) ∧ (Int.tmod b (X 62 0)) < (12 : Int) then if 0 ≤ (r : Int) ∧ (r : Int) < (6 : Int) then if 0 ≤ (r : Int) ∧ (r : Int) < (6 : Int) then if (X 76 ((r : Int)).toNat) = 0 then none else if 0 ≤ (w32 ((w32 (3 * b)) + (s : Int))) ∧ (w32 ((w32 (3 * b)) + (s : Int))) < (108 : Int) then if 0 ≤ (w32 ((w32 (3 * b)) + (s : Int))) ∧ (w32 ((w32 (3 * b)) + (s : Int))) < (108 : Int) then if 0 ≤ b ∧ b < (36 : Int) then if 0 ≤ b ∧ b < (36 : Int) then if 0 ≤ b ∧ b < (36 : Int) then if 0 ≤ (r : Int) ∧ (r : Int) < (6 : Int) then some (up (up (up (up (up X 112 ((w32 ((w32 (3 * b)) + (s : Int))).toNat) (w32 ((X 112 ((w32 ((w32 (3 * b)) + (s : Int))).toNat)) + 1))) 114 b.toNat (w32 (t + (w32 (Int.tdiv (w32 ((w32 ((X 63 ((Int.tmod b (X 62 0)).toNat)) + (X 76 ((r : Int)).toNat))) - 1)) (X 76 ((r : Int)).toNat)))))) 115 b.toNat (s : Int)) 116 b.toNat (w32 (t + (w32 (Int.tdiv (w32 ((w32 ((X 63 ((Int.tmod b (X 62 0)).toNat)) + (X 76 ((r : Int)).toNat))) - 1)) (X 76 ((r : Int)).toNat)))))) 117 ((r : Int)).toNat (w32 (t + (w32 (Int.tdiv (w32 ((w32 ((X 63 ((Int.tmod b (X 62 0)).toNat)) + (X 76 ((r : Int)).toNat))) - 1)) (X 76 ((r : Int)).toNat)))))) else none else none else none else none else none else none else none else none else none) (fun Y => ∃ b : Int, Fst (mayP V t s) (mu V t) (nJ V).toNat b ∧ Y = finM X V r t s b) := by
    intro b j h1 h2 q
    have ej : j = (nJ V).toNat := by omega
    subst ej
    refine Sm.ite (fun g => Sm.ok ⟨b, q, ?_⟩) (fun g => ?_)
    · have : b = -1 := by rcases q with ⟨x, -⟩ | ⟨m, x, -⟩ <;> omega
      unfold finM; rw [if_pos this]
    · obtain ⟨m, rfl, hm, hP⟩ : ∃ m : Nat, b = (m : Int) ∧ (m : Int) < nJ V ∧ mayP V t s m := by
        rcases id q with ⟨x, -⟩ | ⟨m, x, y, z, -⟩
        · omega
        · exact ⟨m, x, by omega, z⟩
      obtain ⟨sp1, sp2, sp3, sp4, sp5⟩ := rs.split (j := (m : Int)) (by omega) hm
      have e0 : X 62 0 = V 1 8 := by rw [x62]; exact f1.2.2.2.1
      have em : Int.tmod (m : Int) (V 1 8) = (m : Int) % V 1 8 := Int.tmod_eq_emod_of_nonneg (by omega)
      have ln := rs.2.2.2.2.2.2.2.1 ((m : Int) % V 1 8).toNat (by omega)
      obtain ⟨-, v51, v51b⟩ := f3 r hr
      have e63 : X 63 ((m : Int) % V 1 8).toNat = V 2 ((m : Int) % V 1 8).toNat := by rw [x63]; exact f1.2.2.2.2 _ (by omega)
      have e76 : X 76 r = V 51 r := by rw [x76]; exact v51.symm
      obtain ⟨tk1, tk2, tk3⟩ := tk_bd (l := V 2 ((m : Int) % V 1 8).toNat) (v := V 51 r) ln.1 (by omega)
      have d := u1 m hm s hs
      have r12 := rs.1.2
      rw [e0, em, Int.toNat_natCast, Int.toNat_natCast, e63, e76, tk1, w32_id (x := 3 * (m : Int)) (by omega) (by omega), w32_id (x := 3 * (m : Int) + (s : Int)) (by omega) (by omega), show (3 * (m : Int) + (s : Int)).toNat = 3 * m + s by omega, w32_id (x := (V 2 ((m : Int) % V 1 8).toNat + V 51 r - 1) / V 51 r) (by omega) (by omega), w32_id (x := t + (V 2 ((m : Int) % V 1 8).toNat + V 51 r - 1) / V 51 r) (by omega) (by omega), w32_id (x := X 112 (3 * m + s) + 1) (by omega) (by omega)]
      refine Sm.neg (by omega) (Sm.pos (by omega) (Sm.pos (by omega) (Sm.pos (by omega) (Sm.neg (by omega) (Sm.pos (by omega) (Sm.pos (by omega) (Sm.pos (by omega) (Sm.pos (by omega) (Sm.pos (by omega) (Sm.pos (by omega) (Sm.ok ⟨(m : Int), q, ?_⟩)))))))))))
      unfold finM
      rw [if_neg (by omega), Int.toNat_natCast]
  intro k
  induction k with
  | zero =>
    intro n b j e1 e2 e3 q
    cases n with
    | zero => omega
    | succ n =>
      show Sm (if (j : Int) < (X 62 13) then _ else _) _
      exact Sm.neg (by rw [x62]; omega) (fin b j e3 (by omega) q)
  | succ k ih =>
    intro n b j e1 e2 e3 q
    cases n with
    | zero => omega
    | succ n =>
      have nx : ∀ b', Fst (mayP V t s) (mu V t) (j + 1) b' → (j : Int) < nJ V → Sm (f_Mo_rollOne_2 n X (r : Int) t (s : Int) b' (w32 ((j : Int) + 1))) (fun Y => ∃ b : Int, Fst (mayP V t s) (mu V t) (nJ V).toNat b ∧ Y = finM X V r t s b) := by
        intro b' hb' g
        rw [w32_id (by omega) (by omega), show (j : Int) + 1 = ((j + 1 : Nat) : Int) by omega]
        exact ih n b' (j + 1) (by omega) (by omega) (by omega) hb'
      show Sm (if (j : Int) < (X 62 13) then Option.bind (f_Mo_mayRoll X (j : Int) (s : Int) t) (fun q14 => if q14 = 0 then f_Mo_rollOne_2 n X (r : Int) t (s : Int) b (w32 ((j : Int) + 1)) else if b < 0 then f_Mo_rollOne_2 n X (r : Int) t (s : Int) (j : Int) (w32 ((j : Int) + 1)) else if 0 ≤ (j : Int) ∧ (j : Int) < (36 : Int) then Option.bind (f_Mo_meanOf X (j : Int) (w32 (t - (X 97 ((j : Int)).toNat)))) (fun q18 => if 0 ≤ b ∧ b < (36 : Int) then Option.bind (f_Mo_meanOf X b (w32 (t - (X 97 b.toNat)))) (fun q20 => if q18 < q20 then f_Mo_rollOne_2 n X (r : Int) t (s : Int) (j : Int) (w32 ((j : Int) + 1)) else f_Mo_rollOne_2 n X (r : Int) t (s : Int) b (w32 ((j : Int) + 1))) else none) else none) else _) _
      by_cases g : (j : Int) < nJ V
      · rw [if_pos (show (j : Int) < X 62 13 by rw [x62]; omega)]
        refine Sm.bind (mayR f u ht g hs) (fun x _ hx => ?_)
        rcases hx with ⟨x1, x2⟩ | ⟨x1, x2⟩
        · rw [x1, if_neg (by omega)]
          refine Sm.ite (fun hb => ?_) (fun hb => Sm.pos (by omega) ?_)
          · have : b = -1 := by rcases q with ⟨x, -⟩ | ⟨m, x, -⟩ <;> omega
            subst this
            exact nx _ (q.first x2) g
          · obtain ⟨m, rfl, hm, hP⟩ : ∃ m : Nat, b = (m : Int) ∧ m < j ∧ mayP V t s m := by
              rcases id q with ⟨x, -⟩ | ⟨m, x, y, z, -⟩
              · omega
              · exact ⟨m, x, y, z⟩
            have nq := q.next x2
            have l1 := x2.1.1
            have l2 := hP.1.1
            rw [Int.toNat_natCast, Int.toNat_natCast, meanM f x109 x97 ht g (by omega), meanM f x109 x97 ht (by omega) (by omega)]
            show Sm (if 0 ≤ (m : Int) ∧ (m : Int) < (36 : Int) then _ else none) _
            refine Sm.pos (by omega) ?_
            show Sm (if mu V t j < mu V t m then _ else _) _
            refine Sm.ite (fun x4 => nx _ ?_ g) (fun x4 => nx _ ?_ g)
            · rw [if_pos x4] at nq; exact nq
            · rw [if_neg x4] at nq; exact nq
        · rw [x1, if_pos rfl]
          exact nx b (q.skip x2) g
      · rw [if_neg (show ¬ (j : Int) < X 62 13 by rw [x62]; omega)]
        exact fin b j e3 g q
