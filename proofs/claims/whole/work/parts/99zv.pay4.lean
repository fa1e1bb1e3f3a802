theorem pay14 {c : Int} {h : HP} {N v3 s : Int} (hN : N ≤ 36) (hv : 1 ≤ v3 ∧ v3 ≤ N) (hs : 0 ≤ s ∧ s ≤ 20000) : ∀ (k n m : Nat) (V X : VV) (tot : Int) (t : Nat), (N : Int) - t ≤ (k : Int) → k < n → k < m → (t : Int) ≤ N → PST c h N V X → Two (f_Br_pay_14 n V h v3 s tot (t : Int)) (f_Mo_pay_12 m X v3 s tot (t : Int)) (PQ c h) := by
  intro k
  induction k with
  | zero =>
    intro n m V X tot t e1 e2 e3 e4 p
    cases n with
    | zero => omega
    | succ n =>
      cases m with
      | zero => omega
      | succ m =>
        have nj := p.2.1
        have la := p.1
        have dj : ∀ _ : Nat, f_Road_jobs V = nJ V := fun _ => p.2.2.2.2.1.2.2.1.1.1.jobs
        show Two (if (t : Int) < (f_Road_jobs V) then _ else some ((V, h), tot)) (if (t : Int) < (X 62 13) then _ else some (X, tot)) _
        rw [dj 0, la.2.2.1.2.2.1, if_neg (by omega), if_neg (by omega)]
        exact Two.ok ⟨rfl, p.2.2.2.2.1⟩
  | succ k ih =>
    intro n m V X tot t e1 e2 e3 e4 p
    cases n with
    | zero => omega
    | succ n =>
      cases m with
      | zero => omega
      | succ m =>
        have l1 : N - ((t + 1 : Nat) : Int) ≤ (k : Int) := by omega
        have l4 : (t : Int) < N → ((t + 1 : Nat) : Int) ≤ N := fun _ => by omega
        have l2 : k < n := by omega
        have l3 : k < m := by omega
        have nj := p.2.1
        have la := p.1
        have dj : ∀ _ : Nat, f_Road_jobs V = nJ V := fun _ => p.2.2.2.2.1.2.2.1.1.1.jobs
        show Two (if (t : Int) < (f_Road_jobs V) then if (t : Int) < v3 then Option.bind (f_Br_denseOf V (atV V 58 36 (t : Int))) (fun q6 => f_Br_pay_21 (f_Br_pay_14 n) q6.1 h v3 s tot (t : Int) (atV V 58 36 (t : Int)) q6.2) else f_Br_pay_21 (f_Br_pay_14 n) V h v3 s tot (t : Int) (atV V 58 36 (t : Int)) (cutV s v3) else some ((V, h), tot)) (if (t : Int) < (X 62 13) then if 0 ≤ (t : Int) ∧ (t : Int) < (36 : Int) then if 0 ≤ (X 122 (t : Int).toNat) ∧ (X 122 (t : Int).toNat) < (36 : Int) then if (t : Int) < v3 then Option.bind (f_Mo_denseOf X (X 122 (t : Int).toNat)) (fun q6 => f_Mo_pay_19 (f_Mo_pay_12 m) X v3 s (t : Int) (X 122 (t : Int).toNat) tot (X 70 ((X 122 (t : Int).toNat).toNat)) q6) else if v3 = 0 then none else f_Mo_pay_19 (f_Mo_pay_12 m) X v3 s (t : Int) (X 122 (t : Int).toNat) tot (X 70 ((X 122 (t : Int).toNat).toNat)) (w32 (Int.tdiv s v3)) else none else none else some (X, tot)) _
        rw [dj 0, la.2.2.1.2.2.1, nj]
        by_cases g : (t : Int) < N
        · obtain ⟨d1, d2, d3⟩ := p.2.2.2.1 t g
          obtain ⟨j, ej⟩ : ∃ j : Nat, V 58 t = (j : Int) := ⟨(V 58 t).toNat, by omega⟩
          rw [if_pos g, if_pos g, atV_in (by omega) (by omega), Int.toNat_natCast, ← d1, ej, Int.toNat_natCast]
          have go : ∀ (W : VV) (d : Int), PST c h N W X → -1000000000 ≤ d ∧ d ≤ 1000000000 → Two (f_Br_pay_21 (f_Br_pay_14 n) W h v3 s tot (t : Int) (j : Int) d) (f_Mo_pay_19 (f_Mo_pay_12 m) X v3 s (t : Int) (j : Int) tot (X 70 j) d) (PQ c h) := fun W d pW hd => by
            have jN : (j : Int) < N := by omega
            refine pay21 (K := f_Br_pay_14 n) (K' := f_Mo_pay_12 m) (t := (t : Int)) pW jN hd (fun W2 Z tot' p2 => ?_)
            have h1 := ih n m W2 Z tot' (t + 1) l1 l2 l3 (l4 g) p2
            rw [w32_id (x := (t : Int) + 1) (by omega) (by omega)]
            exact h1
          refine Two.posR (by omega) (Two.posR (by omega) ?_)
          by_cases g2 : (t : Int) < v3
          · rw [if_pos g2, if_pos g2]
            refine Two.bind2 (dens2 la (by omega)) (fun q z hq => ?_)
            obtain ⟨q1, q2, q3⟩ := hq
            rw [q1]
            exact go q.1 z (p.kc q3) (by omega)
          · rw [if_neg g2, if_neg g2, if_neg (show ¬ v3 = 0 by omega)]
            rw [show cutV s v3 = w32 (Int.tdiv s v3) from if_neg (by omega)]
            refine go V _ p ?_
            have tb := tdiv_bd (a := s) (b := v3) (by omega)
            generalize Int.tdiv s v3 = tq at *
            rw [w32_id (by omega) (by omega)]
            exact tb
        · rw [if_neg g, if_neg g]
          exact Two.ok ⟨rfl, p.2.2.2.2.1⟩
