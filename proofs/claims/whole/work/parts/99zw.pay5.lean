theorem pay9 {c : Int} {h : HP} {N v3 : Int} (hN : N ≤ 36) (hv : 1 ≤ v3 ∧ v3 ≤ N) : ∀ (k n m : Nat) (V X : VV) (s : Int) (t : Nat), v3 - t ≤ (k : Int) → k < n → k < m → (t : Int) ≤ v3 → 0 ≤ s ∧ s ≤ 300 * (t : Int) → PST c h N V X → Two (f_Br_pay_9 n V h v3 s (t : Int)) (f_Mo_pay_7 m X v3 s (t : Int)) (PQ c h) := by
  have fin : ∀ (V X : VV) (s : Int), 0 ≤ s ∧ s ≤ 20000 → PST c h N V X → Two (f_Br_pay_14 FU V h v3 s 0 0) (f_Mo_pay_12 FU X v3 s 0 0) (PQ c h) := fun V X s hs p => pay14 hN hv hs 36 FU FU V X 0 0 (by omega) (by decide) (by decide) (by omega) p
  intro k
  induction k with
  | zero =>
    intro n m V X s t e1 e2 e3 e4 e5 p
    cases n with
    | zero => omega
    | succ n =>
      cases m with
      | zero => omega
      | succ m =>
        show Two (if (t : Int) < v3 then _ else f_Br_pay_14 FU V h v3 s 0 0) (if (t : Int) < v3 then _ else f_Mo_pay_12 FU X v3 s 0 0) _
        rw [if_neg (by omega), if_neg (by omega)]
        exact fin V X s (by omega) p
  | succ k ih =>
    intro n m V X s t e1 e2 e3 e4 e5 p
    cases n with
    | zero => omega
    | succ n =>
      cases m with
      | zero => omega
      | succ m =>
        show Two (if (t : Int) < v3 then Option.bind (f_Br_denseOf V (atV V 58 36 (t : Int))) (fun q3 => f_Br_pay_9 n q3.1 h v3 (w32 (s + q3.2)) (w32 ((t : Int) + 1))) else f_Br_pay_14 FU V h v3 s 0 0) (if (t : Int) < v3 then if 0 ≤ (t : Int) ∧ (t : Int) < (36 : Int) then Option.bind (f_Mo_denseOf X (X 122 (t : Int).toNat)) (fun q3 => f_Mo_pay_7 m X v3 (w32 (s + q3)) (w32 ((t : Int) + 1))) else none else f_Mo_pay_12 FU X v3 s 0 0) _
        by_cases g : (t : Int) < v3
        · obtain ⟨d1, d2, d3⟩ := p.2.2.2.1 t (by omega)
          obtain ⟨j, ej⟩ : ∃ j : Nat, V 58 t = (j : Int) := ⟨(V 58 t).toNat, by omega⟩
          rw [if_pos g, if_pos g, atV_in (by omega) (by omega), Int.toNat_natCast, ← d1, ej]
          refine Two.posR (by omega) ?_
          refine Two.bind2 (dens2 p.1 (by have := p.2.1; omega)) (fun q z hq => ?_)
          obtain ⟨q1, q2, q3⟩ := hq
          rw [q1, w32_id (x := s + z) (by omega) (by omega), w32_id (x := (t : Int) + 1) (by omega) (by omega)]
          exact ih n m q.1 X (s + z) (t + 1) (by omega) (by omega) (by omega) (by omega) (by omega) (p.kc q3)
        · rw [if_neg g, if_neg g]
          exact fin V X s (by omega) p
