/-! what was laid -/
theorem g_laid {c : Int} {V U : VV} {h : HP} {w p j x : Int} (g : G c V h U) (hc : 0 ≤ c ∧ c ≤ 600) : CA c (f_Br_laid V h w p j x) (f_Mo_laid U w p j x) := by
  unfold CA f_Br_laid f_Mo_laid
  by_cases hx : 0 ≤ x ∧ x ≤ 8
  · rw [if_neg (show ¬ isFromV x 0 8 = 0 by rw [isFromV_1 hx.1 hx.2]; omega)]
    refine Two.bind2 (isPav g hc) (fun q z hq => ?_)
    obtain ⟨b1, b2, b3, b4, -⟩ := hq
    rw [b1]
    rcases b2 with z0 | z1
    · rw [z0, if_pos rfl, if_pos rfl]; exact Two.ok ⟨rfl, b3⟩
    · rw [z1, if_neg (show ¬ (1 : Int) = 0 by omega), if_neg (show ¬ (1 : Int) = 0 by omega)]
      obtain ⟨ra, h7, nj⟩ := b4 z1
      have nb := b3.2.2.1.1.1.nJb
      have e13 : z.1 62 13 = nJ q.1.1 := ra.2.2.2.2.1
      rw [b3.2.2.1.1.1.jobs, e13, w32_id (x := nJ q.1.1 - 1) (by omega) (by omega)]
      by_cases hj : 0 ≤ j ∧ j ≤ nJ q.1.1 - 1
      · rw [if_neg (show ¬ isFromV j 0 (nJ q.1.1 - 1) = 0 by rw [isFromV_1 hj.1 hj.2]; omega), if_neg (show ¬ f_Mo_isIn z.1 j 0 (nJ q.1.1 - 1) = 0 by rw [isIn_1 hj.1 hj.2]; omega)]
        obtain ⟨m, rfl⟩ : ∃ m : Nat, j = (m : Int) := ⟨j.toNat, by omega⟩
        refine Two.bind2 (rollG b3 ra h7 nj) (fun Y X hY => ?_)
        obtain ⟨la, r57, nY, h12, gY, -⟩ := hY
        have mj : (m : Int) < nJ q.1.1 := by omega
        have mY : (m : Int) < nJ Y := by omega
        obtain ⟨l1, l2, l3, l4, l5, l6, l7⟩ := id la
        obtain ⟨k1, k2, k3, k4, k5, k6, k7⟩ := l7 m mY
        have at_ : ∀ i : Nat, atV Y i 36 (m : Int) = Y i m := fun i => by rw [atV_in (by omega) (by omega), Int.toNat_natCast]
        have mi : 0 ≤ (m : Int) ∧ (m : Int) < (36 : Int) := by omega
        rw [Int.toNat_natCast]
        have e : x = 0 ∨ x = 1 ∨ x = 2 ∨ x = 3 ∨ x = 4 ∨ x = 5 ∨ x = 6 ∨ x = 7 ∨ x = 8 := by omega
        have ms : ∀ s : Nat, s < 3 → 4 + (s : Int) = x → Two (some ((Y, q.1.2), f_Rolling_missed Y (m : Int) (w32 (x - 4)))) (if 0 ≤ (w32 (x - 4)) ∧ (w32 (x - 4)) < (3 : Int) then if 0 ≤ (w32 ((w32 ((w32 (3 * (m : Int))) + x)) - 4)) ∧ (w32 ((w32 ((w32 (3 * (m : Int))) + x)) - 4)) < (108 : Int) then some (X, w32 ((X 79 ((w32 (x - 4)).toNat)) - (X 112 ((w32 ((w32 ((w32 (3 * (m : Int))) + x)) - 4)).toNat)))) else none else none) (fun q z => q.2 = z.2 ∧ G (c + 1) q.1.1 q.1.2 z.1) := by
          intro s hs e
          obtain ⟨m1, m2⟩ := misC la mY hs
          have b := l5 s hs
          have d := l6 m mY s hs
          rw [w32_id (x := x - 4) (by omega) (by omega), show x - 4 = (s : Int) by omega, w32_id (x := 3 * (m : Int)) (by omega) (by omega), w32_id (x := 3 * (m : Int) + x) (by omega) (by omega), w32_id (x := 3 * (m : Int) + x - 4) (by omega) (by omega)]
          refine Two.posR (by omega) (Two.posR (by omega) (Two.ok ⟨?_, gY⟩))
          rw [m1, Int.toNat_natCast, show (3 * (m : Int) + x - 4).toNat = 3 * m + s by omega, ← b.1, ← d.1]
          unfold mis
          rw [w32_id (by omega) (by omega)]
        rcases e with rfl | rfl | rfl | rfl | rfl | rfl | rfl | rfl | rfl
        · rw [if_pos rfl, if_pos rfl, at_]; exact Two.posR mi (Two.ok ⟨k4, gY⟩)
        · rw [if_neg (show ¬ (1 : Int) = 0 by omega), if_neg (show ¬ (1 : Int) = 0 by omega), if_pos rfl, if_pos rfl]
          rw [at_]; exact Two.posR mi (Two.ok ⟨k2.1, gY⟩)
        · rw [if_neg (show ¬ (2 : Int) = 0 by omega), if_neg (show ¬ (2 : Int) = 0 by omega), if_neg (show ¬ (2 : Int) = 1 by omega), if_neg (show ¬ (2 : Int) = 1 by omega), if_pos rfl, if_pos rfl]
          rw [at_]; exact Two.posR mi (Two.ok ⟨k3.1, gY⟩)
        · rw [if_neg (show ¬ (3 : Int) = 0 by omega), if_neg (show ¬ (3 : Int) = 0 by omega), if_neg (show ¬ (3 : Int) = 1 by omega), if_neg (show ¬ (3 : Int) = 1 by omega), if_neg (show ¬ (3 : Int) = 2 by omega), if_neg (show ¬ (3 : Int) = 2 by omega), if_pos rfl, if_pos rfl]
          refine Two.bind2 (cold2 la mY) (fun a b hab => ?_)
          obtain ⟨d1, d2, d3⟩ := hab
          exact Two.ok ⟨(by dsimp only; rw [d1]), gY.kc d3 (by omega)⟩
        · rw [if_neg (show ¬ (4 : Int) = 0 by omega), if_neg (show ¬ (4 : Int) = 0 by omega), if_neg (show ¬ (4 : Int) = 1 by omega), if_neg (show ¬ (4 : Int) = 1 by omega), if_neg (show ¬ (4 : Int) = 2 by omega), if_neg (show ¬ (4 : Int) = 2 by omega), if_neg (show ¬ (4 : Int) = 3 by omega), if_neg (show ¬ (4 : Int) = 3 by omega), if_pos rfl, if_pos rfl]
          exact ms 0 (by omega) (by omega)
        · rw [if_neg (show ¬ (5 : Int) = 0 by omega), if_neg (show ¬ (5 : Int) = 0 by omega), if_neg (show ¬ (5 : Int) = 1 by omega), if_neg (show ¬ (5 : Int) = 1 by omega), if_neg (show ¬ (5 : Int) = 2 by omega), if_neg (show ¬ (5 : Int) = 2 by omega), if_neg (show ¬ (5 : Int) = 3 by omega), if_neg (show ¬ (5 : Int) = 3 by omega), if_neg (show ¬ (5 : Int) = 4 by omega), if_neg (show ¬ (5 : Int) = 4 by omega), if_pos rfl, if_pos rfl]
          exact ms 1 (by omega) (by omega)
        · rw [if_neg (show ¬ (6 : Int) = 0 by omega), if_neg (show ¬ (6 : Int) = 0 by omega), if_neg (show ¬ (6 : Int) = 1 by omega), if_neg (show ¬ (6 : Int) = 1 by omega), if_neg (show ¬ (6 : Int) = 2 by omega), if_neg (show ¬ (6 : Int) = 2 by omega), if_neg (show ¬ (6 : Int) = 3 by omega), if_neg (show ¬ (6 : Int) = 3 by omega), if_neg (show ¬ (6 : Int) = 4 by omega), if_neg (show ¬ (6 : Int) = 4 by omega), if_neg (show ¬ (6 : Int) = 5 by omega), if_neg (show ¬ (6 : Int) = 5 by omega), if_pos rfl, if_pos rfl]
          exact ms 2 (by omega) (by omega)
        · rw [if_neg (show ¬ (7 : Int) = 0 by omega), if_neg (show ¬ (7 : Int) = 0 by omega), if_neg (show ¬ (7 : Int) = 1 by omega), if_neg (show ¬ (7 : Int) = 1 by omega), if_neg (show ¬ (7 : Int) = 2 by omega), if_neg (show ¬ (7 : Int) = 2 by omega), if_neg (show ¬ (7 : Int) = 3 by omega), if_neg (show ¬ (7 : Int) = 3 by omega), if_neg (show ¬ (7 : Int) = 4 by omega), if_neg (show ¬ (7 : Int) = 4 by omega), if_neg (show ¬ (7 : Int) = 5 by omega), if_neg (show ¬ (7 : Int) = 5 by omega), if_neg (show ¬ (7 : Int) = 6 by omega), if_neg (show ¬ (7 : Int) = 6 by omega), if_pos rfl, if_pos rfl]
          rw [at_]; exact Two.posR mi (Two.ok ⟨r57 m mj, gY⟩)
        · rw [if_neg (show ¬ (8 : Int) = 0 by omega), if_neg (show ¬ (8 : Int) = 0 by omega), if_neg (show ¬ (8 : Int) = 1 by omega), if_neg (show ¬ (8 : Int) = 1 by omega), if_neg (show ¬ (8 : Int) = 2 by omega), if_neg (show ¬ (8 : Int) = 2 by omega), if_neg (show ¬ (8 : Int) = 3 by omega), if_neg (show ¬ (8 : Int) = 3 by omega), if_neg (show ¬ (8 : Int) = 4 by omega), if_neg (show ¬ (8 : Int) = 4 by omega), if_neg (show ¬ (8 : Int) = 5 by omega), if_neg (show ¬ (8 : Int) = 5 by omega), if_neg (show ¬ (8 : Int) = 6 by omega), if_neg (show ¬ (8 : Int) = 6 by omega), if_neg (show ¬ (8 : Int) = 7 by omega), if_neg (show ¬ (8 : Int) = 7 by omega), if_pos rfl, if_pos rfl]
          refine Two.bind2 (dens2 la mY) (fun a b hab => ?_)
          obtain ⟨d1, d2, d3⟩ := hab
          exact Two.ok ⟨d1, gY.kc d3 (by omega)⟩
      · rw [if_pos (isFromV_0.mpr hj), if_pos (isIn_0.mpr hj)]
        exact Two.ok ⟨rfl, b3⟩
  · rw [if_pos (isFromV_0.mpr hx)]
    refine Two.bindR (isPav g hc).toR (fun z hz => ?_)
    obtain ⟨q, -, b1, b2, b3, b4, b5⟩ := hz
    rcases b2 with z0 | z1
    · rw [z0, if_pos rfl]; exact Two.ok ⟨rfl, g.mg b5⟩
    · rw [z1, if_neg (show ¬ (1 : Int) = 0 by omega)]
      obtain ⟨ra, h7, nj⟩ := b4 z1
      refine Two.iteR (fun _ => Two.ok ⟨rfl, g.mg b5⟩) (fun _ => ?_)
      refine Two.bindR (rollG b3 ra h7 nj).toR (fun X hX => ?_)
      obtain ⟨Y, -, -, -, -, -, -, mg⟩ := hX
      rw [if_neg (by omega), if_neg (by omega), if_neg (by omega), if_neg (by omega), if_neg (by omega), if_neg (by omega), if_neg (by omega), if_neg (by omega), if_neg (by omega)]
      exact Two.ok ⟨rfl, g.mg (b5.tr mg)⟩
