/-! pending minuses are taken off after an operand -/
theorem wholeL : ∀ (u n : Nat) (U : VV) (L : List (Int × Int)) (rest : List Int) (d : Int), u < n → (rest = [] ∨ ∃ a p, rest = a :: p ∧ a ≠ 2) → PL U (List.replicate u 2 ++ rest) → U 62 110 = ((List.replicate u (2 : Int) ++ rest).length : Int) → (List.replicate u (2 : Int) ++ rest).length ≤ 128 → EM U L → L.length + u ≤ 128 → U 62 109 = d → (u : Int) ≤ d → d ≤ 100 → Sm (f_Mo_whole_0 n U) (fun Y => EM Y (L ++ List.replicate u (2, 0)) ∧ PL Y rest ∧ Y 62 110 = (rest.length : Int) ∧ Y 62 109 = d - u ∧ FE U Y ∧ ∀ k, ¬ (108 ≤ k ∧ k ≤ 110) → Y 62 k = U 62 k) := by
  intro u
  induction u with
  | zero =>
    intro n U L rest d hn hr pl h110 h128 em _ h109 _ _
    cases n with
    | zero => exact absurd hn (Nat.not_lt_zero _)
    | succ n =>
      have fin : Sm (some U) (fun Y => EM Y (L ++ List.replicate 0 (2, 0)) ∧ PL Y rest ∧ Y 62 110 = (rest.length : Int) ∧ Y 62 109 = d - ((0 : Nat) : Int) ∧ FE U Y ∧ ∀ k, ¬ (108 ≤ k ∧ k ≤ 110) → Y 62 k = U 62 k) := Sm.ok ⟨by rw [show List.replicate 0 ((2 : Int), (0 : Int)) = [] from rfl, List.append_nil]; exact em, pl, h110, by omega, FE.rf, fun _ _ => rfl⟩
      have h110' : U 62 110 = (rest.length : Int) := h110
      have h128' : rest.length ≤ 128 := h128
      rcases hr with rfl | ⟨a, p, rfl, ha⟩
      · show Sm (if 0 < (U 62 110) then _ else some U) _
        rw [h110', if_neg (by decide)]
        exact fin
      · have hp : p.length + 1 ≤ 128 := h128'
        have e : w32 (((a :: p).length : Int) - 1) = (p.length : Int) := by
          rw [show (((a :: p).length : Nat) : Int) = (p.length : Int) + 1 from rfl]
          rw [w32_id (by omega) (by omega)]; omega
        have p0 : U 120 p.length = a := pl.1
        show Sm (if 0 < (U 62 110) then if 0 ≤ (w32 ((U 62 110) - 1)) ∧ (w32 ((U 62 110) - 1)) < (128 : Int) then if (U 120 ((w32 ((U 62 110) - 1)).toNat)) = 2 then _ else some U else none else some U) _
        rw [h110', e, Int.toNat_natCast, p0, if_pos (show (0 : Int) < (((a :: p).length : Nat) : Int) by show (0 : Int) < ((p.length + 1 : Nat) : Int); omega), if_pos (by omega), if_neg ha]
        exact fin
  | succ u ih =>
    intro n U L rest d hn hr pl h110 h128 em hl h109 hd hd2
    cases n with
    | zero => exact absurd hn (Nat.not_lt_zero _)
    | succ n =>
      have e0 : List.replicate (u + 1) (2 : Int) ++ rest = 2 :: (List.replicate u 2 ++ rest) := rfl
      rw [e0] at pl h110 h128
      generalize hq : List.replicate u (2 : Int) ++ rest = q at *
      have hp : q.length + 1 ≤ 128 := h128
      have h110' : U 62 110 = (q.length : Int) + 1 := h110
      have e : w32 ((q.length : Int) + 1 - 1) = (q.length : Int) := by rw [w32_id (by omega) (by omega)]; omega
      have p0 : U 120 q.length = 2 := pl.1
      show Sm (if 0 < (U 62 110) then if 0 ≤ (w32 ((U 62 110) - 1)) ∧ (w32 ((U 62 110) - 1)) < (128 : Int) then if (U 120 ((w32 ((U 62 110) - 1)).toNat)) = 2 then Option.bind (f_Mo_emit (up (up U 62 110 (w32 ((U 62 110) - 1))) 62 109 (w32 ((U 62 109) - 1))) 2 0) (fun q4 => f_Mo_whole_0 n q4) else some U else none else some U) _
      rw [h110', e, Int.toNat_natCast, p0, if_pos (by omega), if_pos (by omega), if_pos rfl, h109, w32_id (x := d - 1) (by omega) (by omega)]
      have em2 : EM (up (up U 62 110 (q.length : Int)) 62 109 (d - 1)) L := ⟨by rw [up_nf _ _ (by omega), up_nf _ _ (by omega)]; exact em.1, em.2.1, fun i h => by rw [up_na _ _ _ (show (118 : Nat) ≠ 62 by omega), up_na _ _ _ (show (118 : Nat) ≠ 62 by omega), up_na _ _ _ (show (119 : Nat) ≠ 62 by omega), up_na _ _ _ (show (119 : Nat) ≠ 62 by omega)]; exact em.2.2 i h⟩
      refine Sm.bind (emit1 em2 (by omega)) (fun Y _ hY => ?_)
      obtain ⟨y1, y2, y3, y4⟩ := hY
      have f0 : FE U (up (up U 62 110 (q.length : Int)) 62 109 (d - 1)) := ⟨fun r a _ _ _ => by rw [up_na _ _ _ a, up_na _ _ _ a], fun c b => by rw [up_nf _ _ (by omega), up_nf _ _ (by omega)], fun k _ => ⟨by rw [up_na _ _ _ (by omega), up_na _ _ _ (by omega)], by rw [up_na _ _ _ (by omega), up_na _ _ _ (by omega)]⟩⟩
      have plY : PL Y q := PL.cg (by rw [y4, up_na _ _ _ (by omega), up_na _ _ _ (by omega)]) _ pl.2
      rw [← hq] at plY hp
      refine (ih n Y (L ++ [(2, 0)]) rest (d - 1) (by omega) hr plY (by rw [y3 110 (by omega), up_nf _ _ (by omega), up_eq, ← hq]) (by omega) y1 (by rw [List.length_append]; show L.length + 1 + u ≤ 128; omega) (by rw [y3 109 (by omega), up_eq]) (by omega) (by omega)).imp (fun Z hZ => ⟨?_, hZ.2.1, hZ.2.2.1, by rw [hZ.2.2.2.1]; omega, (f0.tr y2).tr hZ.2.2.2.2.1, fun k hk => by rw [hZ.2.2.2.2.2 k hk, y3 k (by omega), up_nf _ _ (by omega), up_nf _ _ (by omega)]⟩)
      have := hZ.1
      rw [List.append_assoc] at this
      exact this
