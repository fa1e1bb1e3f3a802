/-! the pile is settled -/
def PL (U : VV) : List Int → Prop
  | [] => True
  | a :: p => U 120 p.length = a ∧ PL U p
theorem PL.cg {U Y : VV} (e : Y 120 = U 120) : ∀ p : List Int, PL U p → PL Y p := by
  intro p
  induction p with
  | nil => intro _; trivial
  | cons a p ih => intro h; exact ⟨by rw [e]; exact h.1, ih h.2⟩
theorem settleL {v : Int} : ∀ (ops : List Int) (n : Nat) (U : VV) (L : List (Int × Int)) (rest : List Int), ops.length < n → (∀ a, a ∈ ops → v ≤ a ∧ a < 20) → (rest = [] ∨ ∃ a p, rest = a :: p ∧ (20 ≤ a ∨ a < v)) → PL U (ops ++ rest) → U 62 110 = ((ops ++ rest).length : Int) → (ops ++ rest).length ≤ 128 → EM U L → L.length + ops.length ≤ 128 → Sm (f_Mo_settleTo_0 n U v) (fun Y => EM Y (L ++ ops.map (fun a => (a, 0))) ∧ PL Y rest ∧ Y 62 110 = (rest.length : Int) ∧ FE U Y ∧ ∀ k, k ≠ 108 → k ≠ 110 → Y 62 k = U 62 k) := by
  intro ops
  induction ops with
  | nil =>
    intro n U L rest hn _ hr pl h110 h128 em _
    cases n with
    | zero => exact absurd hn (Nat.not_lt_zero _)
    | succ n =>
      have fin : Sm (some U) (fun Y => EM Y (L ++ ([] : List Int).map (fun a => (a, 0))) ∧ PL Y rest ∧ Y 62 110 = (rest.length : Int) ∧ FE U Y ∧ ∀ k, k ≠ 108 → k ≠ 110 → Y 62 k = U 62 k) := Sm.ok ⟨by rw [List.map_nil, List.append_nil]; exact em, pl, h110, FE.rf, fun _ _ _ => rfl⟩
      have h110' : U 62 110 = (rest.length : Int) := h110
      have h128' : rest.length ≤ 128 := h128
      rcases hr with rfl | ⟨a, p, rfl, ha⟩
      · show Sm (if 0 < (U 62 110) then _ else some U) _
        rw [h110', if_neg (by decide)]
        exact fin
      · have e : w32 (((a :: p).length : Int) - 1) = (p.length : Int) := by
          rw [show (((a :: p).length : Nat) : Int) = (p.length : Int) + 1 from rfl]
          have hp : p.length + 1 ≤ 128 := h128'
          rw [w32_id (by omega) (by omega)]; omega
        have hp : p.length + 1 ≤ 128 := h128'
        have p0 : U 120 p.length = a := pl.1
        show Sm (if 0 < (U 62 110) then if 0 ≤ (w32 ((U 62 110) - 1)) ∧ (w32 ((U 62 110) - 1)) < (128 : Int) then if (U 120 ((w32 ((U 62 110) - 1)).toNat)) < 20 then if 0 ≤ (w32 ((U 62 110) - 1)) ∧ (w32 ((U 62 110) - 1)) < (128 : Int) then if (U 120 ((w32 ((U 62 110) - 1)).toNat)) < v then some U else _ else none else some U else none else some U) _
        rw [h110', e, Int.toNat_natCast, p0, if_pos (show (0 : Int) < (((a :: p).length : Nat) : Int) by show (0 : Int) < ((p.length + 1 : Nat) : Int); omega), if_pos (by omega)]
        refine Sm.ite (fun g => ?_) (fun _ => fin)
        rw [if_pos (by omega), if_pos (by omega)]
        exact fin
  | cons a ops ih =>
    intro n U L rest hn ho hr pl h110 h128 em hl
    cases n with
    | zero => exact absurd hn (Nat.not_lt_zero _)
    | succ n =>
      have hn' : ops.length + 1 < n + 1 := hn
      have hl' : L.length + (ops.length + 1) ≤ 128 := hl
      have h128' : (ops ++ rest).length + 1 ≤ 128 := h128
      have ha := ho a (List.mem_cons_self)
      have p0 : U 120 (ops ++ rest).length = a := pl.1
      have h110' : U 62 110 = ((ops ++ rest).length : Int) + 1 := h110
      have e : w32 (((ops ++ rest).length : Int) + 1 - 1) = ((ops ++ rest).length : Int) := by rw [w32_id (by omega) (by omega)]; omega
      show Sm (if 0 < (U 62 110) then if 0 ≤ (w32 ((U 62 110) - 1)) ∧ (w32 ((U 62 110) - 1)) < (128 : Int) then if (U 120 ((w32 ((U 62 110) - 1)).toNat)) < 20 then if 0 ≤ (w32 ((U 62 110) - 1)) ∧ (w32 ((U 62 110) - 1)) < (128 : Int) then if (U 120 ((w32 ((U 62 110) - 1)).toNat)) < v then some U else if 0 ≤ (w32 ((U 62 110) - 1)) ∧ (w32 ((U 62 110) - 1)) < (128 : Int) then Option.bind (f_Mo_emit (up U 62 110 (w32 ((U 62 110) - 1))) (U 120 ((w32 ((U 62 110) - 1)).toNat)) 0) (fun q7 => f_Mo_settleTo_0 n q7 v) else none else none else some U else none else some U) _
      rw [h110', e, Int.toNat_natCast, p0, if_pos (by omega), if_pos (by omega), if_pos ha.2, if_pos (by omega), if_neg (by omega), if_pos (by omega)]
      have em2 : EM (up U 62 110 ((ops ++ rest).length : Int)) L := ⟨by rw [up_nf _ _ (by omega)]; exact em.1, em.2.1, fun i h => by rw [up_na _ _ _ (show (118 : Nat) ≠ 62 by omega), up_na _ _ _ (show (119 : Nat) ≠ 62 by omega)]; exact em.2.2 i h⟩
      refine Sm.bind (emit1 em2 (by omega)) (fun Y _ hY => ?_)
      obtain ⟨y1, y2, y3, y4⟩ := hY
      have f0 : FE U (up U 62 110 ((ops ++ rest).length : Int)) := ⟨fun r a _ _ _ => up_na _ _ _ a, fun c b => up_nf _ _ (by omega), fun k _ => ⟨by rw [up_na _ _ _ (by omega)], by rw [up_na _ _ _ (by omega)]⟩⟩
      refine (ih n Y (L ++ [(a, 0)]) rest (by omega) (fun x hx => ho x (List.mem_cons_of_mem _ hx)) hr (PL.cg (by rw [y4, up_na _ _ _ (by omega)]) _ pl.2) (by rw [y3 110 (by omega), up_eq]) (by omega) y1 (by rw [List.length_append]; show L.length + 1 + ops.length ≤ 128; omega)).imp (fun Z hZ => ⟨?_, hZ.2.1, hZ.2.2.1, (f0.tr y2).tr hZ.2.2.2.1, fun k k1 k2 => by rw [hZ.2.2.2.2 k k1 k2, y3 k k1, up_nf _ _ k2]⟩)
      have := hZ.1
      rw [List.append_assoc] at this
      exact this
