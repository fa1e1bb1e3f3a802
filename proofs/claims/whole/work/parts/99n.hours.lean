/-! what the clauses say: hauls, the reference's opening and shutting -/
def HRW (V U : VV) (n : Nat) : Prop := V 18 6 = n ∧ U 62 48 = n ∧ n ≤ 40 ∧ ∀ i : Nat, i < n → (0 ≤ V 19 i ∧ V 19 i ≤ 4) ∧ U 81 i = V 19 i + 1 ∧ (-1 ≤ U 82 i ∧ U 82 i ≤ 2) ∧ (1 ≤ V 19 i → V 20 i = U 82 i) ∧ ((V 19 i = 1 ∨ V 19 i = 2) → V 21 i = U 83 i ∧ 0 ≤ V 21 i ∧ V 21 i ≤ 2) ∧ (V 19 i = 1 → V 22 i = U 85 i ∧ V 23 i = U 84 i ∧ (0 ≤ V 22 i ∧ V 22 i ≤ 4319) ∧ 1 ≤ V 23 i ∧ V 23 i ≤ 120) ∧ ((V 19 i = 2 ∨ V 19 i = 3 ∨ V 19 i = 4) → V 22 i = U 84 i ∧ V 23 i = U 85 i ∧ 0 ≤ V 22 i ∧ V 22 i ≤ V 23 i ∧ V 23 i ≤ 4319)
abbrev hld (V : VV) (i : Nat) (w : Int) : Prop := V 20 i = -1 ∨ V 20 i = w
theorem holdsC {V : VV} {i : Nat} {w : Int} (hi : i < 40) : f_Hours_holds V (i : Int) w = 0 ↔ ¬ hld V i w := by
  unfold f_Hours_holds hld
  rw [atV_in (by omega) (by omega), Int.toNat_natCast]
  split
  · exact ⟨fun h => (by cases h), fun h => by omega⟩
  · split
    · exact ⟨fun h => (by cases h), fun h => by omega⟩
    · exact ⟨fun _ => by omega, fun _ => rfl⟩
theorem HRW.holds {V U : VV} {n i : Nat} {k w : Int} (h : HRW V U n) (hi : i < n) (hk : 1 ≤ k) (hw : 0 ≤ w) : f_Mo_holds U (i : Int) (k + 1) w = some 0 ∧ ¬ (V 19 i = k ∧ hld V i w) ∨ f_Mo_holds U (i : Int) (k + 1) w = some 1 ∧ V 19 i = k ∧ hld V i w := by
  obtain ⟨h1, h2, h3, h4⟩ := h
  obtain ⟨a1, a2, a3, a4, -⟩ := h4 i hi
  have i8 : 0 ≤ (i : Int) ∧ (i : Int) < (80 : Int) := by omega
  unfold f_Mo_holds f_Mo_holds_7 f_Mo_holds_6 hld
  rw [if_pos i8, Int.toNat_natCast, a2]
  by_cases g : V 19 i = k
  · have e20 := a4 (by omega)
    rw [if_pos (by omega), if_pos i8]
    by_cases g2 : U 82 i < 0
    · rw [if_pos g2]; exact Or.inr ⟨rfl, g, by omega⟩
    · rw [if_neg g2, if_pos i8]
      by_cases g3 : U 82 i = w
      · rw [if_pos g3]; exact Or.inr ⟨rfl, g, by omega⟩
      · rw [if_neg g3]; exact Or.inl ⟨rfl, fun x => by omega⟩
  · rw [if_neg (by omega)]; exact Or.inl ⟨rfl, fun x => g x.1⟩
theorem haulL {V U : VV} {n : Nat} {w p t : Int} (h : HRW V U n) (hw : 0 ≤ w) (ht : 0 ≤ t) : ∀ (k n1 n2 i : Nat) (mi ti x : Int), n = i + k → k < n1 → k < n2 → ((x = -1 ∧ mi = 20 ∧ ti = -1) ∨ ∃ j : Nat, x = (j : Int) ∧ j < i ∧ V 19 j = 1 ∧ mi = V 23 j ∧ ti = V 22 j) → ∃ m, 1 ≤ m ∧ m ≤ 120 ∧ f_Hours_haul_1 n1 V w p t mi ti (i : Int) = some m ∧ f_Mo_haulOf_1 n2 U w p t x (i : Int) = some m := by
  obtain ⟨h1, h2, h3, h4⟩ := id h
  intro k
  induction k with
  | zero =>
    intro n1 n2 i mi ti x e e1 e2 hx
    cases n1 with
    | zero => omega
    | succ n1 =>
      cases n2 with
      | zero => omega
      | succ n2 =>
        refine ⟨mi, ?_⟩
        have u1 : f_Hours_haul_1 (n1 + 1) V w p t mi ti (i : Int) = some mi := by
          show (if (i : Int) < (V 18 6) then _ else some mi) = some mi
          rw [if_neg (by omega)]
        have u2 : f_Mo_haulOf_1 (n2 + 1) U w p t x (i : Int) = if x < 0 then some 20 else if 0 ≤ x ∧ x < (80 : Int) then some (U 84 x.toNat) else none := by
          show (if (i : Int) < (U 62 48) then _ else if x < 0 then some 20 else if 0 ≤ x ∧ x < (80 : Int) then some (U 84 x.toNat) else none) = _
          rw [if_neg (by omega)]
        rw [u1, u2]
        rcases hx with ⟨q1, q2, q3⟩ | ⟨j, q1, q2, q3, q4, q5⟩
        · rw [if_pos (by omega), q2]; exact ⟨by omega, by omega, rfl, rfl⟩
        · obtain ⟨-, -, -, -, -, b6, -⟩ := h4 j (by omega)
          have b := b6 q3
          rw [if_neg (by omega), if_pos (by omega), q1, Int.toNat_natCast, ← b.2.1, ← q4]
          exact ⟨by omega, by omega, rfl, rfl⟩
  | succ k ih =>
    intro n1 n2 i mi ti x e e1 e2 hx
    cases n1 with
    | zero => omega
    | succ n1 =>
      cases n2 with
      | zero => omega
      | succ n2 =>
        obtain ⟨a1, a2, a3, a4, a5, a6, a7⟩ := h4 i (by omega)
        have at_ : ∀ r : Nat, atV V r 40 (i : Int) = V r i := fun r => by rw [atV_in (by omega) (by omega), Int.toNat_natCast]
        have i8 : 0 ≤ (i : Int) ∧ (i : Int) < (80 : Int) := by omega
        have hc := holdsC (V := V) (w := w) (i := i) (by omega)
        have hx' : (x = -1 ∧ mi = 20 ∧ ti = -1) ∨ ∃ j : Nat, x = (j : Int) ∧ j < i + 1 ∧ V 19 j = 1 ∧ mi = V 23 j ∧ ti = V 22 j := hx.imp id (fun ⟨j, q1, q2, q3⟩ => ⟨j, q1, by omega, q3⟩)
        have u1 : f_Hours_haul_1 (n1 + 1) V w p t mi ti (i : Int) = f_Hours_haul_1 n1 V w p t (if V 19 i = 1 ∧ V 21 i = p ∧ hld V i w ∧ ¬ t < V 22 i ∧ ¬ V 22 i < ti then V 23 i else mi) (if V 19 i = 1 ∧ V 21 i = p ∧ hld V i w ∧ ¬ t < V 22 i ∧ ¬ V 22 i < ti then V 22 i else ti) ((i + 1 : Nat) : Int) := by
          have b1 : ∀ y z : Int, (if (atV V 19 40 (i : Int)) = 1 then (if (atV V 21 40 (i : Int)) = p then (if (f_Hours_holds V (i : Int) w) = 0 then y else (if t < (atV V 22 40 (i : Int)) then y else (if (atV V 22 40 (i : Int)) < ti then y else z : Int) : Int) : Int) else y : Int) else y : Int) = if V 19 i = 1 ∧ V 21 i = p ∧ hld V i w ∧ ¬ t < V 22 i ∧ ¬ V 22 i < ti then z else y := by
            intro y z
            rw [at_ 19, at_ 21, at_ 22]
            by_cases g1 : V 19 i = 1
            · rw [if_pos g1]
              by_cases g2 : V 21 i = p
              · rw [if_pos g2]
                by_cases g3 : hld V i w
                · rw [if_neg (fun y => hc.mp y g3)]
                  by_cases g4 : t < V 22 i
                  · rw [if_pos g4, if_neg (fun y => y.2.2.2.1 g4)]
                  · rw [if_neg g4]
                    by_cases g5 : V 22 i < ti
                    · rw [if_pos g5, if_neg (fun y => y.2.2.2.2 g5)]
                    · rw [if_neg g5, if_pos ⟨g1, g2, g3, g4, g5⟩]
                · rw [if_pos (hc.mpr g3), if_neg (fun y => g3 y.2.2.1)]
              · rw [if_neg g2, if_neg (fun y => g2 y.2.1)]
            · rw [if_neg g1, if_neg (fun y => g1 y.1)]
          show (if (i : Int) < (V 18 6) then f_Hours_haul_1 n1 V w p t (if (atV V 19 40 (i : Int)) = 1 then (if (atV V 21 40 (i : Int)) = p then (if (f_Hours_holds V (i : Int) w) = 0 then mi else (if t < (atV V 22 40 (i : Int)) then mi else (if (atV V 22 40 (i : Int)) < ti then mi else atV V 23 40 (i : Int) : Int) : Int) : Int) else mi : Int) else mi : Int) (if (atV V 19 40 (i : Int)) = 1 then (if (atV V 21 40 (i : Int)) = p then (if (f_Hours_holds V (i : Int) w) = 0 then ti else (if t < (atV V 22 40 (i : Int)) then ti else (if (atV V 22 40 (i : Int)) < ti then ti else atV V 22 40 (i : Int) : Int) : Int) : Int) else ti : Int) else ti : Int) (w32 ((i : Int) + 1)) else some mi) = _
          rw [if_pos (by omega), b1, b1, at_ 22, at_ 23, w32_id (x := (i : Int) + 1) (by omega) (by omega)]
          rfl
        have u13 : ∀ y : Int, f_Mo_haulOf_13 (f_Mo_haulOf_1 n2) U w p t y (i : Int) = f_Mo_haulOf_1 n2 U w p t y ((i + 1 : Nat) : Int) := fun y => by
          unfold f_Mo_haulOf_13
          rw [w32_id (x := (i : Int) + 1) (by omega) (by omega)]
          rfl
        have u2 : f_Mo_haulOf_1 (n2 + 1) U w p t x (i : Int) = f_Mo_haulOf_1 n2 U w p t (if V 19 i = 1 ∧ V 21 i = p ∧ hld V i w ∧ ¬ t < V 22 i ∧ ¬ V 22 i < ti then (i : Int) else x) ((i + 1 : Nat) : Int) := by
          show (if (i : Int) < (U 62 48) then Option.bind (f_Mo_holds U (i : Int) 2 w) (fun q4 => if q4 = 0 then f_Mo_haulOf_13 (f_Mo_haulOf_1 n2) U w p t x (i : Int) else if 0 ≤ (i : Int) ∧ (i : Int) < (80 : Int) then if (U 83 (i : Int).toNat) = p then if 0 ≤ (i : Int) ∧ (i : Int) < (80 : Int) then if t < (U 85 (i : Int).toNat) then f_Mo_haulOf_13 (f_Mo_haulOf_1 n2) U w p t x (i : Int) else if x < 0 then f_Mo_haulOf_12 (f_Mo_haulOf_1 n2) U w p t (i : Int) else if 0 ≤ (i : Int) ∧ (i : Int) < (80 : Int) then if 0 ≤ x ∧ x < (80 : Int) then if (U 85 (i : Int).toNat) < (U 85 x.toNat) then f_Mo_haulOf_13 (f_Mo_haulOf_1 n2) U w p t x (i : Int) else f_Mo_haulOf_12 (f_Mo_haulOf_1 n2) U w p t (i : Int) else none else none else none else f_Mo_haulOf_13 (f_Mo_haulOf_1 n2) U w p t x (i : Int) else none) else _) = _
          unfold f_Mo_haulOf_12
          rw [if_pos (by omega), if_pos i8, if_pos i8, if_pos i8, Int.toNat_natCast, u13, u13]
          rcases h.holds (k := 1) (w := w) (i := i) (by omega) (by omega) hw with ⟨y1, y2⟩ | ⟨y1, y2, y3⟩
          · rw [show (2 : Int) = 1 + 1 by omega, y1, obs, if_pos rfl, if_neg (fun y => y2 ⟨y.1, y.2.2.1⟩)]
          · have b5 := (a5 (by omega)).1
            have b6 := (a6 y2).1
            rw [show (2 : Int) = 1 + 1 by omega, y1, obs, if_neg (by omega), ← b5, ← b6]
            by_cases g2 : V 21 i = p
            · rw [if_pos g2]
              by_cases g4 : t < V 22 i
              · rw [if_pos g4, if_neg (fun y => y.2.2.2.1 g4)]
              · rw [if_neg g4]
                rcases hx with ⟨q1, q2, q3⟩ | ⟨j, q1, q2, q3, q4, q5⟩
                · rw [if_pos (show x < 0 by omega), if_pos ⟨y2, g2, y3, g4, by have := (a6 y2).2.2.1; omega⟩]
                · have bj := ((h4 j (by omega)).2.2.2.2.2.1 q3).1
                  rw [if_neg (show ¬ x < 0 by omega), if_pos (show 0 ≤ x ∧ x < (80 : Int) by omega), q1, Int.toNat_natCast, ← bj, ← q5]
                  by_cases g5 : V 22 i < ti
                  · rw [if_pos g5, if_neg (fun y => y.2.2.2.2 g5)]
                  · rw [if_neg g5, if_pos ⟨y2, g2, y3, g4, g5⟩]
            · rw [if_neg g2, if_neg (fun y => g2 y.2.1)]
        rw [u1, u2]
        refine ih n1 n2 (i + 1) _ _ _ (by omega) (by omega) (by omega) ?_
        by_cases c : V 19 i = 1 ∧ V 21 i = p ∧ hld V i w ∧ ¬ t < V 22 i ∧ ¬ V 22 i < ti
        · rw [if_pos c, if_pos c, if_pos c]
          exact Or.inr ⟨i, rfl, by omega, c.1, rfl, rfl⟩
        · rw [if_neg c, if_neg c, if_neg c]
          exact hx'
