/-! pushing, pending minuses -/
theorem push1 {U : VV} {p : List Int} {a : Int} (pl : PL U p) (h : U 62 110 = (p.length : Int)) (hl : p.length < 128) : Sm (f_Mo_push U a) (fun Y => PL Y (a :: p) ∧ Y 62 110 = ((a :: p).length : Int) ∧ FE U Y ∧ (∀ k, k ≠ 110 → Y 62 k = U 62 k) ∧ ∀ L, EM U L → EM Y L) := by
  have hup : ∀ (q : List Int) (V : VV) (x y : Int), q.length ≤ p.length → PL V q → PL (up (up V 120 p.length x) 62 110 y) q := by
    intro q
    induction q with
    | nil => intro _ _ _ _ _; trivial
    | cons b q ih =>
      intro V x y hq h2
      have hq' : q.length + 1 ≤ p.length := hq
      exact ⟨by rw [up_na _ _ _ (by omega), up_nf _ _ (by omega)]; exact h2.1, ih V x y (by omega) h2.2⟩
  unfold f_Mo_push
  rw [h, if_pos (by omega), Int.toNat_natCast, w32_id (x := (p.length : Int) + 1) (by omega) (by omega)]
  refine Sm.ok ⟨⟨?_, hup p U a _ (Nat.le_refl _) pl⟩, ?_, ⟨fun r a _ _ d => by rw [up_na _ _ _ a, up_na _ _ _ d], fun c b => by rw [up_nf _ _ (by omega), up_na _ _ _ (by omega)], fun k _ => ⟨by rw [up_na _ _ _ (by omega), up_na _ _ _ (by omega)], by rw [up_na _ _ _ (by omega), up_na _ _ _ (by omega)]⟩⟩, fun k hk => by rw [up_nf _ _ hk, up_na _ _ _ (by omega)], fun L em => ⟨?_, em.2.1, fun i hi => ?_⟩⟩
  · rw [up_na _ _ _ (by omega), up_eq]
  · rw [up_eq]; show _ = ((p.length + 1 : Nat) : Int); omega
  · rw [up_nf _ _ (by omega), up_na _ _ _ (by omega)]; exact em.1
  · rw [up_na _ _ _ (show (118 : Nat) ≠ 62 by omega), up_na _ _ _ (show (118 : Nat) ≠ 120 by omega), up_na _ _ _ (show (119 : Nat) ≠ 62 by omega), up_na _ _ _ (show (119 : Nat) ≠ 120 by omega)]; exact em.2.2 i hi
