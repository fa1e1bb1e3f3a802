/-! what the reference has emitted, its pile -/
def EM (U : VV) (L : List (Int × Int)) : Prop := U 62 108 = (L.length : Int) ∧ L.length ≤ 128 ∧ ∀ (i : Nat) (h : i < L.length), U 118 (128 + i) = (L[i]).1 ∧ U 119 (128 + i) = (L[i]).2
def FE (U Y : VV) : Prop := (∀ r, r ≠ 62 → r ≠ 118 → r ≠ 119 → r ≠ 120 → Y r = U r) ∧ (∀ c, ¬ (108 ≤ c ∧ c ≤ 111) → Y 62 c = U 62 c) ∧ ∀ k, k < 128 → Y 118 k = U 118 k ∧ Y 119 k = U 119 k
theorem FE.rf {U : VV} : FE U U := ⟨fun _ _ _ _ _ => rfl, fun _ _ => rfl, fun _ _ => ⟨rfl, rfl⟩⟩
theorem FE.tr {U X Y : VV} (h : FE U X) (h2 : FE X Y) : FE U Y := ⟨fun r a b c d => (h2.1 r a b c d).trans (h.1 r a b c d), fun c a => (h2.2.1 c a).trans (h.2.1 c a), fun k a => ⟨(h2.2.2 k a).1.trans (h.2.2 k a).1, (h2.2.2 k a).2.trans (h.2.2 k a).2⟩⟩
theorem emit1 {U : VV} {L : List (Int × Int)} {c x : Int} (e : EM U L) (hl : L.length < 128) : Sm (f_Mo_emit U c x) (fun Y => EM Y (L ++ [(c, x)]) ∧ FE U Y ∧ (∀ k, k ≠ 108 → Y 62 k = U 62 k) ∧ Y 120 = U 120) := by
  obtain ⟨e1, e2, e3⟩ := e
  unfold f_Mo_emit
  rw [e1, w32_id (x := 128 + (L.length : Int)) (by omega) (by omega), w32_id (x := (L.length : Int) + 1) (by omega) (by omega), if_pos (by omega), if_pos (by omega), show (128 + (L.length : Int)).toNat = 128 + L.length by omega]
  have c8 : ∀ k, (up (up (up U 118 (128 + L.length) c) 119 (128 + L.length) x) 62 108 ((L.length : Int) + 1)) 118 k = if k = 128 + L.length then c else U 118 k := fun k => by
    rw [up_na _ _ _ (show (118 : Nat) ≠ 62 by omega), up_na _ _ _ (show (118 : Nat) ≠ 119 by omega), up_ap, if_pos rfl]
  have c9 : ∀ k, (up (up (up U 118 (128 + L.length) c) 119 (128 + L.length) x) 62 108 ((L.length : Int) + 1)) 119 k = if k = 128 + L.length then x else U 119 k := fun k => by
    rw [up_na _ _ _ (show (119 : Nat) ≠ 62 by omega), up_ap, if_pos rfl, up_na _ _ _ (show (119 : Nat) ≠ 118 by omega)]
  refine Sm.ok ⟨⟨?_, ?_, fun i h => ?_⟩, ⟨fun r a b d _ => by rw [up_na _ _ _ a, up_na _ _ _ d, up_na _ _ _ b], fun k a => by rw [up_nf _ _ (by omega), up_na _ _ _ (by omega), up_na _ _ _ (by omega)], fun k a => ⟨?_, ?_⟩⟩, fun k a => by rw [up_nf _ _ a, up_na _ _ _ (by omega), up_na _ _ _ (by omega)], by rw [up_na _ _ _ (by omega), up_na _ _ _ (by omega), up_na _ _ _ (by omega)]⟩
  · rw [up_eq, List.length_append]; show _ = ((L.length + 1 : Nat) : Int); omega
  · rw [List.length_append]; show L.length + 1 ≤ 128; omega
  · rw [c8, c9]
    by_cases g : i < L.length
    · rw [List.getElem_append_left g, if_neg (by omega), if_neg (by omega)]
      exact e3 i g
    · have ei : i = L.length := by rw [List.length_append] at h; have h' : i < L.length + 1 := h; omega
      subst ei
      rw [List.getElem_append_right (Nat.le_refl _), if_pos rfl, if_pos rfl]
      simp
  · rw [c8, if_neg (by omega)]
  · rw [c9, if_neg (by omega)]
