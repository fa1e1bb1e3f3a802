/-! the law's run -/
theorem law_run (X : Xs) (hX : XOK X) : ∃ (n d : Nat) (M2 : Mm), d ≤ 1300 ∧ run X n d NM 0 ([some (.inr (.inr (.inr 0))), none, none, none], [], (fun _ _ => 0, fun _ _ => 0, [])) = some (M2, some (.inl 1)) ∧ M2.2.2.length ≤ 600000 ∧ ksz M2.2.2 ≤ 7302250 := by
  have hk : (X.1 : Int) - 0 < 6 * ((600 : Nat) : Int) := by have := hX.1; omega
  obtain ⟨n, M, r, e, V, h, hh, rfl, rfl⟩ := law_start (X := X) (d := 41) (Q := LEND) (by
    rw [cm_mm]
    exact law_loop hX (D := 0) 600 0 0 V0 (hg 0) g_zero (by decide) (by decide) (by decide) hk)
  refine ⟨n, 46, mm V h, by decide, e, ?_, ?_⟩
  · obtain ⟨g, h1, rfl⟩ := hh
    exact g_10 (P := fun g => (K0 ++ (hg g).2.2).length ≤ 600000) (by decide +kernel) (by decide +kernel) (by decide +kernel) (by decide +kernel) (by decide +kernel) (by decide +kernel) (by decide +kernel) (by decide +kernel) (by decide +kernel) (by decide +kernel) h1
  · obtain ⟨g, h1, rfl⟩ := hh
    exact g_10 (P := fun g => ksz (K0 ++ (hg g).2.2) ≤ 7302250) (by decide +kernel) (by decide +kernel) (by decide +kernel) (by decide +kernel) (by decide +kernel) (by decide +kernel) (by decide +kernel) (by decide +kernel) (by decide +kernel) (by decide +kernel) h1
