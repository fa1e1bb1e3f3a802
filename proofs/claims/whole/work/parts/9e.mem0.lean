/-! what holds when both sides have been made -/
def Ug0 : VV := fun i k => if i = 62 then (if k = 40 then 1 else 0) else if i = 80 then (if k = 0 then 116 else 0) else 0
def look0 (z : VV × Int) : Int × Int × Int × Int := (z.2, z.1 62 108, z.1 118 128, z.1 119 128)
set_option maxRecDepth 100000 in
theorem read0 : (f_Mo_readRate Ug0).map look0 = some (0, 1, 1, 0) := by decide +kernel
theorem rats0 : RATS V0 V0 := by
  have e := read0
  cases ez : f_Mo_readRate Ug0 with
  | none => rw [ez] at e; cases e
  | some z =>
    rw [ez] at e
    have e2 : look0 z = (0, 1, 1, 0) := Option.some.inj e
    unfold look0 at e2
    obtain ⟨z1, z2⟩ := z
    dsimp only at e2
    have a1 := congrArg Prod.fst e2
    have a2 := congrArg (fun x => x.2.1) e2
    have a3 := congrArg (fun x => x.2.2.1) e2
    have a4 := congrArg (fun x => x.2.2.2) e2
    dsimp only at a1 a2 a3 a4
    subst a1
    have v26 : V0 26 1 = 1 := rfl
    refine ⟨Ug0, z1, rfl, by rw [v26]; decide, fun i hi => ?_, ez, by rw [a2]; rfl, fun k hk => ?_⟩
    · rw [v26] at hi
      have : i = 0 := by omega
      subst this
      exact ⟨rfl, by decide, by decide⟩
    · rw [a2] at hk
      have : k = 0 := by omega
      subst this
      exact ⟨a3.symm, a4.symm⟩
theorem g_zero : G 0 V0 (hg 0) V0 := by
  have n8 : V0 1 8 = 0 := rfl
  have n9 : V0 1 9 = 0 := rfl
  have nj : nJ V0 = 0 := rfl
  have h24 : ∀ t : Nat, t < 4320 → V0 24 (4320 * 0 + t) = 1 := fun t ht => by
    show (if 4320 * 0 + t < 12960 then (1 : Int) else 0) = 1
    rw [if_pos (by omega)]
  refine ⟨⟨⟨⟨0, by omega, rfl⟩, fun x => absurd (rfl : V0 46 7 = 0) x⟩, ⟨by decide, fun e => absurd e (by decide)⟩, by decide, by decide⟩, by decide, ⟨⟨?_, fun s h s0 s1 => ?_, fun s s0 s1 => ?_, rfl, fun i hi => ?_⟩, ?_, ?_, ⟨by unfold WmOK; decide, by decide⟩, ⟨by decide, by decide, rfl⟩, fun w w0 w1 => ?_⟩, ⟨rfl, by decide, by decide⟩, ⟨⟨rfl, by decide, by decide⟩, fun r hr => ?_, by decide⟩, ⟨rfl, by decide, fun i hi => ?_⟩, ⟨rfl, rfl⟩, rfl, rats0, ⟨Or.inl rfl, fun p p1 p2 => Or.inl ?_⟩⟩
  · refine ⟨by decide, by decide, by decide, by decide, by decide, by decide, by decide, fun i hi => ?_, fun i hi => ?_⟩
    · rw [n8] at hi; omega
    · rw [n9] at hi; omega
  · rw [n8] at s1; omega
  · rw [n8] at s1; omega
  · rw [nj] at hi; omega
  · refine ⟨rfl, rfl, rfl, rfl, rfl, rfl, rfl, fun i hi => ?_, fun i hi => ?_⟩
    · rw [n8] at hi; omega
    · rw [n9] at hi; omega
  · refine ⟨rfl, by decide, rfl, by decide, fun p hp => ?_⟩
    rw [show V0 10 4 = 0 from rfl] at hp
    omega
  · rw [show V0 18 7 = 1 from rfl] at w1
    have : w = ((0 : Nat) : Int) := by omega
    subst this
    refine ha2_of (n := 0) ⟨rfl, rfl, by omega, fun i hi => absurd hi (Nat.not_lt_zero _)⟩ (by omega) (fun t ht => ?_)
    refine ⟨1, 0, 0, 0, ⟨Or.inr rfl, Or.inl rfl, Or.inl rfl, Or.inl rfl⟩, by rw [h24 t ht]; rfl, ⟨fun _ => ⟨fun i hi => absurd hi (Nat.not_lt_zero _), Or.inl (fun i hi => absurd hi (Nat.not_lt_zero _))⟩, fun _ => rfl⟩, ⟨fun x => absurd x (by decide), fun ⟨i, hi, _⟩ => absurd hi (Nat.not_lt_zero _)⟩, ⟨fun x => absurd x (by decide), fun ⟨i, hi, _⟩ => absurd hi (Nat.not_lt_zero _)⟩, ⟨fun x => absurd x (by decide), fun ⟨i, hi, _⟩ => absurd hi (Nat.not_lt_zero _)⟩⟩
  · rw [show V0 62 33 = 0 from rfl] at hr; omega
  · rw [show V0 16 1 = 0 from rfl] at hi; omega
  · have key : ∀ k : Nat, k < 21 → V0 61 k = -2 := by decide
    exact key p.toNat (by omega)
