/-! a rate is read from its first byte -/
theorem readL {o ob on : Nat} {b : Nat → Int} {sz : Nat} {bd : Prop} {V U : VV} (ho : o ≠ 25) (hbd : bd → ∀ x, -1000000000 ≤ ltV V x ∧ ltV V x ≤ 1000000000) (B : BY o ob on b sz V) (BU : BM b sz U) (hs : sz ≤ 100) : Two (Option.bind (f_Tape_start o ob on V) (fun q1 => (RR o ob on 12).1 q1 0)) (f_Mo_readRate U) (RPOST o sz bd V U) := by
  obtain ⟨f, t, k, tk⟩ := tokEx b (p := 0) (sz := sz) (by omega)
  unfold f_Tape_start f_Mo_readRate
  have B2 : BY o ob on b sz (up (up (up V o 7 0) o 4 0) o 5 (-1)) := by
    obtain ⟨b1, b2, b3, b4, b5⟩ := B
    refine ⟨b1, ?_, b3, b4, fun i hi => ?_⟩
    · rw [up_nf _ _ (by omega), up_nf _ _ (by omega), up_nf _ _ (by omega)]; exact b2
    · rw [up_na _ _ _ (fun e => b1 e.symm), up_na _ _ _ (fun e => b1 e.symm), up_na _ _ _ (fun e => b1 e.symm)]
      exact b5 i hi
  have BU2 : BM b sz (up (up (up (up (up U 62 43 0) 62 108 0) 62 109 0) 62 110 0) 62 111 0) := by
    refine ⟨?_, BU.2.1, fun i hi => ?_⟩
    · rw [up_nf _ _ (by omega), up_nf _ _ (by omega), up_nf _ _ (by omega), up_nf _ _ (by omega), up_nf _ _ (by omega)]; exact BU.1
    · rw [up_na _ _ _ (by omega), up_na _ _ _ (by omega), up_na _ _ _ (by omega), up_na _ _ _ (by omega), up_na _ _ _ (by omega)]; exact BU.2.2 i hi
  have cf : CF o V (up (up (up V o 7 0) o 4 0) o 5 (-1)) := ⟨fun i hi => by rw [up_na _ _ _ hi, up_na _ _ _ hi, up_na _ _ _ hi], by rw [up_nf _ _ (by omega), up_nf _ _ (by omega), up_nf _ _ (by omega)]⟩
  have fx : FX U (up (up (up (up (up U 62 43 0) 62 108 0) 62 109 0) 62 110 0) 62 111 0) := by
    refine ((((?_ : FX U (up U 62 43 0)).w (by omega)).w (by omega)).w (by omega)).w (by omega)
    exact ⟨fun r a _ _ _ => up_na _ _ _ a, fun c a _ => up_nf _ _ (by omega), fun k _ => ⟨by rw [up_na _ _ _ (by omega)], by rw [up_na _ _ _ (by omega)]⟩⟩
  have c4 : (up (up (up V o 7 0) o 4 0) o 5 (-1)) o 4 = 0 := by rw [up_nf _ _ (by omega), up_eq]
  have c5 : (up (up (up V o 7 0) o 4 0) o 5 (-1)) o 5 = -1 := up_eq _ _ _ _
  have c7 : (up (up (up V o 7 0) o 4 0) o 5 (-1)) o 7 = ((0 : Nat) : Int) := by rw [up_nf _ _ (by omega), up_nf _ _ (by omega), up_eq]; rfl
  have u43 : (up (up (up (up (up U 62 43 0) 62 108 0) 62 109 0) 62 110 0) 62 111 0) 62 43 = ((0 : Nat) : Int) := by rw [up_nf _ _ (by omega), up_nf _ _ (by omega), up_nf _ _ (by omega), up_nf _ _ (by omega), up_eq]; rfl
  have u108 : (up (up (up (up (up U 62 43 0) 62 108 0) 62 109 0) 62 110 0) 62 111 0) 62 108 = 0 := by rw [up_nf _ _ (by omega), up_nf _ _ (by omega), up_nf _ _ (by omega), up_eq]
  have u109 : (up (up (up (up (up U 62 43 0) 62 108 0) 62 109 0) 62 110 0) 62 111 0) 62 109 = 0 := by rw [up_nf _ _ (by omega), up_nf _ _ (by omega), up_eq]
  have u110 : (up (up (up (up (up U 62 43 0) 62 108 0) 62 109 0) 62 110 0) 62 111 0) 62 110 = 0 := by rw [up_nf _ _ (by omega), up_eq]
  have u111 : (up (up (up (up (up U 62 43 0) 62 108 0) 62 109 0) 62 110 0) 62 111 0) 62 111 = 0 := up_eq _ _ _ _
  generalize up (up (up V o 7 0) o 4 0) o 5 (-1) = VA at *
  generalize up (up (up (up (up U 62 43 0) 62 108 0) 62 109 0) 62 110 0) 62 111 0 = UA at *
  obtain ⟨W, eW, w1, w2⟩ := tokC tk B2 c7
  obtain ⟨X, eX, x1, x2⟩ := nextM tk BU2 u43
  rw [eW, eX, obs, obs, obs]
  have w4 := w1.2 4 (by omega) (by omega) (by omega) (by omega)
  have w5 := w1.2 5 (by omega) (by omega) (by omega) (by omega)
  have at1 : AT o ob on b sz W X := ⟨fun _ => by rw [w5]; exact c5, 0, f, t, k, tk, B2.fr w1, BU2.fr x1, w2, x2⟩
  have ps := at1.pos
  have r1 : RST o ob on b sz W X [] [] 0 0 := ⟨at1, by rw [w4]; exact c4, ⟨by rw [x1.2 108 (by omega)]; exact u108, by decide, fun i h => absurd h (Nat.not_lt_zero _)⟩, ⟨trivial, by rw [x1.2 110 (by omega)]; exact u110⟩, by rw [x1.2 109 (by omega)]; exact u109, by rw [x1.2 111 (by omega)]; exact u111, by show ((0 : Nat) : Int) ≤ _; omega, hs⟩
  exact rateL ho hbd ⟨r1, cf.tr w1.cf, fx.tr x1.fx, by rw [FU_up]; omega⟩
/-- how long a kept rate's code is, and what it gives -/
theorem RATS.run {V U : VV} {bd : Prop} (r : RATS V U) (hbd : bd → ∀ x, -1000000000 ≤ ltV V x ∧ ltV V x ≤ 1000000000) : Sm (Option.bind (f_Tape_start 26 27 100 V) (fun q1 => (RR 26 27 100 12).1 q1 0)) (fun q => CF 26 V q.1 ∧ ∃ l : List (Int × Int), CD U 0 l ∧ l.length ≤ 100 ∧ (bd → runC (ltV V) l [] = some [q.2] ∧ -1000000000 ≤ q.2 ∧ q.2 ≤ 1000000000)) := by
  obtain ⟨Ug, Ug', a, b, c, d, e, f⟩ := r
  have B : BY 26 27 100 (fun i => V 27 i) (V 26 1).toNat V := ⟨by decide, by omega, by omega, by decide, fun i hi => ⟨rfl, (c i (by omega)).2⟩⟩
  have BU : BM (fun i => V 27 i) (V 26 1).toNat Ug := ⟨by omega, by omega, fun i hi => c i (by omega)⟩
  obtain ⟨q, z, eq, ez, h1, h2, h3⟩ := readL (bd := bd) (by decide) hbd B BU (by omega)
  rw [d] at ez
  cases ez
  rcases h3 with ⟨-, k1, k2, k3, l, em, hl, vb⟩ | ⟨k1, -⟩
  · have em1 : Ug' 62 108 = (l.length : Int) := em.1
    refine ⟨q, eq, h1, l, ?_, by omega, fun hb => ?_⟩
    · have key : ∀ (p : List (Int × Int)) (i : Nat), i + p.length = l.length → (∀ (j : Nat) (h : j < p.length), l[i + j]? = some p[j]) → CD U i p := by
        intro p
        induction p with
        | nil =>
          intro i hi _
          show U 62 105 = (i : Int)
          have hi' : i + 0 = l.length := hi
          rw [e, em1]
          omega
        | cons x p ih =>
          intro i hi hj
          obtain ⟨c0, x0⟩ := x
          have hi' : i + (p.length + 1) = l.length := hi
          have il : i < l.length := by omega
          have h0 := hj 0 (by show 0 < p.length + 1; omega)
          have h0' : l[i]? = some (c0, x0) := h0
          rw [List.getElem?_eq_getElem il] at h0'
          have e0 : l[i] = (c0, x0) := Option.some.inj h0'
          have m := em.2.2 i il
          rw [e0] at m
          have fi := f i (by omega)
          dsimp only at m fi
          have gc := vb.1 (c0, x0) (by rw [← e0]; exact List.getElem_mem il)
          refine ⟨fi.1.trans m.1, fi.2.trans m.2, gc.1, gc.2, ih (i + 1) (by omega) (fun j h => ?_)⟩
          have := hj (j + 1) (by show j + 1 < p.length + 1; omega)
          rw [show i + 1 + j = i + (j + 1) by omega]
          exact this
      exact key l 0 (by omega) (fun j h => by rw [Nat.zero_add]; exact List.getElem?_eq_getElem h)
    · have v := vb.2.2 hb
      have := v.1 []
      rw [show opm [] = [] from rfl, List.append_nil] at this
      exact ⟨this, v.2⟩
  · exact absurd rfl k1
