/-! what a job's mean is, on both sides -/
theorem mb4 {V0 : VV} {j : Nat} (w : WmOK V0) (hj : j < 36) (d0 : 20 ≤ V0 8 j) (d1 : V0 8 j ≤ 260) (t0 : 0 ≤ V0 33 j) (t1 : V0 33 j ≤ 200) {a : Int} (a0 : 0 ≤ a) (a1 : a ≤ 600) : ∀ (k n : Nat) (V : VV) (m : Int), a + 1 - m ≤ (k : Int) → k < n → CO j V0 V → CoolK V j → V 34 j = m - 1 → Sm (f_Cooling_meanBehind_4 n V (j : Int) a m) (fun q => CO j V0 q.1 ∧ CoolK q.1 j ∧ q.2 = mnJ V0 (V0 8 j) (V0 33 j) a.toNat) := by
  have fin : ∀ (V : VV) (m : Int), CO j V0 V → CoolK V j → V 34 j = m - 1 → a < m → Sm (some (V, atV V 36 21636 (w32 ((w32 ((j : Int) * 601)) + a)))) (fun q => CO j V0 q.1 ∧ CoolK q.1 j ∧ q.2 = mnJ V0 (V0 8 j) (V0 33 j) a.toNat) := by
    intro V m co ck hm ha
    refine Sm.ok ⟨co, ck, ?_⟩
    dsimp only
    rw [w32_id (x := (j : Int) * 601) (by omega) (by omega), w32_id (by omega) (by omega), atV_in (by omega) (by omega), show ((j : Int) * 601 + a).toNat = 601 * j + a.toNat by omega, ck.2.2 a.toNat (by omega)]
    unfold mnJ
    rw [co.1 8 (by omega) (by omega) (by omega), co.1 33 (by omega) (by omega) (by omega), co.1 15 (by omega) (by omega) (by omega)]
  intro k
  induction k with
  | zero =>
    intro n V m e1 e2 co ck hm
    cases n with
    | zero => omega
    | succ n =>
      show Sm (if a < m then some (V, atV V 36 21636 (w32 ((w32 ((j : Int) * 601)) + a))) else _) _
      exact Sm.pos (by omega) (fin V m co ck hm (by omega))
  | succ k ih =>
    intro n V m e1 e2 co ck hm
    cases n with
    | zero => omega
    | succ n =>
      show Sm (if a < m then some (V, atV V 36 21636 (w32 ((w32 ((j : Int) * 601)) + a))) else Option.bind (f_Cooling_cool V (j : Int)) (fun q3 => lt_ (setV q3.1 36 21636 (w32 ((w32 ((j : Int) * 601)) + m)) (w32 (Int.tdiv q3.2 5))) (fun q5 => lt_ (setV q5 34 36 (j : Int) m) (fun q6 => f_Cooling_meanBehind_4 n q6 (j : Int) a (w32 (m + 1)))))) _
      refine Sm.ite (fun g => fin V m co ck hm g) (fun g => ?_)
      have f8 : V 8 = V0 8 := co.1 8 (by omega) (by omega) (by omega)
      have f33 : V 33 = V0 33 := co.1 33 (by omega) (by omega) (by omega)
      have f15 : V 15 = V0 15 := co.1 15 (by omega) (by omega) (by omega)
      have wV : WmOK V := by unfold WmOK; rw [f15]; exact w
      have c1 := ck.1
      refine Sm.bind (cool_c wV hj (by rw [f8]; exact d0) (by rw [f8]; exact d1) (by rw [f33]; exact t0) (by rw [f33]; exact t1) ck) (fun q3 _ hq => ?_)
      obtain ⟨q1, q2, q3', q4⟩ := hq
      have em : (V 34 j).toNat + 1 = m.toNat := by omega
      rw [em] at q3' q4
      have cp := wV.cp (dep := V 8 j) (ht := V 33 j) (by rw [f8]; exact d0) (by rw [f8]; exact d1) (by rw [f33]; exact t0) (by rw [f33]; exact t1)
      have b0 := sh_bd cp m.toNat 0 (by omega)
      have b1 := sh_bd cp m.toNat 1 (by omega)
      have b2 := sh_bd cp m.toNat 2 (by omega)
      have b3 := sh_bd cp m.toNat 3 (by omega)
      have b4 := sh_bd cp m.toNat 4 (by omega)
      have em2 : w32 (Int.tdiv q3.2 5) = mnJ V (V 8 j) (V 33 j) m.toNat := by
        rw [q4]
        exact (td5 (by unfold shJ; omega) (by unfold shJ; omega)).2.2
      rw [em2, w32_id (x := (j : Int) * 601) (by omega) (by omega), w32_id (x := (j : Int) * 601 + m) (by omega) (by omega), w32_id (x := m + 1) (by omega) (by omega)]
      refine Sm.lt0 (Sm.lt0 ?_)
      rw [setV_in (by omega) (by omega), setV_in (by omega) (by omega), show ((j : Int) * 601 + m).toNat = 601 * j + m.toNat by omega, show ((j : Int)).toNat = j by omega]
      generalize hz : mnJ V (V 8 j) (V 33 j) m.toNat = z at *
      have co2 : CO j V (up (up q3.1 36 (601 * j + m.toNat) z) 34 j m) := by
        refine ⟨fun i x y z => ?_, fun i hi => ?_, fun i hi => ?_, fun i hi => ?_⟩
        · rw [up_na _ _ _ x, up_na _ _ _ z, q1 i y]
        · rw [up_nf _ _ hi, up_na _ _ _ (by omega), q1 34 (by omega)]
        · rw [up_na _ _ _ (by omega), up_na _ _ _ (by omega), q2 i hi]
        · rw [up_na _ _ _ (by omega), up_nf _ _ (by omega), q1 36 (by omega)]
      refine ih n _ (m + 1) (by omega) (by omega) (co.tr co2) ?_ ?_
      · unfold CoolK shJ mnJ
        rw [co2.1 8 (by omega) (by omega) (by omega), co2.1 33 (by omega) (by omega) (by omega), co2.1 15 (by omega) (by omega) (by omega), up_eq]
        refine ⟨by omega, fun s hs => ?_, fun i hi => ?_⟩
        · rw [up_na _ _ _ (by omega), up_na _ _ _ (by omega)]; exact q3' s hs
        · rw [up_na _ _ _ (by omega)]
          by_cases e : i = m.toNat
          · subst e; rw [up_eq]; exact hz.symm
          · rw [up_nf _ _ (by omega), q1 36 (by omega)]; exact ck.2.2 i (by omega)
      · rw [up_eq]; omega
theorem meanB {V : VV} {j : Nat} (w : WmOK V) (hj : j < 36) (d0 : 20 ≤ V 8 j) (d1 : V 8 j ≤ 260) (t0 : 0 ≤ V 33 j) (t1 : V 33 j ≤ 200) (ck : CoolK V j) (m : Int) : Sm (f_Cooling_meanBehind V (j : Int) m) (fun q => CO j V q.1 ∧ CoolK q.1 j ∧ q.2 = mnJ V (V 8 j) (V 33 j) (max 0 (min 600 m)).toNat) := by
  have c1 := ck.1
  unfold f_Cooling_meanBehind
  rw [atV_in (by omega) (by omega), show ((j : Int)).toNat = j by omega, w32_id (x := V 34 j + 1) (by omega) (by omega)]
  -- what is asked may lie below what is known
  exact mb4 w hj d0 d1 t0 t1 (by omega) (by omega) 601 FU V (V 34 j + 1) (by omega) (by decide) CO.rf ck (by omega)
/-- a job begins to cool -/
def CB (j : Nat) (V0 V : VV) : Prop := (∀ i, i ≠ 32 → i ≠ 33 → i ≠ 34 → i ≠ 35 → i ≠ 36 → V i = V0 i) ∧ (∀ k, k ≠ j → V 32 k = V0 32 k ∧ V 33 k = V0 33 k ∧ V 34 k = V0 34 k) ∧ (∀ m, m < 5 * j ∨ 5 * j + 5 ≤ m → V 35 m = V0 35 m) ∧ ∀ m, m < 601 * j ∨ 601 * j + 601 ≤ m → V 36 m = V0 36 m
theorem CoolK.cb {j k : Nat} {V0 V : VV} (h : CB j V0 V) (hk : k ≠ j) (c : CoolK V0 k) : CoolK V k := by
  obtain ⟨h1, h2, h3, h4⟩ := h
  obtain ⟨c1, c2, c3⟩ := c
  unfold CoolK shJ mnJ
  rw [(h2 k hk).2.2, (h2 k hk).2.1, h1 8 (by omega) (by omega) (by omega) (by omega) (by omega), h1 15 (by omega) (by omega) (by omega) (by omega) (by omega)]
  refine ⟨c1, fun s hs => ?_, fun i hi => ?_⟩
  · rw [h3 _ (by omega)]; exact c2 s hs
  · rw [h4 _ (by omega)]; exact c3 i hi
theorem cb4 {V0 : VV} {j : Nat} (w : WmOK V0) (hj : j < 36) (d0 : 20 ≤ V0 8 j) (d1 : V0 8 j ≤ 260) {mi ht : Int} (t0 : 0 ≤ ht) (t1 : ht ≤ 200) : ∀ (k n : Nat) (V : VV) (s : Int), 5 - s ≤ (k : Int) → k < n → 0 ≤ s → s ≤ 5 → CB j V0 V → V 32 j = mi → V 33 j = ht → V 34 j = 0 → (∀ i : Nat, (i : Int) < s → V 35 (5 * j + i) = ht) → Sm (f_Cooling_begin_4 n V (j : Int) ht s) (fun V => CB j V0 V ∧ V 32 j = mi ∧ V 33 j = ht ∧ CoolK V j) := by
  intro k
  have fin : ∀ (V : VV), CB j V0 V → V 32 j = mi → V 33 j = ht → V 34 j = 0 → (∀ i : Nat, (i : Int) < 5 → V 35 (5 * j + i) = ht) → Sm (lt_ (setV V 36 21636 (w32 ((j : Int) * 601)) ht) (fun q2 => some q2)) (fun V => CB j V0 V ∧ V 32 j = mi ∧ V 33 j = ht ∧ CoolK V j) := by
    intro V cb e1 e2 e3 e4
    obtain ⟨h1, h2, h3, h4⟩ := cb
    refine Sm.lt0 (Sm.ok ?_)
    rw [w32_id (by omega) (by omega), setV_in (by omega) (by omega), show ((j : Int) * 601).toNat = 601 * j by omega]
    refine ⟨⟨fun i a b c d e => by rw [up_na _ _ _ e, h1 i a b c d e], fun k hk => by rw [up_na _ _ _ (by omega), up_na _ _ _ (by omega), up_na _ _ _ (by omega)]; exact h2 k hk, fun m hm => by rw [up_na _ _ _ (by omega), h3 m hm], fun m hm => by rw [up_nf _ _ (by omega), h4 m hm]⟩, by rw [up_na _ _ _ (by omega), e1], by rw [up_na _ _ _ (by omega), e2], ?_⟩
    have f8 : V 8 = V0 8 := h1 8 (by omega) (by omega) (by omega) (by omega) (by omega)
    have f15 : V 15 = V0 15 := h1 15 (by omega) (by omega) (by omega) (by omega) (by omega)
    unfold CoolK shJ mnJ
    rw [up_na _ _ _ (by omega), up_na _ _ _ (by omega), up_na _ _ _ (by omega), up_na _ _ _ (by omega), up_na _ _ _ (by omega), e2, e3, f8, f15]
    refine ⟨by omega, fun s hs => ?_, fun i hi => ?_⟩
    · rw [e4 s (by omega)]; rfl
    · have : i = 0 := by omega
      subst this
      rw [show 601 * j + 0 = 601 * j by omega, up_eq]
      exact (mn_0 (w.cp d0 d1 t0 t1)).symm
  induction k with
  | zero =>
    intro n V s a1 a2 a3 a4 cb e1 e2 e3 e4
    cases n with
    | zero => omega
    | succ n =>
      show Sm (if s < 5 then _ else lt_ (setV V 36 21636 (w32 ((j : Int) * 601)) ht) (fun q2 => some q2)) _
      exact Sm.neg (by omega) (fin V cb e1 e2 e3 (fun i hi => e4 i (by omega)))
  | succ k ih =>
    intro n V s a1 a2 a3 a4 cb e1 e2 e3 e4
    cases n with
    | zero => omega
    | succ n =>
      show Sm (if s < 5 then lt_ (setV V 35 180 (w32 ((w32 ((j : Int) * 5)) + s)) ht) (fun q3 => f_Cooling_begin_4 n q3 (j : Int) ht (w32 (s + 1))) else lt_ (setV V 36 21636 (w32 ((j : Int) * 601)) ht) (fun q2 => some q2)) _
      refine Sm.ite (fun g => Sm.lt0 ?_) (fun g => fin V cb e1 e2 e3 (fun i hi => e4 i (by omega)))
      obtain ⟨h1, h2, h3, h4⟩ := cb
      rw [w32_id (x := (j : Int) * 5) (by omega) (by omega), w32_id (x := (j : Int) * 5 + s) (by omega) (by omega), w32_id (x := s + 1) (by omega) (by omega), setV_in (by omega) (by omega)]
      refine ih n _ (s + 1) (by omega) (by omega) (by omega) (by omega) ⟨fun i a b c d e => by rw [up_na _ _ _ d, h1 i a b c d e], fun k hk => by rw [up_na _ _ _ (by omega), up_na _ _ _ (by omega), up_na _ _ _ (by omega)]; exact h2 k hk, fun m hm => by rw [up_nf _ _ (by omega), h3 m hm], fun m hm => by rw [up_na _ _ _ (by omega), h4 m hm]⟩ (by rw [up_na _ _ _ (by omega), e1]) (by rw [up_na _ _ _ (by omega), e2]) (by rw [up_na _ _ _ (by omega), e3]) (fun i hi => ?_)
      by_cases e : (i : Int) = s
      · rw [show 5 * j + i = ((j : Int) * 5 + s).toNat by omega, up_eq]
      · rw [up_nf _ _ (by omega)]; exact e4 i (by omega)
theorem cbegin {V : VV} {j : Nat} (w : WmOK V) (hj : j < 36) (d0 : 20 ≤ V 8 j) (d1 : V 8 j ≤ 260) {mi ht : Int} (t0 : 0 ≤ ht) (t1 : ht ≤ 200) : Sm (f_Cooling_begin V (j : Int) mi ht) (fun W => CB j V W ∧ W 32 j = mi ∧ W 33 j = ht ∧ CoolK W j) := by
  unfold f_Cooling_begin
  refine Sm.lt0 (Sm.lt0 (Sm.lt0 ?_))
  rw [setV_in (by omega) (by omega), setV_in (by omega) (by omega), setV_in (by omega) (by omega), show ((j : Int)).toNat = j by omega]
  refine cb4 w hj d0 d1 t0 t1 5 FU _ 0 (by omega) (by decide) (by omega) (by omega) ⟨fun i a b c d e => by rw [up_na _ _ _ c, up_na _ _ _ b, up_na _ _ _ a], fun k hk => ⟨?_, ?_, ?_⟩, fun m hm => by rw [up_na _ _ _ (by omega), up_na _ _ _ (by omega), up_na _ _ _ (by omega)], fun m hm => by rw [up_na _ _ _ (by omega), up_na _ _ _ (by omega), up_na _ _ _ (by omega)]⟩ ?_ ?_ ?_ (fun i hi => by omega)
  · rw [up_na _ _ _ (by omega), up_na _ _ _ (by omega), up_nf _ _ hk]
  · rw [up_na _ _ _ (by omega), up_nf _ _ hk, up_na _ _ _ (by omega)]
  · rw [up_nf _ _ hk, up_na _ _ _ (by omega), up_na _ _ _ (by omega)]
  · rw [up_na _ _ _ (by omega), up_na _ _ _ (by omega), up_eq]
  · rw [up_na _ _ _ (by omega), up_eq]
  · rw [up_eq]
