/-! (4) which job is ordered next, and from which plant -/
theorem up_up {V : VV} {a b : Nat} {x y : Int} : up (up V a b x) a b y = up V a b y := by
  funext i j
  rw [up_ap, up_ap, up_ap]
  by_cases e : i = a
  · simp only [if_pos e]
    by_cases e2 : j = b
    · simp only [if_pos e2]
    · simp only [if_neg e2]
  · simp only [if_neg e]
theorem up_self {V : VV} {a b : Nat} {x : Int} (h : V a b = x) : up V a b x = V := by
  funext i j
  rw [up_ap]
  by_cases e : i = a
  · rw [if_pos e]
    by_cases e2 : j = b
    · rw [if_pos e2, e, e2, h]
    · rw [if_neg e2]
  · rw [if_neg e]
/-- the first job that isn't all ordered -/
def FirstJ (n : Int) (o T : Nat → Int) (j : Nat) : Prop := (j : Int) ≤ n ∧ (∀ i : Nat, i < j → o i = T i) ∧ ((j : Int) < n → o j < T j)
theorem FirstJ.uniq {n : Int} {o T : Nat → Int} {i j : Nat} (h : FirstJ n o T i) (k : FirstJ n o T j) : i = j := by
  obtain ⟨a, b, c⟩ := h
  obtain ⟨a', b', c'⟩ := k
  apply Nat.le_antisymm
  · apply Nat.not_lt.mp; intro z
    have := b j z
    have := c' (by omega)
    omega
  · apply Nat.not_lt.mp; intro z
    have := b' i z
    have := c (by omega)
    omega
theorem nxC {V : VV} {n : Int} {o T : Nat → Int} (hn : n ≤ 36) (hj : f_Road_jobs V = n) (ho : ∀ j : Nat, (j : Int) < n → V 45 j = o j ∧ V 9 j = T j ∧ o j ≤ T j) : ∀ (k m : Nat) (j : Nat), n - (j : Int) ≤ (k : Int) → k < m → (j : Int) ≤ n → (∀ i : Nat, i < j → o i = T i) → Sm (f_Haulage_nextToOrder_0 m (up V 37 6 (j : Int))) (fun q => ∃ j : Nat, FirstJ n o T j ∧ q.1 = up V 37 6 (j : Int) ∧ q.2 = if (j : Int) < n then (j : Int) else -1) := by
  have jb : ∀ x : Int, f_Road_jobs (up V 37 6 x) = n := by
    intro x
    rw [← hj]
    unfold f_Road_jobs
    rw [up_na _ _ _ (by omega)]
  have fin : ∀ j : Nat, FirstJ n o T j → Sm (f_Haulage_nextToOrder_6 (up V 37 6 (j : Int))) (fun q => ∃ j : Nat, FirstJ n o T j ∧ q.1 = up V 37 6 (j : Int) ∧ q.2 = if (j : Int) < n then (j : Int) else -1) := by
    intro j f
    unfold f_Haulage_nextToOrder_6
    refine Sm.ok ⟨j, f, rfl, ?_⟩
    dsimp only
    rw [up_eq, jb]
  intro k
  induction k with
  | zero =>
    intro m j e1 e2 e3 q
    cases m with
    | zero => omega
    | succ m =>
      show Sm (if (up V 37 6 (j : Int) 37 6) < (f_Road_jobs (up V 37 6 (j : Int))) then _ else f_Haulage_nextToOrder_6 (up V 37 6 (j : Int))) _
      rw [up_eq, jb]
      exact Sm.neg (by omega) (fin j ⟨e3, q, fun z => by omega⟩)
  | succ k ih =>
    intro m j e1 e2 e3 q
    cases m with
    | zero => omega
    | succ m =>
      show Sm (if (up V 37 6 (j : Int) 37 6) < (f_Road_jobs (up V 37 6 (j : Int))) then if (atV (up V 37 6 (j : Int)) 45 36 (up V 37 6 (j : Int) 37 6)) < (atV (up V 37 6 (j : Int)) 9 36 (up V 37 6 (j : Int) 37 6)) then f_Haulage_nextToOrder_6 (up V 37 6 (j : Int)) else f_Haulage_nextToOrder_0 m (up (up V 37 6 (j : Int)) 37 6 (w32 ((up V 37 6 (j : Int) 37 6) + 1))) else f_Haulage_nextToOrder_6 (up V 37 6 (j : Int))) _
      rw [up_eq, jb]
      refine Sm.ite (fun g => ?_) (fun g => fin j ⟨e3, q, fun z => by omega⟩)
      obtain ⟨o1, o2, o3⟩ := ho j g
      rw [atV_in (by omega) (by omega), atV_in (by omega) (by omega), up_na _ _ _ (show (45 : Nat) ≠ 37 by omega), up_na _ _ _ (show (9 : Nat) ≠ 37 by omega), show ((j : Int)).toNat = j by omega, o1, o2, up_up, w32_id (by omega) (by omega)]
      refine Sm.ite (fun z => fin j ⟨e3, q, fun _ => z⟩) (fun z => ?_)
      rw [show (j : Int) + 1 = ((j + 1 : Nat) : Int) by omega]
      refine ih m (j + 1) (by omega) (by omega) (by omega) (fun i hi => ?_)
      by_cases e : i = j
      · subst e; omega
      · exact q i (by omega)
theorem nextC {V : VV} {n : Int} {o T : Nat → Int} (hn : n ≤ 36) (hj : f_Road_jobs V = n) (ho : ∀ j : Nat, (j : Int) < n → V 45 j = o j ∧ V 9 j = T j ∧ o j ≤ T j) (h6 : 0 ≤ V 37 6 ∧ V 37 6 ≤ n) (hb : ∀ i : Nat, (i : Int) < V 37 6 → o i = T i) : Sm (f_Haulage_nextToOrder V) (fun q => ∃ j : Nat, FirstJ n o T j ∧ q.1 = up V 37 6 (j : Int) ∧ q.2 = if (j : Int) < n then (j : Int) else -1) := by
  have := nxC hn hj ho 36 FU (V 37 6).toNat (by omega) (by decide) (by omega) (fun i hi => hb i (by omega))
  rw [up_self (by omega)] at this
  exact this
/-- the reference looks from the first job on -/
theorem orM1 {U : VV} {n kk t : Int} {o T : Nat → Int} {Q : VV → Prop} (hn : n ≤ 36) (hj : U 62 13 = n) (ho : ∀ j : Nat, (j : Int) < n → U 94 j = o j ∧ U 70 j = T j ∧ o j ≤ T j) (K : ∀ j : Nat, FirstJ n o T j → Sm (f_Mo_order_6 U kk t (j : Int)) Q) : ∀ (k m : Nat) (j : Nat), n - (j : Int) ≤ (k : Int) → k < m → (j : Int) ≤ n → (∀ i : Nat, i < j → o i = T i) → Sm (f_Mo_order_1 m U kk t (j : Int)) Q := by
  intro k
  induction k with
  | zero =>
    intro m j e1 e2 e3 q
    cases m with
    | zero => omega
    | succ m =>
      show Sm (if (j : Int) < U 62 13 then _ else f_Mo_order_6 U kk t (j : Int)) _
      exact Sm.neg (by omega) (K j ⟨e3, q, fun z => by omega⟩)
  | succ k ih =>
    intro m j e1 e2 e3 q
    cases m with
    | zero => omega
    | succ m =>
      show Sm (if (j : Int) < U 62 13 then if 0 ≤ (j : Int) ∧ (j : Int) < (36 : Int) then if 0 ≤ (j : Int) ∧ (j : Int) < (36 : Int) then if (U 94 ((j : Int)).toNat) = (U 70 ((j : Int)).toNat) then f_Mo_order_1 m U kk t (w32 ((j : Int) + 1)) else f_Mo_order_6 U kk t (j : Int) else none else none else f_Mo_order_6 U kk t (j : Int)) _
      refine Sm.ite (fun g => ?_) (fun g => K j ⟨e3, q, fun z => by omega⟩)
      obtain ⟨o1, o2, o3⟩ := ho j (by omega)
      rw [show ((j : Int)).toNat = j by omega, o1, o2, w32_id (by omega) (by omega)]
      refine Sm.pos (by omega) (Sm.pos (by omega) (Sm.ite (fun z => ?_) (fun z => K j ⟨e3, q, fun _ => by omega⟩)))
      rw [show (j : Int) + 1 = ((j + 1 : Nat) : Int) by omega]
      refine ih m (j + 1) (by omega) (by omega) (by omega) (fun i hi => ?_)
      by_cases e : i = j
      · subst e; exact z
      · exact q i (by omega)
theorem Fst.eq2 {P P2 : Nat → Prop} {c d : Nat → Int} {n : Nat} {b b2 : Int} (h : Fst P c n b) (h2 : Fst P2 d n b2) (hP : ∀ k, k < n → (P k ↔ P2 k)) (o : ∀ k, k < n → c k = d k) : b = b2 := by
  rcases h with ⟨rfl, h⟩ | ⟨m, rfl, a1, a2, a3⟩
  · rcases h2 with ⟨rfl, -⟩ | ⟨m, rfl, b1, b2, -⟩
    · rfl
    · exact absurd ((hP m b1).mpr b2) (h m b1)
  · rcases h2 with ⟨rfl, h2⟩ | ⟨m2, rfl, b1, b2, b3⟩
    · exact absurd ((hP m a1).mp a2) (h2 m a1)
    · have x := a3 m2 b1 ((hP m2 b1).mpr b2)
      have z := b3 m a1 ((hP m a1).mp a2)
      have := o m a1
      have := o m2 b1
      omega
theorem lsC1 {V : VV} {v : Int} (hN : 0 ≤ V 10 4 ∧ V 10 4 ≤ 3) : ∀ (k n : Nat) (b : Int) (m : Nat), V 10 4 - (m : Int) ≤ (k : Int) → k < n → (m : Int) ≤ V 10 4 → Fst (fun k => V 11 k = v) (V 41) m b → Sm (f_Haulage_leastSent_1 n V v b (m : Int)) (fun b => Fst (fun k => V 11 k = v) (V 41) (V 10 4).toNat b) := by
  intro k
  induction k with
  | zero =>
    intro n b m e1 e2 e3 q
    cases n with
    | zero => omega
    | succ n =>
      show Sm (if (m : Int) < V 10 4 then _ else some b) _
      exact Sm.neg (by omega) (Sm.ok (by rw [show (V 10 4).toNat = m by omega]; exact q))
  | succ k ih =>
    intro n b m e1 e2 e3 q
    cases n with
    | zero => omega
    | succ n =>
      show Sm (if (m : Int) < V 10 4 then f_Haulage_leastSent_1 n V v (if (atV V 11 3 (m : Int)) = v then (if b = (-1) then (m : Int) else (if (atV V 41 3 (m : Int)) < (atV V 41 3 b) then (m : Int) else b : Int) : Int) else b : Int) (w32 ((m : Int) + 1)) else some b) _
      refine Sm.ite (fun g => ?_) (fun g => Sm.ok (by rw [show (V 10 4).toNat = m by omega]; exact q))
      rw [w32_id (by omega) (by omega), show (m : Int) + 1 = ((m + 1 : Nat) : Int) by omega, atV_in (V := V) (id := 11) (by omega) (by omega), atV_in (V := V) (id := 41) (i := (m : Int)) (by omega) (by omega), show ((m : Int)).toNat = m by omega]
      refine ih n _ (m + 1) (by omega) (by omega) (by omega) ?_
      split
      · next x1 =>
        split
        · next x3 => subst x3; exact q.first x1
        · next x3 =>
          have : ∃ m' : Nat, b = (m' : Int) ∧ m' < m := by
            rcases q with ⟨e, -⟩ | ⟨m', e, e2, -⟩
            · exact absurd e x3
            · exact ⟨m', e, e2⟩
          obtain ⟨m', rfl, hm'⟩ := this
          rw [atV_in (by omega) (by omega), show ((m' : Int)).toNat = m' by omega]
          exact q.next x1
      · next x1 => exact q.skip x1
theorem lsC {V : VV} {v : Int} (hN : 0 ≤ V 10 4 ∧ V 10 4 ≤ 3) : Sm (f_Haulage_leastSent V v) (fun b => Fst (fun k => V 11 k = v) (V 41) (V 10 4).toNat b) :=
  lsC1 hN 3 FU (-1) 0 (by omega) (by decide) (by omega) Fst.nil
theorem stM1 {U : VV} {p : Nat} (hN : 1 ≤ U 62 22 ∧ U 62 22 ≤ 16) : ∀ (k n : Nat) (s : Int) (m : Nat), U 62 22 - (m : Int) ≤ (k : Int) → k < n → (m : Int) ≤ U 62 22 → s = sm (cntS U p) m → Sm (f_Mo_sentTo_1 n U (p : Int) s (m : Int)) (fun s => s = sm (cntS U p) (U 62 22).toNat) := by
  intro k
  induction k with
  | zero =>
    intro n b m e1 e2 e3 q
    cases n with
    | zero => omega
    | succ n =>
      show Sm (if (m : Int) < U 62 22 then _ else some b) _
      exact Sm.neg (by omega) (Sm.ok (by rw [show (U 62 22).toNat = m by omega]; exact q))
  | succ k ih =>
    intro n b m e1 e2 e3 q
    cases n with
    | zero => omega
    | succ n =>
      have bd0 := sm_nn (f := cntS U p) (n := m) (fun k _ => by unfold cntS; split <;> omega)
      have bd1 := sm_le (f := cntS U p) (B := 1) (n := m) (fun k _ => by unfold cntS; split <;> omega)
      have nx : ∀ x : Int, x = cntS U p m → (m : Int) < U 62 22 → Sm (f_Mo_sentTo_1 n U (p : Int) (w32 (b + x)) (w32 ((m : Int) + 1))) (fun s => s = sm (cntS U p) (U 62 22).toNat) := by
        intro x hx g
        have hx2 : 0 ≤ x ∧ x ≤ 1 := by rw [hx]; unfold cntS; split <;> omega
        rw [w32_id (x := (m : Int) + 1) (by omega) (by omega), w32_id (x := b + x) (by omega) (by omega), show (m : Int) + 1 = ((m + 1 : Nat) : Int) by omega]
        refine ih n _ (m + 1) (by omega) (by omega) (by omega) ?_
        show b + x = sm (cntS U p) m + cntS U p m
        rw [q, hx]
      show Sm (if (m : Int) < U 62 22 then if 0 ≤ (m : Int) ∧ (m : Int) < (16 : Int) then if (f_Mo_isIn U (U 86 ((m : Int)).toNat) 1 3) = 0 then f_Mo_sentTo_1 n U (p : Int) (w32 (b + 0)) (w32 ((m : Int) + 1)) else if 0 ≤ (m : Int) ∧ (m : Int) < (16 : Int) then if (U 89 ((m : Int)).toNat) = (p : Int) then f_Mo_sentTo_1 n U (p : Int) (w32 (b + 1)) (w32 ((m : Int) + 1)) else f_Mo_sentTo_1 n U (p : Int) (w32 (b + 0)) (w32 ((m : Int) + 1)) else none else none else some b) _
      refine Sm.ite (fun g => ?_) (fun g => Sm.ok (by rw [show (U 62 22).toNat = m by omega]; exact q))
      rw [show ((m : Int)).toNat = m by omega]
      refine Sm.pos (by omega) (Sm.ite (fun z => nx 0 ?_ g) (fun z => Sm.pos (by omega) (Sm.ite (fun y => nx 1 ?_ g) (fun y => nx 0 ?_ g))))
      · unfold cntS; rw [if_neg (fun x => isIn_0.mp z x.1)]
      · unfold cntS
        have z2 : 1 ≤ U 86 m ∧ U 86 m ≤ 3 := Classical.byContradiction (fun x => z (isIn_0.mpr x))
        rw [if_pos ⟨z2, y⟩]
      · unfold cntS; rw [if_neg (fun x => y x.2)]
theorem stM {U : VV} {p : Nat} (hN : 1 ≤ U 62 22 ∧ U 62 22 ≤ 16) : f_Mo_sentTo U (p : Int) = some (sm (cntS U p) (U 62 22).toNat) := by
  obtain ⟨q, e, rfl⟩ := stM1 (p := p) hN 16 FU 0 0 (by omega) (by decide) (by omega) rfl
  exact e
theorem pfM1 {U : VV} {v : Int} (hN : 1 ≤ U 62 22 ∧ U 62 22 ≤ 16) (hP : 0 ≤ U 62 17 ∧ U 62 17 ≤ 3) : ∀ (k n : Nat) (b : Int) (m : Nat), U 62 17 - (m : Int) ≤ (k : Int) → k < n → (m : Int) ≤ U 62 17 → Fst (fun k => U 71 k = v) (fun p => sm (cntS U p) (U 62 22).toNat) m b → Sm (f_Mo_plantFor_1 n U v b (m : Int)) (fun b => Fst (fun k => U 71 k = v) (fun p => sm (cntS U p) (U 62 22).toNat) (U 62 17).toNat b) := by
  intro k
  induction k with
  | zero =>
    intro n b m e1 e2 e3 q
    cases n with
    | zero => omega
    | succ n =>
      show Sm (if (m : Int) < U 62 17 then _ else some b) _
      exact Sm.neg (by omega) (Sm.ok (by rw [show (U 62 17).toNat = m by omega]; exact q))
  | succ k ih =>
    intro n b m e1 e2 e3 q
    cases n with
    | zero => omega
    | succ n =>
      have nx : ∀ b', Fst (fun k => U 71 k = v) (fun p => sm (cntS U p) (U 62 22).toNat) (m + 1) b' → (m : Int) < U 62 17 → Sm (f_Mo_plantFor_1 n U v b' (w32 ((m : Int) + 1))) (fun b => Fst (fun k => U 71 k = v) (fun p => sm (cntS U p) (U 62 22).toNat) (U 62 17).toNat b) := by
        intro b' hb' g
        rw [w32_id (by omega) (by omega), show (m : Int) + 1 = ((m + 1 : Nat) : Int) by omega]
        exact ih n b' (m + 1) (by omega) (by omega) (by omega) hb'
      show Sm (if (m : Int) < U 62 17 then if 0 ≤ (m : Int) ∧ (m : Int) < (3 : Int) then if (U 71 ((m : Int)).toNat) = v then if b < 0 then f_Mo_plantFor_1 n U v (m : Int) (w32 ((m : Int) + 1)) else Option.bind (f_Mo_sentTo U (m : Int)) (fun q5 => Option.bind (f_Mo_sentTo U b) (fun q6 => if q5 < q6 then f_Mo_plantFor_1 n U v (m : Int) (w32 ((m : Int) + 1)) else f_Mo_plantFor_1 n U v b (w32 ((m : Int) + 1)))) else f_Mo_plantFor_1 n U v b (w32 ((m : Int) + 1)) else none else some b) _
      refine Sm.ite (fun g => ?_) (fun g => Sm.ok (by rw [show (U 62 17).toNat = m by omega]; exact q))
      rw [show ((m : Int)).toNat = m by omega]
      refine Sm.pos (by omega) (Sm.ite (fun x1 => Sm.ite (fun x3 => nx _ ?_ g) (fun x3 => ?_)) (fun x1 => nx _ (q.skip x1) g))
      · have : b = -1 := by
          rcases q with ⟨e, -⟩ | ⟨m', e, e2, -⟩
          · exact e
          · omega
        subst this
        exact q.first x1
      · have : ∃ m' : Nat, b = (m' : Int) ∧ m' < m := by
          rcases q with ⟨e, -⟩ | ⟨m', e, e2, -⟩
          · omega
          · exact ⟨m', e, e2⟩
        obtain ⟨m', rfl, hm'⟩ := this
        have nq := q.next x1
        rw [stM hN, stM hN]
        show Sm (if sm (cntS U m) (U 62 22).toNat < sm (cntS U m') (U 62 22).toNat then _ else _) _
        refine Sm.ite (fun x4 => nx _ ?_ g) (fun x4 => nx _ ?_ g)
        · rw [if_pos x4] at nq; exact nq
        · rw [if_neg x4] at nq; exact nq
theorem pfM {U : VV} {v : Int} (hN : 1 ≤ U 62 22 ∧ U 62 22 ≤ 16) (hP : 0 ≤ U 62 17 ∧ U 62 17 ≤ 3) : Sm (f_Mo_plantFor U v) (fun b => Fst (fun k => U 71 k = v) (fun p => sm (cntS U p) (U 62 22).toNat) (U 62 17).toNat b) :=
  pfM1 hN hP 3 FU (-1) 0 (by omega) (by decide) (by omega) Fst.nil
