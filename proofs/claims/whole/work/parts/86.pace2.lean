/-! the pace: class and reference -/
theorem INVR.row {V V2 : VV} {h : HP} (v : INVR V h) (r : ∀ i, i ≠ 0 → i ≠ 58 → i ≠ 59 → i ≠ 60 → i ≠ 61 → V2 i = V i) : INVR V2 h := v.fr (fun i hi => r i (by omega) (by omega) (by omega) (by omega) (by omega)) (by rw [r 18 (by omega) (by omega) (by omega) (by omega) (by omega)]) (by rw [r 18 (by omega) (by omega) (by omega) (by omega) (by omega)])
/-- no world goes: the reference's trial says no -/
theorem goInNo {V U : VV} {p : Int} (s : SETR V U) (h : ¬ (0 < nJ V ∧ KIN V)) : Sm (f_Mo_goInAll U p) (fun z => z.2 = 0 ∧ MG U z.1) := by
  unfold f_Mo_goInAll
  have m0 : MG U (up (up (up U 62 93 0) 62 94 0) 62 95 0) := ((MG.rf.up (by omega)).up (by omega)).up (by omega)
  generalize up (up (up U 62 93 0) 62 94 0) 62 95 0 = U1 at *
  have s1 := s.mg m0
  show Sm (if 0 < f_Mo_manyWorlds U1 then Option.bind (f_Mo_goes U1 0 p) (fun q3 => if q3.2 = 0 then some (q3.1, 0) else _) else some (U1, 1)) _
  have wc := s1.2.2.2.2.1
  rw [wc.2.2]
  refine Sm.pos (by omega) (Sm.bind (goesNo s1 h) (fun z _ hz => ?_))
  rw [hz.1, if_pos rfl]
  exact Sm.ok ⟨rfl, m0.tr hz.2.mg⟩
theorem btr {V : VV} {a b c x y z : Int} (h0 : V 59 0 = a) (h1 : V 59 1 = b) (h2 : V 59 2 = c) (g0 : V 60 0 = x) (g1 : V 60 1 = y) (g2 : V 60 2 = z) : f_Br_isTrialBetter V = some (if a < x ∨ (a = x ∧ (b < y ∨ (b = y ∧ c < z))) then 1 else 0) := by
  have e : ∀ (i n : Nat) (m : Nat), f_Br_isTrialBetter_1 (m + 1) V (i : Int) = (if (i : Int) < 3 then if (atV V 59 3 (i : Int)) = (atV V 60 3 (i : Int)) then f_Br_isTrialBetter_1 m V (w32 ((i : Int) + 1)) else some (if (atV V 59 3 (i : Int)) < (atV V 60 3 (i : Int)) then 1 else 0 : Int) else some 0) := fun _ _ _ => rfl
  have at59 : ∀ i : Nat, i < 3 → atV V 59 3 (i : Int) = V 59 i := fun i hi => by rw [atV_in (by omega) (by omega), Int.toNat_natCast]
  have at60 : ∀ i : Nat, i < 3 → atV V 60 3 (i : Int) = V 60 i := fun i hi => by rw [atV_in (by omega) (by omega), Int.toNat_natCast]
  have k0 := e 0 0 39999
  have k1 := e 1 0 39998
  have k2 := e 2 0 39997
  have k3 := e 3 0 39996
  rw [at59 0 (by omega), at60 0 (by omega), w32_id (by omega) (by omega)] at k0
  rw [at59 1 (by omega), at60 1 (by omega), w32_id (by omega) (by omega)] at k1
  rw [at59 2 (by omega), at60 2 (by omega), w32_id (by omega) (by omega)] at k2
  have e1 : ((0 : Nat) : Int) + 1 = ((1 : Nat) : Int) := by omega
  have e2 : ((1 : Nat) : Int) + 1 = ((2 : Nat) : Int) := by omega
  have e3 : ((2 : Nat) : Int) + 1 = ((3 : Nat) : Int) := by omega
  rw [e1] at k0
  rw [e2] at k1
  rw [e3] at k2
  show f_Br_isTrialBetter_1 (39999 + 1) V ((0 : Nat) : Int) = _
  rw [k0, h0, g0, if_pos (by omega)]
  by_cases a0 : a = x
  · rw [if_pos a0, k1, h1, g1, if_pos (by omega)]
    by_cases a1 : b = y
    · rw [if_pos a1, k2, h2, g2, if_pos (by omega)]
      by_cases a2 : c = z
      · rw [if_pos a2, k3, if_neg (by omega), if_neg (by omega)]
      · rw [if_neg a2]
        by_cases a3 : c < z
        · rw [if_pos a3, if_pos (by omega)]
        · rw [if_neg a3, if_neg (by omega)]
    · rw [if_neg a1]
      by_cases a3 : b < y
      · rw [if_pos a3, if_pos (by omega)]
      · rw [if_neg a3, if_neg (by omega)]
  · rw [if_neg a0]
    by_cases a3 : a < x
    · rw [if_pos a3, if_pos (by omega)]
    · rw [if_neg a3, if_neg (by omega)]
theorem lessE {p a q b r c : Int} : (if (if p < a then 1 else (if p = a then (if q < b then 1 else (if q = b then (if r < c then 1 else 0 : Int) else 0 : Int) : Int) else 0 : Int) : Int) = 0 then (0 : Int) else 1) = if p < a ∨ (p = a ∧ (q < b ∨ (q = b ∧ r < c))) then 1 else 0 := by
  by_cases h1 : p < a
  · rw [if_pos h1, if_neg (by omega), if_pos (by omega)]
  · rw [if_neg h1]
    by_cases h2 : p = a
    · rw [if_pos h2]
      by_cases h3 : q < b
      · rw [if_pos h3, if_neg (by omega), if_pos (by omega)]
      · rw [if_neg h3]
        by_cases h4 : q = b
        · rw [if_pos h4]
          by_cases h5 : r < c
          · rw [if_pos h5, if_neg (by omega), if_pos (by omega)]
          · rw [if_neg h5, if_pos rfl, if_neg (by omega)]
        · rw [if_neg h4, if_pos rfl, if_neg (by omega)]
    · rw [if_neg h2, if_pos rfl, if_neg (by omega)]
/-- class cells that a question may change, settings and all that hangs on them apart -/
def CQ2 (V V2 : VV) : Prop := ∀ i, ¬ (28 ≤ i ∧ i ≤ 48) → i ≠ 59 → i ≠ 60 → i < 123 → (∀ k, ¬ (i = 0 ∧ k = 15) → V2 i k = V i k)
theorem CQ1.q2 {V V2 : VV} (h : CQ1 V V2) : CQ2 V V2 := fun i a b c d k _ => by rw [h i a b c d]
theorem CQ2.tr {V V2 V3 : VV} (h : CQ2 V V2) (h2 : CQ2 V2 V3) : CQ2 V V3 := fun i a b c d k e => (h2 i a b c d k e).trans (h i a b c d k e)
theorem paceL {n0 : Int} (hn : 1 ≤ n0 ∧ n0 ≤ 16) : ∀ (k n m : Nat) (V U : VV) (h : HP) (best a b c p : Int), 21 - p ≤ (k : Int) → k < n → k < m → 1 ≤ p → p ≤ 21 → SETR V U → INVR V h → V 46 2 ≤ 800000 + 3 * p → U 62 22 = n0 → V 10 5 = n0 → (best = -1 ∨ (1 ≤ best ∧ best ≤ 20 ∧ V 60 0 = a ∧ V 60 1 = b ∧ V 60 2 = c)) → Two (f_Br_pace_3 n V h best p) (f_Mo_pace_1 m U best a b c p) (fun q z => q.2 = z.2 ∧ (z.2 = -1 ∨ (1 ≤ z.2 ∧ z.2 ≤ 20)) ∧ INVR q.1.1 q.1.2 ∧ CQ2 V q.1.1 ∧ q.1.1 0 15 = q.2 ∧ MG U z.1 ∧ (V 46 2 ≤ q.1.1 46 2 ∧ q.1.1 46 2 ≤ V 46 2 + 3 * (21 - p))) := by
  have fin : ∀ (V U : VV) (h : HP) (best p : Int), p ≤ 21 → INVR V h → (best = -1 ∨ (1 ≤ best ∧ best ≤ 20)) → Two (some ((up V 0 15 best, h), best)) (some (U, best)) (fun q z => q.2 = z.2 ∧ (z.2 = -1 ∨ (1 ≤ z.2 ∧ z.2 ≤ 20)) ∧ INVR q.1.1 q.1.2 ∧ CQ2 V q.1.1 ∧ q.1.1 0 15 = q.2 ∧ MG U z.1 ∧ (V 46 2 ≤ q.1.1 46 2 ∧ q.1.1 46 2 ≤ V 46 2 + 3 * (21 - p))) := by
    intro V U h best p hp v hb
    refine Two.ok ⟨rfl, hb, v.row (fun i a _ _ _ _ => up_na _ _ _ a), fun i a b c d k e => ?_, by dsimp only; exact up_eq _ _ _ _, MG.rf, ?_⟩
    · dsimp only
      rw [up_ap]
      by_cases i0 : i = 0
      · rw [if_pos i0, if_neg (fun x => e ⟨i0, x⟩), i0]
      · rw [if_neg i0]
    · dsimp only
      rw [up_na _ _ _ (by omega)]; omega
  intro k
  induction k with
  | zero =>
    intro n m V U h best a b c p e1 e2 e3 p0 p1 s v st ht hv hb
    cases n with
    | zero => omega
    | succ n =>
      cases m with
      | zero => omega
      | succ m =>
        show Two (if 20 < p then some ((up V 0 15 best, h), best) else _) (if 20 < p then some (U, best) else _) _
        exact Two.posL (by omega) (Two.posR (by omega) (fin V U h best p p1 v (by omega)))
  | succ k ih =>
    intro n m V U h best a b c p e1 e2 e3 p0 p1 s v st ht hv hb
    cases n with
    | zero => omega
    | succ n =>
      cases m with
      | zero => omega
      | succ m =>
        show Two (if 20 < p then some ((up V 0 15 best, h), best) else Option.bind (f_Br_canBePaved V) (fun q2 => if q2 = 0 then f_Br_pace_3 n V h best (w32 (p + 1)) else Option.bind (f_Br_tryPace V h p) (fun q4 => if q4.2 = 0 then f_Br_pace_3 n q4.1.1 q4.1.2 best (w32 (p + 1)) else if best = (-1) then f_Br_pace_3 n (upR q4.1.1 60 (cpy (q4.1.1 59) (q4.1.1 60) 0 0 3)) q4.1.2 p (w32 (p + 1)) else Option.bind (f_Br_isTrialBetter q4.1.1) (fun q7 => if q7 = 0 then f_Br_pace_3 n q4.1.1 q4.1.2 best (w32 (p + 1)) else f_Br_pace_3 n (upR q4.1.1 60 (cpy (q4.1.1 59) (q4.1.1 60) 0 0 3)) q4.1.2 p (w32 (p + 1)))))) (if 20 < p then some (U, best) else Option.bind (f_Mo_goInAll U p) (fun q2 => if q2.2 = 0 then f_Mo_pace_1 m q2.1 best a b c (w32 (p + 1)) else f_Mo_pace_1 m q2.1 (if best < 0 then p else (if (if (q2.1 62 93) < a then 1 else (if (q2.1 62 93) = a then (if (q2.1 62 94) < b then 1 else (if (q2.1 62 94) = b then (if (q2.1 62 95) < c then 1 else 0 : Int) else 0 : Int) : Int) else 0 : Int) : Int) = 0 then best else p : Int) : Int) (if best < 0 then q2.1 62 93 else (if (if (q2.1 62 93) < a then 1 else (if (q2.1 62 93) = a then (if (q2.1 62 94) < b then 1 else (if (q2.1 62 94) = b then (if (q2.1 62 95) < c then 1 else 0 : Int) else 0 : Int) : Int) else 0 : Int) : Int) = 0 then a else q2.1 62 93 : Int) : Int) (if best < 0 then q2.1 62 94 else (if (if (q2.1 62 93) < a then 1 else (if (q2.1 62 93) = a then (if (q2.1 62 94) < b then 1 else (if (q2.1 62 94) = b then (if (q2.1 62 95) < c then 1 else 0 : Int) else 0 : Int) : Int) else 0 : Int) : Int) = 0 then b else q2.1 62 94 : Int) : Int) (if best < 0 then q2.1 62 95 else (if (if (q2.1 62 93) < a then 1 else (if (q2.1 62 93) = a then (if (q2.1 62 94) < b then 1 else (if (q2.1 62 94) = b then (if (q2.1 62 95) < c then 1 else 0 : Int) else 0 : Int) : Int) else 0 : Int) : Int) = 0 then c else q2.1 62 95 : Int) : Int) (w32 (p + 1)))) _
        refine Two.iteL (fun g => Two.posR g (fin V U h best p p1 v (by omega))) (fun g => Two.negR g ?_)
        rw [w32_id (x := p + 1) (by omega) (by omega)]
        refine Two.bindL (canC s.1 s.2.2.1.2.1) (fun q2 hq2 => ?_)
        rcases hq2 with ⟨c1, c2, c3⟩ | ⟨c1, c2⟩
        · rw [c1, if_neg (by omega)]
          unfold f_Br_tryPace f_Mo_goInAll
          have m0 : MG U (up (up (up U 62 93 0) 62 94 0) 62 95 0) := ((MG.rf.up (by omega)).up (by omega)).up (by omega)
          have z93 : up (up (up U 62 93 0) 62 94 0) 62 95 0 62 93 = 0 := by rw [up_nf _ _ (by omega), up_nf _ _ (by omega), up_eq]
          have z94 : up (up (up U 62 93 0) 62 94 0) 62 95 0 62 94 = 0 := by rw [up_nf _ _ (by omega), up_eq]
          have z95 : up (up (up U 62 93 0) 62 94 0) 62 95 0 62 95 = 0 := up_eq _ _ _ _
          have z22 : up (up (up U 62 93 0) 62 94 0) 62 95 0 62 22 = n0 := by rw [up_nf _ _ (by omega), up_nf _ _ (by omega), up_nf _ _ (by omega)]; exact ht
          generalize up (up (up U 62 93 0) 62 94 0) 62 95 0 = U1 at *
          have wc := s.2.2.2.2.1
          refine Two.bind2 (tryP ⟨p0, by omega⟩ hn 3 FU FU V U1 h 0 0 0 0 (by omega) (by decide) (by decide) (by omega) (by omega) (s.mg m0) v (by omega) c2 c3 z22 hv z93 z94 z95 (by omega) (by omega) (by omega)) (fun q z hq => ?_)
          obtain ⟨a1, a2, a3, a4, a5, a6, a7, a8⟩ := hq
          have ssq := a4.ss
          have hvq : q.1.1 10 5 = n0 := by rw [a4 10 (by omega) (by omega) (by omega) (by omega)]; exact hv
          have mz := m0.tr a6
          have htz : z.1 62 22 = n0 := by rw [mz 62 22 rfl (by omega)]; exact ht
          have nx : ∀ (W : VV) (best' a' b' c' : Int), (∀ i, i ≠ 60 → W i = q.1.1 i) → (best' = -1 ∨ (1 ≤ best' ∧ best' ≤ 20 ∧ W 60 0 = a' ∧ W 60 1 = b' ∧ W 60 2 = c')) → Two (f_Br_pace_3 n W q.1.2 best' (p + 1)) (f_Mo_pace_1 m z.1 best' a' b' c' (p + 1)) (fun q z => q.2 = z.2 ∧ (z.2 = -1 ∨ (1 ≤ z.2 ∧ z.2 ≤ 20)) ∧ INVR q.1.1 q.1.2 ∧ CQ2 V q.1.1 ∧ q.1.1 0 15 = q.2 ∧ MG U z.1 ∧ (V 46 2 ≤ q.1.1 46 2 ∧ q.1.1 46 2 ≤ V 46 2 + 3 * (21 - p))) := by
            intro W best' a' b' c' w0 hb'
            have qW : CQ1 V W := a4.tr (fun i x y w u => w0 i w)
            have w46 : W 46 2 = q.1.1 46 2 := by rw [w0 46 (by omega)]
            refine (ih n m W z.1 q.1.2 best' a' b' c' (p + 1) (by omega) (by omega) (by omega) (by omega) (by omega) ((s.mg mz).ss qW.ss) (a3.row (fun i _ _ _ x _ => w0 i x)) (by omega) htz (by rw [w0 10 (by omega)]; exact hvq) hb').imp (fun q' z' hq' => ?_)
            obtain ⟨b1, b2, b3, b4, b5, b6, b7⟩ := hq'
            exact ⟨b1, b2, b3, qW.q2.tr b4, b5, mz.tr b6, by omega⟩
          rw [a1]
          rcases a2 with z0 | z1
          · rw [z0, if_pos rfl, if_pos rfl]
            refine nx q.1.1 best a b c (fun _ _ => rfl) ?_
            rw [a5]; exact hb
          · rw [z1, if_neg (show ¬ (1 : Int) = 0 by omega), if_neg (show ¬ (1 : Int) = 0 by omega)]
            obtain ⟨t0, t1, t2⟩ := a8 z1
            have cp : ∀ i, i < 3 → upR q.1.1 60 (cpy (q.1.1 59) (q.1.1 60) 0 0 3) 60 i = q.1.1 59 i := by
              intro i hi
              unfold upR cpy
              rw [if_pos rfl, if_pos (by omega), show 0 + (i - 0) = i by omega]
            have c0 : ∀ i, i ≠ 60 → upR q.1.1 60 (cpy (q.1.1 59) (q.1.1 60) 0 0 3) i = q.1.1 i := by
              intro i hi
              funext k
              unfold upR
              rw [if_neg hi]
            by_cases hb1 : best = -1
            · rw [if_pos hb1, if_pos (show best < 0 by omega), if_pos (show best < 0 by omega), if_pos (show best < 0 by omega), if_pos (show best < 0 by omega)]
              exact nx _ p _ _ _ c0 (Or.inr ⟨by omega, by omega, by rw [cp 0 (by omega)]; exact t0, by rw [cp 1 (by omega)]; exact t1, by rw [cp 2 (by omega)]; exact t2⟩)
            · rw [if_neg hb1]
              obtain ⟨h1, h2, h3, h4, h5⟩ : 1 ≤ best ∧ best ≤ 20 ∧ V 60 0 = a ∧ V 60 1 = b ∧ V 60 2 = c := by
                rcases hb with hb | hb
                · exact absurd hb hb1
                · exact hb
              rw [if_neg (show ¬ best < 0 by omega), if_neg (show ¬ best < 0 by omega), if_neg (show ¬ best < 0 by omega), if_neg (show ¬ best < 0 by omega)]
              rw [btr (x := a) (y := b) (z := c) t0 t1 t2 (by rw [a5]; exact h3) (by rw [a5]; exact h4) (by rw [a5]; exact h5)]
              have le := lessE (p := z.1 62 93) (a := a) (q := z.1 62 94) (b := b) (r := z.1 62 95) (c := c)
              refine Two.bindL (P := fun x => x = if z.1 62 93 < a ∨ (z.1 62 93 = a ∧ (z.1 62 94 < b ∨ (z.1 62 94 = b ∧ z.1 62 95 < c))) then 1 else 0) (Sm.ok rfl) (fun x hx => ?_)
              rw [hx]
              by_cases gl : z.1 62 93 < a ∨ (z.1 62 93 = a ∧ (z.1 62 94 < b ∨ (z.1 62 94 = b ∧ z.1 62 95 < c)))
              · rw [if_pos gl] at le
                rw [if_pos gl, if_neg (by omega)]
                have ne : ¬ (if z.1 62 93 < a then 1 else (if z.1 62 93 = a then (if z.1 62 94 < b then 1 else (if z.1 62 94 = b then (if z.1 62 95 < c then 1 else 0 : Int) else 0 : Int) : Int) else 0 : Int) : Int) = 0 := by
                  intro y
                  rw [if_pos y] at le
                  omega
                rw [if_neg ne, if_neg ne, if_neg ne, if_neg ne]
                exact nx _ p _ _ _ c0 (Or.inr ⟨by omega, by omega, by rw [cp 0 (by omega)]; exact t0, by rw [cp 1 (by omega)]; exact t1, by rw [cp 2 (by omega)]; exact t2⟩)
              · rw [if_neg gl] at le
                rw [if_neg gl, if_pos rfl]
                have ne : (if z.1 62 93 < a then 1 else (if z.1 62 93 = a then (if z.1 62 94 < b then 1 else (if z.1 62 94 = b then (if z.1 62 95 < c then 1 else 0 : Int) else 0 : Int) : Int) else 0 : Int) : Int) = 0 := by
                  apply Classical.byContradiction
                  intro y
                  rw [if_neg y] at le
                  omega
                rw [if_pos ne, if_pos ne, if_pos ne, if_pos ne]
                exact nx q.1.1 best a b c (fun _ _ => rfl) (Or.inr ⟨h1, h2, by rw [a5]; exact h3, by rw [a5]; exact h4, by rw [a5]; exact h5⟩)
        · rw [c1, if_pos rfl]
          refine Two.bindR (goInNo s c2) (fun z hz => ?_)
          rw [hz.1, if_pos rfl]
          refine (ih n m V z.1 h best a b c (p + 1) (by omega) (by omega) (by omega) (by omega) (by omega) (s.mg hz.2) v (by omega) (by rw [hz.2 62 22 rfl (by omega)]; exact ht) hv hb).imp (fun q' z' hq' => ?_)
          obtain ⟨b1, b2, b3, b4, b5, b6, b7⟩ := hq'
          exact ⟨b1, b2, b3, b4, b5, hz.2.tr b6, by omega⟩
