/-! find and hasJobs -/
theorem fi3 {V : VV} (r : RS V) {U0 : VV} (q0 : SRoad V U0) {Q : VV × Int → Prop} (K : ∀ U, MJ U0 U → TPM V U (-1) 0 → Sm (f_Mo_find_15 FU U (-1) 0) Q) : ∀ (k n : Nat) (U : VV) (s : Int), s + 1 ≤ (k : Int) → k < n → -1 ≤ s → s < V 1 8 → MJ U0 U → TPM V U s 0 → Sm (f_Mo_find_3 n U s) Q := by
  intro k
  induction k with
  | zero =>
    intro n U s e1 e2 e3 e4 b t
    cases n with
    | zero => omega
    | succ n =>
      show Sm (if s < 0 then f_Mo_find_15 FU U (-1) 0 else _) _
      refine Sm.pos (by omega) (K U b ?_)
      rw [show (-1 : Int) = s by omega]; exact t
  | succ k ih =>
    intro n U s e1 e2 e3 e4 b t
    cases n with
    | zero => omega
    | succ n =>
      show Sm (if s < 0 then f_Mo_find_15 FU U (-1) 0 else f_Mo_find_5 (f_Mo_find_3 n) FU U s 0) _
      refine Sm.ite (fun g => K U b ?_) (fun g => ?_)
      · rw [show (-1 : Int) = s by omega]; exact t
      · exact fi5 r q0 (by omega) e4 (fun U b t => ih n U (s - 1) (by omega) (by omega) (by omega) (by omega) b t) 61 FU U 0 (by omega) (by decide) (by omega) (by omega) b t
/-- the lowest of those that are least, or none yet -/
def ArgL (f : Int → Int) (lo hi c : Int) : Prop := (c = -1 ∧ hi < lo) ∨ (lo ≤ c ∧ c ≤ hi ∧ ∀ u, lo ≤ u → u ≤ hi → f c ≤ f u ∧ (u < c → f c < f u))
theorem ArgL.one {f : Int → Int} {lo hi v : Int} (h1 : lo = v) (h2 : hi = v) : ArgL f lo hi v := Or.inr ⟨by omega, by omega, fun u a b => by
  have : u = v := by omega
  subst this
  exact ⟨Int.le_refl _, fun z => absurd z (Int.lt_irrefl _)⟩⟩
theorem ArgL.step {f : Int → Int} {lo c v : Int} (a : ArgL f lo (v - 1) c) (hl : lo ≤ v) (h0 : 0 ≤ lo) : ArgL f lo v (if c < 0 then v else if f v < f c then v else c) := by
  rcases a with ⟨rfl, a⟩ | ⟨a1, a2, a3⟩
  · rw [if_pos (by omega)]; exact ArgL.one (by omega) rfl
  · rw [if_neg (by omega)]
    split
    · next hc =>
      refine Or.inr ⟨hl, Int.le_refl _, fun u b1 b2 => ?_⟩
      by_cases e : u = v
      · subst e; exact ⟨Int.le_refl _, fun z => absurd z (Int.lt_irrefl _)⟩
      · have := (a3 u b1 (by omega)).1; exact ⟨by omega, fun _ => by omega⟩
    · next hc =>
      refine Or.inr ⟨a1, by omega, fun u b1 b2 => ?_⟩
      by_cases e : u = v
      · subst e; exact ⟨by omega, fun z => by omega⟩
      · exact a3 u b1 (by omega)
theorem bo1 {U : VV} {s near sm lo hi : Int} (hs : U 62 4 = sm) (s0 : 0 ≤ s) (s1 : s < 12) (m0 : 0 ≤ sm) (m1 : sm ≤ 9) (hn : (near < 0 ∧ lo = 0 ∧ hi = 60) ∨ (0 ≤ near ∧ near ≤ 60 ∧ lo = max 0 (near - sm) ∧ hi = min 60 (near + sm))) : ∀ (k n : Nat) (b v : Int), 61 - v ≤ (k : Int) → k < n → 0 ≤ v → v ≤ 61 → ArgL (Tm U s) lo (min hi (v - 1)) b → Sm (f_Mo_bestOf_1 n U s near b v) (fun c => ArgL (Tm U s) lo hi c) := by
  intro k
  induction k with
  | zero =>
    intro n b v e1 e2 e3 e4 a
    cases n with
    | zero => omega
    | succ n =>
      show Sm (if v < 61 then _ else some b) _
      refine Sm.neg (by omega) (Sm.ok ?_)
      rw [show hi = min hi (v - 1) by omega]; exact a
  | succ k ih =>
    intro n b v e1 e2 e3 e4 a
    cases n with
    | zero => omega
    | succ n =>
      have hv1 : w32 (v + 1) = v + 1 ∨ 61 ≤ v := by
        by_cases g : v < 61
        · exact Or.inl (w32_id (by omega) (by omega))
        · exact Or.inr (by omega)
      have hb : -1 ≤ b ∧ b ≤ 60 := by
        rcases a with ⟨a1, a2⟩ | ⟨a1, a2, a3⟩ <;> omega
      have five : v < 61 → lo ≤ v → v ≤ hi → Sm (f_Mo_bestOf_5 (f_Mo_bestOf_1 n) U s near b v) (fun c => ArgL (Tm U s) lo hi c) := by
        intro g g1 g2
        have st := ArgL.step (f := Tm U s) (lo := lo) (c := b) (v := v) (by rw [show v - 1 = min hi (v - 1) by omega]; exact a) g1 (by omega)
        have eu : v = min hi (v + 1 - 1) := by omega
        unfold f_Mo_bestOf_5 f_Mo_bestOf_9 f_Mo_bestOf_10
        rw [w32_id (x := v + 1) (by omega) (by omega)]
        refine Sm.ite (fun g3 => ?_) (fun g3 => ?_)
        · rw [if_pos g3] at st
          refine ih n v (v + 1) (by omega) (by omega) (by omega) (by omega) ?_
          rw [← eu]; exact st
        · rw [if_neg g3] at st
          rw [w32_id (x := 61 * s) (by omega) (by omega), w32_id (x := 61 * s + v) (by omega) (by omega), w32_id (x := 61 * s + b) (by omega) (by omega)]
          refine Sm.pos (by omega) (Sm.pos (by omega) (Sm.ite (fun g4 => ?_) (fun g4 => ?_)))
          · rw [if_pos (show Tm U s v < Tm U s b from g4)] at st
            refine ih n v (v + 1) (by omega) (by omega) (by omega) (by omega) ?_
            rw [← eu]; exact st
          · rw [if_neg (show ¬ Tm U s v < Tm U s b from g4)] at st
            refine ih n b (v + 1) (by omega) (by omega) (by omega) (by omega) ?_
            rw [← eu]; exact st
      show Sm (if v < 61 then if near < 0 then f_Mo_bestOf_5 (f_Mo_bestOf_1 n) U s near b v else if (f_Mo_isIn U v (w32 (near - (U 62 4))) (w32 (near + (U 62 4)))) = 0 then f_Mo_bestOf_1 n U s near b (w32 (v + 1)) else f_Mo_bestOf_5 (f_Mo_bestOf_1 n) U s near b v else some b) _
      refine Sm.ite (fun g => Sm.ite (fun g1 => five g (by omega) (by omega)) (fun g1 => ?_)) (fun g => Sm.ok ?_)
      · rw [hs, w32_id (x := near - sm) (by omega) (by omega), w32_id (x := near + sm) (by omega) (by omega)]
        refine Sm.ite (fun g2 => ?_) (fun g2 => ?_)
        · rw [isIn_0] at g2
          rw [w32_id (x := v + 1) (by omega) (by omega)]
          refine ih n b (v + 1) (by omega) (by omega) (by omega) (by omega) ?_
          rcases a with ⟨a1, a2⟩ | ⟨a1, a2, a3⟩
          · exact Or.inl ⟨a1, by omega⟩
          · refine Or.inr ⟨a1, by omega, fun u b1 b2 => a3 u b1 (by omega)⟩
        · rw [isIn_0] at g2
          exact five g (by omega) (by omega)
      · rw [show hi = min hi (v - 1) by omega]; exact a
def bM (U : VV) (s : Int) : Int := U 68 s.toNat
theorem bM_up {V : VV} {s x s2 : Int} (a : 0 ≤ s) (b : 0 ≤ s2) : bM (up V 68 s.toNat x) s2 = if s2 = s then x else bM V s2 := by
  unfold bM
  rw [up_ap, if_pos rfl]
  by_cases e : s2 = s
  · rw [if_pos e, if_pos (by rw [e])]
  · rw [if_neg e, if_neg (by omega)]
theorem fi15 {V : VV} (r : RS V) {U0 : VV} (q0 : SRoad V U0) (hn0 : 0 < V 1 8) {T : Int → Int → Int} (t : TP (V 1 8) (V 1 12) (V 1 11) (oldC V) (ownC V) T (-1) 0) : ∀ (k n : Nat) (U : VV) (near s : Int), V 1 8 - s ≤ (k : Int) → k < n → 0 ≤ s → s ≤ V 1 8 → MJ U0 U → Tm U = T → (∀ s2, 0 ≤ s2 → s2 < s → LevAt (V 1 11) T (bM U) s2) → (near = if s = 0 then -1 else bM U (s - 1)) → Sm (f_Mo_find_15 n U near s) (fun z => MJ U0 z.1 ∧ Tm z.1 = T ∧ Lev (V 1 8) (V 1 11) T (bM z.1) ∧ z.2 = T 0 (bM z.1 0)) := by
  have fin : ∀ U : VV, MJ U0 U → Tm U = T → (∀ s2, 0 ≤ s2 → s2 < V 1 8 → LevAt (V 1 11) T (bM U) s2) → Sm (if 0 ≤ (U 68 0) ∧ (U 68 0) < (732 : Int) then if (U 67 ((U 68 0).toNat)) < 1000000 then if 0 ≤ (U 68 0) ∧ (U 68 0) < (732 : Int) then some (U, U 67 ((U 68 0).toNat)) else none else some (U, (-1)) else none) (fun z => MJ U0 z.1 ∧ Tm z.1 = T ∧ Lev (V 1 8) (V 1 11) T (bM z.1) ∧ z.2 = T 0 (bM z.1 0)) := by
    intro U b hT l
    obtain ⟨l1, l2, l3, l4⟩ := l 0 (by omega) hn0
    have e0 : bM U 0 = U 68 0 := rfl
    have e1 : T 0 (bM U 0) = U 67 (U 68 0).toNat := by
      rw [← hT, e0]; unfold Tm; rw [show 61 * 0 + U 68 0 = U 68 0 by omega]
    rw [e0] at l2 l3
    rw [e1] at l4
    refine Sm.pos (by omega) (Sm.pos l4 (Sm.pos (by omega) (Sm.ok ⟨b, hT, l, ?_⟩)))
    exact e1.symm
  intro k
  induction k with
  | zero =>
    intro n U near s e1 e2 e3 e4 b hT l hnr
    cases n with
    | zero => omega
    | succ n =>
      show Sm (if s < (U 62 0) then _ else if 0 ≤ (U 68 0) ∧ (U 68 0) < (732 : Int) then if (U 67 ((U 68 0).toNat)) < 1000000 then if 0 ≤ (U 68 0) ∧ (U 68 0) < (732 : Int) then some (U, U 67 ((U 68 0).toNat)) else none else some (U, (-1)) else none) _
      rw [(q0.mf b.mf).1]
      exact Sm.neg (by omega) (fin U b hT (fun s2 a1 a2 => l s2 a1 (by omega)))
  | succ k ih =>
    intro n U near s e1 e2 e3 e4 b hT l hnr
    cases n with
    | zero => omega
    | succ n =>
      show Sm (if s < (U 62 0) then Option.bind (f_Mo_bestOf U s near) (fun q7 => if 0 ≤ s ∧ s < (12 : Int) then f_Mo_find_15 n (up U 68 s.toNat q7) q7 (w32 (s + 1)) else none) else if 0 ≤ (U 68 0) ∧ (U 68 0) < (732 : Int) then if (U 67 ((U 68 0).toNat)) < 1000000 then if 0 ≤ (U 68 0) ∧ (U 68 0) < (732 : Int) then some (U, U 67 ((U 68 0).toNat)) else none else some (U, (-1)) else none) _
      have q := q0.mf b.mf
      obtain ⟨r1, -, -, r4, -⟩ := id r
      rw [q.1]
      refine Sm.ite (fun g => ?_) (fun g => fin U b hT (fun s2 a1 a2 => l s2 a1 (by omega)))
      have ls := lev_some t r.ok (b := bM U) e3 g (fun z => l (s - 1) (by omega) (by omega))
      have hw : (near < 0 ∧ wlo (V 1 11) (bM U) s = 0 ∧ whi (V 1 11) (bM U) s = 60) ∨ (0 ≤ near ∧ near ≤ 60 ∧ wlo (V 1 11) (bM U) s = max 0 (near - V 1 11) ∧ whi (V 1 11) (bM U) s = min 60 (near + V 1 11)) := by
        unfold wlo whi
        by_cases hs : s = 0
        · rw [if_pos hs] at hnr; rw [if_pos hs, if_pos hs]; exact Or.inl ⟨by omega, rfl, rfl⟩
        · rw [if_neg hs] at hnr; rw [if_neg hs, if_neg hs, ← hnr]
          obtain ⟨-, x1, x2, -⟩ := l (s - 1) (by omega) (by omega)
          exact Or.inr ⟨by omega, by omega, rfl, rfl⟩
      refine Sm.bind (bo1 q.2.2.2.1 e3 (by omega) r4.1 r4.2 hw 61 FU (-1) 0 (by omega) (by decide) (by omega) (by omega) (Or.inl ⟨rfl, by omega⟩)) (fun q7 _ hq => ?_)
      rw [hT] at hq
      obtain ⟨w1, w2, w3, u, u1, u2, u3⟩ := ls
      have hB : Best (T s) (wlo (V 1 11) (bM U) s) (whi (V 1 11) (bM U) s) q7 (T s q7) := by
        rcases hq with ⟨a1, a2⟩ | ⟨a1, a2, a3⟩
        · omega
        · have := (a3 u u1 u2).1
          exact Or.inr ⟨a1, a2, rfl, by omega, a3⟩
      have hup : bM (up U 68 s.toNat q7) s = q7 := by rw [bM_up e3 e3, if_pos rfl]
      have hup2 : ∀ (s2 : Int), 0 ≤ s2 → s2 < s → bM (up U 68 s.toNat q7) s2 = bM U s2 := fun s2 a1 a2 => by rw [bM_up e3 a1, if_neg (by omega)]
      have wsame : wlo (V 1 11) (bM (up U 68 s.toNat q7)) s = wlo (V 1 11) (bM U) s ∧ whi (V 1 11) (bM (up U 68 s.toNat q7)) s = whi (V 1 11) (bM U) s := by
        unfold wlo whi
        by_cases hs : s = 0
        · rw [if_pos hs, if_pos hs, if_pos hs, if_pos hs]; exact ⟨rfl, rfl⟩
        · rw [if_neg hs, if_neg hs, if_neg hs, if_neg hs, hup2 (s - 1) (by omega) (by omega)]; exact ⟨rfl, rfl⟩
      have k1 := (Best.lev (sm := V 1 11) (T := T) (b := bM (up U 68 s.toNat q7)) (s := s) (c := q7) (l := T s q7) (by rw [wsame.1, wsame.2]; exact hB) hup (by rw [wsame.1, wsame.2]; exact ⟨w1, w2, w3, u, u1, u2, u3⟩)).1
      rw [w32_id (x := s + 1) (by omega) (by omega)]
      refine Sm.pos (by omega) (ih n _ q7 (s + 1) (by omega) (by omega) (by omega) (by omega) (b.up rfl) ?_ ?_ ?_)
      · rw [← hT]; funext a c; unfold Tm; rw [up_na _ _ _ (by omega)]
      · intro s2 a1 a2
        by_cases es : s2 = s
        · subst es; exact k1
        · exact (l s2 a1 (by omega)).congr a1 (hup2 s2 a1 (by omega)) (fun z => hup2 (s2 - 1) (by omega) (by omega))
      · rw [if_neg (by omega), show s + 1 - 1 = s by omega, hup]
theorem find_mj {V U : VV} (d : DR V) (q : SRoad V U) : Sm (f_Mo_find U) (fun z => MJ U z.1 ∧ z.2 = V 1 15 ∧ ∀ s : Nat, (s : Int) < V 1 8 → z.1 68 s = V 4 s) := by
  obtain ⟨r, t, l, c, -⟩ := d
  obtain ⟨r1, -⟩ := id r
  unfold f_Mo_find
  rw [q.1]
  refine Sm.ite (fun g => Sm.ok ⟨MJ.rf, by rw [c, if_pos g], fun s hs => by omega⟩) (fun g => ?_)
  rw [w32_id (by omega) (by omega)]
  refine fi3 r q (fun W bW tW => ?_) 12 FU U (V 1 8 - 1) (by omega) (by decide) (by omega) (by omega) MJ.rf (fun s h a1 a2 a3 a4 a5 => by omega)
  refine (fi15 r q (by omega) tW 12 FU W (-1) 0 (by omega) (by decide) (by omega) (by omega) bW rfl (fun s2 a1 a2 => by omega) (by rw [if_pos rfl])).imp (fun z hz => ?_)
  obtain ⟨z1, z2, z3, z4⟩ := hz
  have te : ∀ s, 0 ≤ s → s < V 1 8 → ∀ u, 0 ≤ u → u ≤ 60 → Tc V s u = Tm W s u := fun s a1 a2 u u1 u2 => t.uniq tW (V 1 8 - s - 1).toNat s (by omega) a1 u u1 u2
  have be : ∀ s : Nat, (s : Int) < V 1 8 → z.1 68 s = V 4 s := fun s hs => (Lev.uniq l z3 te s hs).symm
  refine ⟨z1, ?_, be⟩
  have b0 := be 0 (by omega)
  have l0 := l 0 (by omega) (by omega)
  have e0 : bM z.1 0 = bC V 0 := b0
  rw [z4, c, if_neg g, e0]
  exact (te 0 (by omega) (by omega) _ l0.2.1 l0.2.2.1).symm
theorem find_ok {V U : VV} (d : DR V) (q : SRoad V U) : Sm (f_Mo_find U) (fun z => MF U z.1 ∧ z.2 = V 1 15 ∧ ∀ s : Nat, (s : Int) < V 1 8 → z.1 68 s = V 4 s) := (find_mj d q).imp (fun _ h => ⟨h.1.mf, h.2⟩)
