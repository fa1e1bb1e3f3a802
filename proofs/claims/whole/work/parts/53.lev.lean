/-! the best levels, chosen one behind another -/
theorem Best.uniq {f g : Int → Int} {lo hi c l c2 l2 : Int} (h : Best f lo hi c l) (h2 : Best g lo hi c2 l2) (e : ∀ u, lo ≤ u → u ≤ hi → f u = g u) : c = c2 := by
  rcases h with ⟨rfl, rfl, h⟩ | ⟨a1, a2, a3, a4, a5⟩
  · rcases h2 with ⟨rfl, rfl, h2⟩ | ⟨b1, b2, b3, b4, b5⟩
    · rfl
    · have := h c2 b1 b2; rw [e c2 b1 b2] at this; omega
  · rcases h2 with ⟨rfl, rfl, h2⟩ | ⟨b1, b2, b3, b4, b5⟩
    · have := h2 c a1 a2; rw [← e c a1 a2] at this; omega
    · have x1 := a5 c2 b1 b2
      have x2 := b5 c a1 a2
      have y1 := e c a1 a2
      have y2 := e c2 b1 b2
      apply Int.le_antisymm
      · apply Int.not_lt.mp; intro z; have := x1.2 z; omega
      · apply Int.not_lt.mp; intro z; have := x2.2 z; omega
/-- the window in which a section's level must lie -/
def wlo (sm : Int) (b : Int → Int) (s : Int) : Int := if s = 0 then 0 else max 0 (b (s - 1) - sm)
def whi (sm : Int) (b : Int → Int) (s : Int) : Int := if s = 0 then 60 else min 60 (b (s - 1) + sm)
def LevAt (sm : Int) (T : Int → Int → Int) (b : Int → Int) (s : Int) : Prop := Best (T s) (wlo sm b s) (whi sm b s) (b s) (T s (b s)) ∧ 0 ≤ b s ∧ b s ≤ 60 ∧ T s (b s) < 1000000
def Lev (n sm : Int) (T : Int → Int → Int) (b : Int → Int) : Prop := ∀ s, 0 ≤ s → s < n → LevAt sm T b s
/-- in the window there is a level that does -/
theorem lev_some {n deep sm : Int} {old : Int → Int} {own T : Int → Int → Int} {b : Int → Int} (t : TP n deep sm old own T (-1) 0) (o : OwnOK n deep sm old own) {s : Int} (h0 : 0 ≤ s) (h1 : s < n) (hl : 0 < s → LevAt sm T b (s - 1)) : wlo sm b s ≤ whi sm b s ∧ 0 ≤ wlo sm b s ∧ whi sm b s ≤ 60 ∧ ∃ u, wlo sm b s ≤ u ∧ u ≤ whi sm b s ∧ T s u < 1000000 := by
  obtain ⟨o1, o2, o3, o4, o5⟩ := id o
  unfold wlo whi
  by_cases hs : s = 0
  · rw [if_pos hs, if_pos hs]
    exact ⟨by omega, by omega, by omega, 60, by omega, by omega, (t.fact o h0 h1 (by omega)).1⟩
  · rw [if_neg hs, if_neg hs]
    obtain ⟨-, l2, l3, l4⟩ := hl (by omega)
    obtain ⟨c1, m, c2, c3⟩ := t (s - 1) (b (s - 1)) (by omega) (by omega) l2 l3 (by omega)
    rw [show s - 1 + 1 = s by omega] at c2 c3
    rw [c3] at l4
    have hm : m ≠ 1000000 := by
      intro e
      split at l4
      · omega
      · first | omega | (rw [if_pos h1, if_pos e] at l4; omega)
    obtain ⟨m1, m2, m3⟩ := c2 h1
    refine ⟨by omega, by omega, by omega, ?_⟩
    rcases m3 with m3 | ⟨u, u1, u2, u3⟩
    · exact absurd m3 hm
    · exact ⟨u, u1, u2, by omega⟩
theorem Best.lev {sm : Int} {T : Int → Int → Int} {b : Int → Int} {s c l : Int} (h : Best (T s) (wlo sm b s) (whi sm b s) c l) (hb : b s = c) (w : wlo sm b s ≤ whi sm b s ∧ 0 ≤ wlo sm b s ∧ whi sm b s ≤ 60 ∧ ∃ u, wlo sm b s ≤ u ∧ u ≤ whi sm b s ∧ T s u < 1000000) : LevAt sm T b s ∧ l = T s c ∧ c ≠ -1 := by
  obtain ⟨w1, w2, w3, u, u1, u2, u3⟩ := w
  rcases id h with ⟨rfl, rfl, h1⟩ | ⟨h1, h2, h3, h4, h5⟩
  · have := h1 u u1 u2; omega
  · refine ⟨⟨?_, by omega, by omega, by rw [hb, ← h3]; exact h4⟩, h3, by omega⟩
    rw [hb, ← h3]; exact h
theorem Lev.uniq {n sm : Int} {T T2 : Int → Int → Int} {b b2 : Int → Int} (l : Lev n sm T b) (l2 : Lev n sm T2 b2) (e : ∀ s, 0 ≤ s → s < n → ∀ u, 0 ≤ u → u ≤ 60 → T s u = T2 s u) : ∀ (k : Nat), (k : Int) < n → b (k : Int) = b2 (k : Int) := by
  intro k
  induction k with
  | zero =>
    intro h
    obtain ⟨x, -⟩ := l 0 (by omega) h
    obtain ⟨y, -⟩ := l2 0 (by omega) h
    exact x.uniq y (fun u u1 u2 => e 0 (by omega) h u u1 u2)
  | succ k ih =>
    intro h
    obtain ⟨x, -⟩ := l ((k + 1 : Nat) : Int) (by omega) h
    obtain ⟨y, -⟩ := l2 ((k + 1 : Nat) : Int) (by omega) h
    have hb := ih (by omega)
    have e1 : ((k + 1 : Nat) : Int) - 1 = (k : Int) := by omega
    unfold wlo whi at x y
    rw [if_neg (by omega), if_neg (by omega), e1] at x y
    rw [← hb] at y
    exact x.uniq y (fun u u1 u2 => e _ (by omega) h u (by omega) (by omega))
theorem LevAt.congr {sm : Int} {T : Int → Int → Int} {b b2 : Int → Int} {s : Int} (h : LevAt sm T b s) (h0 : 0 ≤ s) (e1 : b2 s = b s) (e2 : 0 < s → b2 (s - 1) = b (s - 1)) : LevAt sm T b2 s := by
  have w : wlo sm b2 s = wlo sm b s ∧ whi sm b2 s = whi sm b s := by
    unfold wlo whi
    by_cases hs : s = 0
    · rw [if_pos hs, if_pos hs, if_pos hs, if_pos hs]; exact ⟨rfl, rfl⟩
    · rw [if_neg hs, if_neg hs, if_neg hs, if_neg hs, e2 (by omega)]; exact ⟨rfl, rfl⟩
  unfold LevAt
  rw [w.1, w.2, e1]
  exact h
def bC (V : VV) (s : Int) : Int := V 4 s.toNat
/-- only the levels and their cost have changed -/
def ButL (V0 V : VV) : Prop := (∀ i, i ≠ 4 → i ≠ 1 → V i = V0 i) ∧ ∀ k, k ≠ 15 → V 1 k = V0 1 k
theorem ButL.rf {V : VV} : ButL V V := ⟨fun _ _ _ => rfl, fun _ _ => rfl⟩
theorem ButL.up4 {b : Nat} {x : Int} {V0 V : VV} (h : ButL V0 V) : ButL V0 (up V 4 b x) := ⟨fun i hi hj => (up_na V b x hi).trans (h.1 i hi hj), fun k hk => by rw [up_na V b x (by omega)]; exact h.2 k hk⟩
theorem ButL.up15 {x : Int} {V0 V : VV} (h : ButL V0 V) : ButL V0 (up V 1 15 x) := ⟨fun i hi hj => (up_na V 15 x hj).trans (h.1 i hi hj), fun k hk => by rw [up_nf V x hk]; exact h.2 k hk⟩
theorem RS.butL {V0 V : VV} (r : RS V0) (h : ButL V0 V) : RS V := by
  unfold RS
  rw [h.2 8 (by omega), h.2 9 (by omega), h.2 10 (by omega), h.2 11 (by omega), h.2 12 (by omega), h.2 13 (by omega), h.2 14 (by omega), h.1 2 (by omega) (by omega), h.1 3 (by omega) (by omega), h.1 6 (by omega) (by omega), h.1 7 (by omega) (by omega)]
  exact r
theorem bC_up {V : VV} {s x s2 : Int} (a : 0 ≤ s) (b : 0 ≤ s2) : bC (up V 4 s.toNat x) s2 = if s2 = s then x else bC V s2 := by
  unfold bC
  rw [up_ap, if_pos rfl]
  by_cases e : s2 = s
  · rw [if_pos e, if_pos (by rw [e])]
  · rw [if_neg e, if_neg (by omega)]
theorem chl {V0 : VV} (r : RS V0) {T : Int → Int → Int} (hT : T = Tc V0) (t : TP (V0 1 8) (V0 1 12) (V0 1 11) (oldC V0) (ownC V0) T (-1) 0) : ∀ (k n : Nat) (V : VV) (lo hi s : Int), V0 1 8 - s ≤ (k : Int) → k < n → 0 ≤ s → s ≤ V0 1 8 → ButL V0 V → (∀ s2, 0 ≤ s2 → s2 < s → LevAt (V0 1 11) T (bC V) s2) → (V 1 15 = if s = 0 then -1 else T 0 (bC V 0)) → (s = 0 → lo = 0 ∧ hi = 60) → (0 < s → lo = bC V (s - 1) - V0 1 11 ∧ hi = bC V (s - 1) + V0 1 11) → Sm (f_Road_chooseLevels_1 n V lo hi s) (fun V => ButL V0 V ∧ Lev (V0 1 8) (V0 1 11) T (bC V) ∧ V 1 15 = if V0 1 8 = 0 then -1 else T 0 (bC V 0)) := by
  subst hT
  intro k
  induction k with
  | zero =>
    intro n V lo hi s e1 e2 e3 e4 b l c w1 w2
    cases n with
    | zero => omega
    | succ n =>
      show Sm (if s < V 1 8 then _ else some V) _
      rw [b.2 8 (by omega)]
      have es : s = V0 1 8 := by omega
      refine Sm.neg (by omega) (Sm.ok ⟨b, fun s2 a1 a2 => l s2 a1 (by omega), ?_⟩)
      rw [c, es]
  | succ k ih =>
    intro n V lo hi s e1 e2 e3 e4 b l c w1 w2
    cases n with
    | zero => omega
    | succ n =>
      show Sm (if s < V 1 8 then Option.bind (f_Road_cheapest V s lo hi) (fun q2 => if q2 = (-1) then some (up V 1 15 (-1)) else lt_ (setV V 4 12 s q2) (fun q4 => if s = 0 then f_Road_chooseLevels_9 (f_Road_chooseLevels_1 n) (up q4 1 15 (atV q4 5 732 q2)) s q2 else f_Road_chooseLevels_9 (f_Road_chooseLevels_1 n) q4 s q2)) else some V) _
      obtain ⟨r1, -, -, r4, -⟩ := id r
      rw [b.2 8 (by omega)]
      refine Sm.ite (fun g => ?_) (fun g => Sm.ok ⟨b, fun s2 a1 a2 => l s2 a1 (by omega), ?_⟩)
      · have ls := lev_some t r.ok (b := bC V) e3 g (fun z => l (s - 1) (by omega) (by omega))
        have hw : max 0 lo = wlo (V0 1 11) (bC V) s ∧ min 60 hi = whi (V0 1 11) (bC V) s := by
          unfold wlo whi
          by_cases hs : s = 0
          · rw [if_pos hs, if_pos hs]; have := w1 hs; omega
          · rw [if_neg hs, if_neg hs]; have := w2 (by omega); omega
        have hTc : Tc V s = Tc V0 s := by
          funext u; unfold Tc; rw [b.1 5 (by omega) (by omega)]
        refine Sm.bind (cheap e3 (by omega) (by omega)) (fun q2 _ hq => ?_)
        obtain ⟨l', bq⟩ := hq
        rw [hw.1, hw.2, hTc] at bq
        have hup : ∀ (U : VV), bC (up U 4 s.toNat q2) s = q2 := fun U => by rw [bC_up e3 e3, if_pos rfl]
        have hup2 : ∀ (U : VV) (s2 : Int), 0 ≤ s2 → s2 < s → bC (up U 4 s.toNat q2) s2 = bC U s2 := fun U s2 a1 a2 => by rw [bC_up e3 a1, if_neg (by omega)]
        have wsame : ∀ b2 : Int → Int, (∀ s2, 0 ≤ s2 → s2 < s → b2 s2 = bC V s2) → wlo (V0 1 11) b2 s = wlo (V0 1 11) (bC V) s ∧ whi (V0 1 11) b2 s = whi (V0 1 11) (bC V) s := by
          intro b2 hb
          unfold wlo whi
          by_cases hs : s = 0
          · rw [if_pos hs, if_pos hs, if_pos hs, if_pos hs]; exact ⟨rfl, rfl⟩
          · rw [if_neg hs, if_neg hs, if_neg hs, if_neg hs, hb (s - 1) (by omega) (by omega)]; exact ⟨rfl, rfl⟩
        have key : ∀ b2 : Int → Int, b2 s = q2 → (∀ s2, 0 ≤ s2 → s2 < s → b2 s2 = bC V s2) → LevAt (V0 1 11) (Tc V0) b2 s ∧ q2 ≠ -1 := by
          intro b2 hb hb2
          obtain ⟨x1, x2⟩ := wsame b2 hb2
          have := Best.lev (sm := V0 1 11) (T := Tc V0) (b := b2) (s := s) (c := q2) (l := l') (by rw [x1, x2]; exact bq) hb (by rw [x1, x2]; exact ls)
          exact ⟨this.1, this.2.2⟩
        obtain ⟨k1, k2⟩ := key _ (hup V) (hup2 V)
        have hq60 : 0 ≤ q2 ∧ q2 ≤ 60 := by have := k1.2; rw [hup V] at this; exact ⟨this.1, this.2.1⟩
        refine Sm.neg k2 (Sm.lt0 ?_)
        rw [setV_in e3 (by omega)]
        have old : ∀ U : VV, (∀ s2, 0 ≤ s2 → s2 ≤ s → bC U s2 = bC (up V 4 s.toNat q2) s2) → ∀ s2, 0 ≤ s2 → s2 < s + 1 → LevAt (V0 1 11) (Tc V0) (bC U) s2 := by
          intro U hU s2 a1 a2
          by_cases es : s2 = s
          · subst es
            exact k1.congr a1 (hU s2 a1 (by omega)) (fun z => hU (s2 - 1) (by omega) (by omega))
          · exact (l s2 a1 (by omega)).congr a1 (by rw [hU s2 a1 (by omega), hup2 V s2 a1 (by omega)]) (fun z => by rw [hU (s2 - 1) (by omega) (by omega), hup2 V (s2 - 1) (by omega) (by omega)])
        have go : ∀ U : VV, ButL V0 U → (∀ s2, 0 ≤ s2 → s2 ≤ s → bC U s2 = bC (up V 4 s.toNat q2) s2) → U 1 15 = Tc V0 0 (bC U 0) → Sm (f_Road_chooseLevels_9 (f_Road_chooseLevels_1 n) U s q2) (fun V => ButL V0 V ∧ Lev (V0 1 8) (V0 1 11) (Tc V0) (bC V) ∧ V 1 15 = if V0 1 8 = 0 then -1 else Tc V0 0 (bC V 0)) := by
          intro U bU hU cU
          show Sm (f_Road_chooseLevels_1 n U (w32 (q2 - U 1 11)) (w32 (q2 + U 1 11)) (w32 (s + 1))) _
          rw [bU.2 11 (by omega), w32_id (x := q2 - V0 1 11) (by omega) (by omega), w32_id (x := q2 + V0 1 11) (by omega) (by omega), w32_id (x := s + 1) (by omega) (by omega)]
          refine ih n U _ _ (s + 1) (by omega) (by omega) (by omega) (by omega) bU (old U hU) (by rw [if_neg (by omega)]; exact cU) (fun z => by omega) (fun _ => ?_)
          rw [show s + 1 - 1 = s by omega, hU s e3 (Int.le_refl _), hup V]
          exact ⟨rfl, rfl⟩
        refine Sm.ite (fun g0 => ?_) (fun g0 => ?_)
        · refine go _ b.up4.up15 (fun s2 a1 a2 => ?_) ?_
          · unfold bC; rw [up_na _ _ _ (by omega)]
          · rw [up_eq, atV_in (by omega) (by omega), up_na V _ _ (by omega)]
            have : bC (up (up V 4 s.toNat q2) 1 15 (V 5 q2.toNat)) 0 = q2 := by
              unfold bC
              rw [up_na _ _ _ (by omega), ← g0]
              exact hup V
            rw [this]
            unfold Tc
            rw [show 61 * 0 + q2 = q2 by omega, b.1 5 (by omega) (by omega)]
        · refine go _ b.up4 (fun s2 a1 a2 => rfl) ?_
          rw [up_na V _ _ (by omega), c, if_neg g0, hup2 V 0 (by omega) (by omega)]
      · have es : s = V0 1 8 := by omega
        rw [c, es]
theorem choose_ {V0 : VV} (r : RS V0) (t : TPV V0 V0 (-1) 0) : Sm (f_Road_chooseLevels V0) (fun V => ButL V0 V ∧ Lev (V0 1 8) (V0 1 11) (Tc V0) (bC V) ∧ V 1 15 = if V0 1 8 = 0 then -1 else Tc V0 0 (bC V 0)) := by
  obtain ⟨r1, -⟩ := id r
  unfold f_Road_chooseLevels
  refine chl r rfl t 12 FU _ 0 60 0 (by omega) (by decide) (by omega) (by omega) ButL.rf.up15 (fun s2 a1 a2 => by omega) ?_ (fun _ => ⟨rfl, rfl⟩) (fun z => by omega)
  rw [up_eq, if_pos rfl]
