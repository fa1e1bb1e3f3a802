/-! what holds between two calls -/
def ROLS (V U : VV) : Prop := (V 49 11 = U 62 33 ∧ 0 ≤ U 62 33 ∧ U 62 33 ≤ 6) ∧ (∀ r : Nat, (r : Int) < U 62 33 → (V 50 r = U 75 r ∧ 0 ≤ U 75 r ∧ U 75 r ≤ 2) ∧ V 51 r = U 76 r ∧ 10 ≤ U 76 r ∧ U 76 r ≤ 100) ∧ ∀ s : Nat, s < 3 → V 52 s = U 77 s ∧ V 53 s = U 78 s ∧ V 54 s = U 79 s ∧ 0 ≤ U 79 s ∧ U 79 s ≤ 9
def TAPS (V U : VV) : Prop := V 16 1 = U 62 40 ∧ (0 ≤ V 16 1 ∧ V 16 1 ≤ 400) ∧ ∀ i : Nat, (i : Int) < V 16 1 → V 17 i = U 80 i ∧ 0 ≤ V 17 i ∧ V 17 i ≤ 255
def RATS (V U : VV) : Prop := ∃ Ug Ug' : VV, Ug 62 40 = V 26 1 ∧ (0 ≤ V 26 1 ∧ V 26 1 ≤ 100) ∧ (∀ i : Nat, (i : Int) < V 26 1 → Ug 80 i = V 27 i ∧ 0 ≤ V 27 i ∧ V 27 i ≤ 255) ∧ f_Mo_readRate Ug = some (Ug', 0) ∧ U 62 105 = Ug' 62 108 ∧ ∀ k : Nat, (k : Int) < Ug' 62 108 → U 118 k = Ug' 118 (128 + k) ∧ U 119 k = Ug' 119 (128 + k)
def PK1 (V : VV) (x : Int) : Prop := x = -2 ∨ ∃ (V1 : VV) (h1 : HP) (q : (VV × HP) × Int), INVR V1 h1 ∧ V1 46 2 ≤ 700000 ∧ SS V V1 ∧ f_Br_pace_3 FU V1 h1 (-1) 1 = some q ∧ q.2 = x
def PK2 (V : VV) (p : Int) (x : Int) : Prop := x = -2 ∨ ∃ (V1 : VV) (h1 : HP) (q : (VV × HP) × Int), INVR V1 h1 ∧ V1 46 2 ≤ 700000 ∧ SS V V1 ∧ f_Br_fewest_8 FU V1 h1 p (-1) 1 = some q ∧ q.2 = x
def PKC (V : VV) : Prop := PK1 V (V 0 15) ∧ ∀ p : Int, 1 ≤ p → p ≤ 20 → PK2 V p (V 61 p.toNat)
theorem PK1.ss {V V2 : VV} {x : Int} (h : PK1 V x) (s : SS V V2) : PK1 V2 x := by
  rcases h with h | ⟨V1, h1, q, a, b, c, d⟩
  · exact Or.inl h
  · exact Or.inr ⟨V1, h1, q, a, b, s.sy.tr c, d⟩
theorem PK2.ss {V V2 : VV} {p x : Int} (h : PK2 V p x) (s : SS V V2) : PK2 V2 p x := by
  rcases h with h | ⟨V1, h1, q, a, b, c, d⟩
  · exact Or.inl h
  · exact Or.inr ⟨V1, h1, q, a, b, s.sy.tr c, d⟩
theorem PKC.fr {V V2 : VV} (h : PKC V) (s : SS V V2) (h0 : V2 0 15 = V 0 15) (h61 : V2 61 = V 61) : PKC V2 := by
  unfold PKC
  rw [h0, h61]
  exact ⟨h.1.ss s, fun p a b => (h.2 p a b).ss s⟩
def G (c : Int) (V : VV) (h : HP) (U : VV) : Prop := INVR V h ∧ V 46 2 ≤ 60 * c ∧ SETR V U ∧ (U 62 22 = V 10 5 ∧ 1 ≤ V 10 5 ∧ V 10 5 ≤ 16) ∧ ROLS V U ∧ TAPS V U ∧ (V 0 16 = U 62 41 ∧ V 0 17 = U 62 42) ∧ U 62 48 = V 18 6 ∧ RATS V U ∧ PKC V
/-- class cells that a question leaves alone -/
def KQ (V V2 : VV) : Prop := (∀ i, ((1 ≤ i ∧ i ≤ 15) ∨ i = 17 ∨ (19 ≤ i ∧ i ≤ 24) ∨ i = 27 ∨ (50 ≤ i ∧ i ≤ 54)) → V2 i = V i) ∧ V2 0 16 = V 0 16 ∧ V2 0 17 = V 0 17 ∧ V2 16 1 = V 16 1 ∧ V2 18 6 = V 18 6 ∧ V2 18 7 = V 18 7 ∧ V2 26 1 = V 26 1 ∧ V2 49 11 = V 49 11
theorem KQ.rf {V : VV} : KQ V V := ⟨fun _ _ => rfl, rfl, rfl, rfl, rfl, rfl, rfl, rfl⟩
theorem KQ.tr {V V2 V3 : VV} (a : KQ V V2) (b : KQ V2 V3) : KQ V V3 := ⟨fun i h => (b.1 i h).trans (a.1 i h), b.2.1.trans a.2.1, b.2.2.1.trans a.2.2.1, b.2.2.2.1.trans a.2.2.2.1, b.2.2.2.2.1.trans a.2.2.2.2.1, b.2.2.2.2.2.1.trans a.2.2.2.2.2.1, b.2.2.2.2.2.2.1.trans a.2.2.2.2.2.2.1, b.2.2.2.2.2.2.2.trans a.2.2.2.2.2.2.2⟩
theorem KQ.ss {V V2 : VV} (k : KQ V V2) : SS V V2 := ⟨fun i a b => k.1 i (by omega), k.2.2.2.2.1, k.2.2.2.2.2.1, fun i a b => k.1 i (by omega)⟩
theorem CQ0.kq {V V2 : VV} (c : CQ0 V V2) : KQ V V2 := by
  refine ⟨fun i h => c i (by omega) (by omega), ?_, ?_, ?_, ?_, ?_, ?_, ?_⟩
  · rw [c 0 (by omega) (by omega)]
  · rw [c 0 (by omega) (by omega)]
  · rw [c 16 (by omega) (by omega)]
  · rw [c 18 (by omega) (by omega)]
  · rw [c 18 (by omega) (by omega)]
  · rw [c 26 (by omega) (by omega)]
  · rw [c 49 (by omega) (by omega)]
theorem ROLS.mg {V U V2 U2 : VV} (r : ROLS V U) (k : KQ V V2) (m : MG U U2) : ROLS V2 U2 := by
  obtain ⟨r1, r2, r3⟩ := r
  have m33 := m 62 33 rfl (by omega)
  refine ⟨by rw [k.2.2.2.2.2.2.2, m33]; exact r1, fun r hr => ?_, fun s hs => ?_⟩
  · rw [m33] at hr
    rw [k.1 50 (by omega), k.1 51 (by omega), m 75 r rfl (by omega), m 76 r rfl (by omega)]
    exact r2 r hr
  · rw [k.1 52 (by omega), k.1 53 (by omega), k.1 54 (by omega), m 77 s rfl (by omega), m 78 s rfl (by omega), m 79 s rfl (by omega)]
    exact r3 s hs
theorem G.fr {c c2 : Int} {V U V2 U2 : VV} {h h2 : HP} (g : G c V h U) (v : INVR V2 h2) (st : V2 46 2 ≤ 60 * c2) (k : KQ V V2) (p : PKC V2) (m : MG U U2) : G c2 V2 h2 U2 := by
  obtain ⟨g1, g2, g3, g4, g5, g6, g7, g8, g9, g10⟩ := g
  have ss := k.ss
  refine ⟨v, st, (g3.mg m).ss ss, ?_, g5.mg k m, ?_, ?_, ?_, ?_, p⟩
  · rw [m 62 22 rfl (by omega), k.1 10 (by omega)]; exact g4
  · obtain ⟨a, b, d⟩ := g6
    refine ⟨by rw [k.2.2.2.1, m 62 40 rfl (by omega)]; exact a, by rw [k.2.2.2.1]; exact b, fun i hi => ?_⟩
    rw [k.2.2.2.1] at hi
    rw [k.1 17 (by omega), m 80 i rfl (by omega)]
    exact d i hi
  · rw [k.2.1, k.2.2.1, m 62 41 rfl (by omega), m 62 42 rfl (by omega)]; exact g7
  · rw [k.2.2.2.2.1, m 62 48 rfl (by omega)]; exact g8
  · obtain ⟨Ug, Ug', a, b, d, e, f, j⟩ := g9
    refine ⟨Ug, Ug', by rw [k.2.2.2.2.2.2.1]; exact a, by rw [k.2.2.2.2.2.2.1]; exact b, fun i hi => ?_, e, by rw [m 62 105 rfl (by omega)]; exact f, fun i hi => ?_⟩
    · rw [k.2.2.2.2.2.2.1] at hi
      rw [k.1 27 (by omega)]
      exact d i hi
    · rw [m 118 i rfl (by omega), m 119 i rfl (by omega)]
      exact j i hi
/-- the same, and the class has changed nothing -/
theorem G.mg {c : Int} {V U U2 : VV} {h : HP} (g : G c V h U) (m : MG U U2) : G (c + 1) V h U2 := g.fr g.1 (by have := g.2.1; omega) KQ.rf g.2.2.2.2.2.2.2.2.2 m
theorem G.more {c : Int} {V U : VV} {h : HP} (g : G c V h U) : G (c + 1) V h U := g.mg MG.rf
/-- is it paved? -/
theorem isPav {c : Int} {V U : VV} {h : HP} {w p : Int} (g : G c V h U) (hc : 0 ≤ c ∧ c ≤ 600) : Two (f_Br_isPaved V h w p) (f_Mo_isRun U w p) (fun q z => q.2 = z.2 ∧ (z.2 = 0 ∨ z.2 = 1) ∧ G (c + 1) q.1.1 q.1.2 z.1 ∧ (z.2 = 1 → RA q.1.1 q.1.2 z.1 ∧ q.1.1 46 7 = 1 ∧ 0 < nJ q.1.1) ∧ MG U z.1) := by
  obtain ⟨g1, g2, g3, g4, g5, g6, g7, g8, g9, g10⟩ := id g
  have wc := g3.2.2.2.2.1
  unfold f_Br_isPaved f_Mo_isRun f_Br_isPaved_9 f_Mo_isRun_8
  rw [wc.2.2, w32_id (x := V 18 7 - 1) (by omega) (by omega)]
  by_cases hp : 1 ≤ p ∧ p ≤ 20
  · rw [if_neg (show ¬ isFromV p 1 20 = 0 by rw [isFromV_1 hp.1 hp.2]; omega)]
    by_cases hw : 0 ≤ w ∧ w ≤ V 18 7 - 1
    · rw [if_neg (show ¬ isFromV w 0 (V 18 7 - 1) = 0 by rw [isFromV_1 hw.1 hw.2]; omega), if_neg (show ¬ f_Mo_isIn U w 0 (V 18 7 - 1) = 0 by rw [isIn_1 hw.1 hw.2]; omega), if_neg (show ¬ f_Mo_isIn U p 1 20 = 0 by rw [isIn_1 hp.1 hp.2]; omega)]
      refine Two.bindL (canC g3.1 g3.2.2.1.2.1) (fun q5 h5 => ?_)
      rcases h5 with ⟨a1, a2, a3⟩ | ⟨a1, a2⟩
      · rw [a1, if_neg (by omega)]
        refine Two.bind2 (isDone3 g3 g1 (by omega) ⟨hw.1, by omega⟩ hp g4.2 a2 a3 g4.1) (fun q z hq => ?_)
        obtain ⟨b1, b2, b3, b4, b5, b6, b7, b8⟩ := hq
        have gz : G (c + 1) q.1.1 q.1.2 z.1 := g.fr b3 (by omega) b4.kq (g10.fr b4.ss (by rw [b4 0 (by omega) (by omega)]) (b4 61 (by omega) (by omega))) b5.mg
        rw [b1]
        rcases b2 with z0 | z1
        · rw [z0, if_pos rfl, if_pos rfl]
          exact Two.ok ⟨rfl, Or.inl rfl, gz, fun x => (by cases x), b5.mg⟩
        · rw [z1, if_neg (show ¬ (1 : Int) = 0 by omega), if_neg (show ¬ (1 : Int) = 0 by omega)]
          exact Two.ok ⟨rfl, Or.inr rfl, gz, fun _ => ⟨b8 z1, b7, by rw [nJ_ss b4.ss]; exact a2⟩, b5.mg⟩
      · rw [a1, if_pos rfl]
        refine Two.bindR (goesNo g3 a2) (fun z hz => ?_)
        rw [hz.1, if_pos rfl]
        exact Two.ok ⟨rfl, Or.inl rfl, g.mg hz.2.mg, fun x => (by cases x), hz.2.mg⟩
    · rw [if_pos (isFromV_0.mpr hw), if_pos (isIn_0.mpr hw)]
      exact Two.ok ⟨rfl, Or.inl rfl, g.more, fun x => (by cases x), MG.rf⟩
  · rw [if_pos (isFromV_0.mpr hp)]
    by_cases hw : 0 ≤ w ∧ w ≤ V 18 7 - 1
    · rw [if_neg (show ¬ f_Mo_isIn U w 0 (V 18 7 - 1) = 0 by rw [isIn_1 hw.1 hw.2]; omega), if_pos (isIn_0.mpr hp)]
      exact Two.ok ⟨rfl, Or.inl rfl, g.more, fun x => (by cases x), MG.rf⟩
    · rw [if_pos (isIn_0.mpr hw)]
      exact Two.ok ⟨rfl, Or.inl rfl, g.more, fun x => (by cases x), MG.rf⟩
/-- what a call is to give -/
def CA (c : Int) (a : Option ((VV × HP) × Int)) (b : Option (VV × Int)) : Prop := Two a b (fun q z => q.2 = z.2 ∧ G (c + 1) q.1.1 q.1.2 z.1)
theorem g_run {c : Int} {V U : VV} {h : HP} {w p k : Int} (g : G c V h U) (hc : 0 ≤ c ∧ c ≤ 600) : CA c (f_Br_run V h w p k) (f_Mo_run U w p k) := by
  unfold CA f_Br_run f_Mo_run
  by_cases hk : 0 ≤ k ∧ k ≤ 5
  · rw [if_neg (show ¬ isFromV k 0 5 = 0 by rw [isFromV_1 hk.1 hk.2]; omega)]
    refine Two.bind2 (isPav g hc) (fun q z hq => ?_)
    obtain ⟨b1, b2, b3, b4, -⟩ := hq
    rw [b1]
    rcases b2 with z0 | z1
    · rw [z0, if_pos rfl, if_pos rfl]; exact Two.ok ⟨rfl, b3⟩
    · rw [z1, if_neg (show ¬ (1 : Int) = 0 by omega), if_neg (show ¬ (1 : Int) = 0 by omega)]
      obtain ⟨⟨hh, ⟨la, lo, jo, jl⟩, ⟨⟨s1, s2, s3, s4, s5, s6, s7, s8, s9⟩, ca, ka⟩, hd, hn⟩, -, -⟩ := b4 z1
      have e : k = 0 ∨ k = 1 ∨ k = 2 ∨ k = 3 ∨ k = 4 ∨ k = 5 := by omega
      have a : ∀ i : Nat, i < 6 → atV q.1.1 47 6 (i : Int) = q.1.1 47 i := fun i hi => by rw [atV_in (by omega) (by omega), Int.toNat_natCast]
      rcases e with rfl | rfl | rfl | rfl | rfl | rfl
      · rw [if_pos rfl]; exact Two.ok ⟨by first | (dsimp only; exact (a 0 (by omega)).trans s1) | (dsimp only; rw [if_neg (by omega)]; exact (a 0 (by omega)).trans s1), b3⟩
      · rw [if_neg (show ¬ (1 : Int) = 0 by omega), if_pos rfl]; exact Two.ok ⟨by first | (dsimp only; exact (a 1 (by omega)).trans (s9 hd).1) | (dsimp only; rw [if_neg (by omega)]; exact (a 1 (by omega)).trans (s9 hd).1), b3⟩
      · rw [if_neg (show ¬ (2 : Int) = 0 by omega), if_neg (show ¬ (2 : Int) = 1 by omega), if_pos rfl]; exact Two.ok ⟨by first | (dsimp only; exact la.1) | (dsimp only; rw [if_pos rfl]; exact la.1), b3⟩
      · rw [if_neg (show ¬ (3 : Int) = 0 by omega), if_neg (show ¬ (3 : Int) = 1 by omega), if_neg (show ¬ (3 : Int) = 2 by omega), if_pos rfl]; exact Two.ok ⟨by first | (dsimp only; exact (a 3 (by omega)).trans s3) | (dsimp only; rw [if_neg (by omega)]; exact (a 3 (by omega)).trans s3), b3⟩
      · rw [if_neg (show ¬ (4 : Int) = 0 by omega), if_neg (show ¬ (4 : Int) = 1 by omega), if_neg (show ¬ (4 : Int) = 2 by omega), if_neg (show ¬ (4 : Int) = 3 by omega), if_pos rfl]; exact Two.ok ⟨by first | (dsimp only; exact (a 4 (by omega)).trans s5) | (dsimp only; rw [if_neg (by omega)]; exact (a 4 (by omega)).trans s5), b3⟩
      · rw [if_neg (show ¬ (5 : Int) = 0 by omega), if_neg (show ¬ (5 : Int) = 1 by omega), if_neg (show ¬ (5 : Int) = 2 by omega), if_neg (show ¬ (5 : Int) = 3 by omega), if_neg (show ¬ (5 : Int) = 4 by omega), if_pos rfl]; exact Two.ok ⟨by first | (dsimp only; exact (a 5 (by omega)).trans s6) | (dsimp only; rw [if_neg (by omega)]; exact (a 5 (by omega)).trans s6), b3⟩
  · rw [if_pos (isFromV_0.mpr hk)]
    -- the reference runs all the same
    refine Two.bindR (isPav g hc).toR (fun z hz => ?_)
    obtain ⟨q, -, b1, b2, b3, b4, b5⟩ := hz
    have fin : ∀ x : Int, Two (some ((V, h), (-1 : Int))) (some (z.1, (-1 : Int))) (fun q z => q.2 = z.2 ∧ G (c + 1) q.1.1 q.1.2 z.1) := fun _ => Two.ok ⟨rfl, g.mg b5⟩
    refine Two.iteR (fun _ => fin 0) (fun _ => ?_)
    rw [if_neg (by omega), if_neg (by omega), if_neg (by omega), if_neg (by omega), if_neg (by omega), if_neg (by omega)]
    exact fin 0
theorem isPavR {c : Int} {V U : VV} {h : HP} {w p : Int} (g : G c V h U) (hc : 0 ≤ c ∧ c ≤ 600) : Sm (f_Mo_isRun U w p) (fun z => (z.2 = 0 ∨ z.2 = 1) ∧ MG U z.1) := by
  refine (isPav (w := w) (p := p) g hc).toR.imp (fun z hz => ?_)
  obtain ⟨q, -, b1, b2, b3, b4, b5⟩ := hz
  exact ⟨b2, b5⟩
