/-! pay -/
def PST (c : Int) (h : HP) (N : Int) (V X : VV) : Prop := LA V X ∧ nJ V = N ∧ V 46 12 ≤ nJ V ∧ (∀ i : Nat, (i : Int) < N → V 58 i = X 122 i ∧ 0 ≤ V 58 i ∧ V 58 i < N) ∧ G c V h X ∧ ∀ j : Nat, (j : Int) < N → V 9 j = X 70 j ∧ 0 ≤ V 9 j ∧ V 9 j ≤ 3744
theorem PST.kc {c : Int} {h : HP} {N : Int} {V X W : VV} (p : PST c h N V X) (k : KC V W) : PST c h N W X := by
  obtain ⟨p1, p2, p3, p4, p5, p6⟩ := p
  refine ⟨p1.kc k, by rw [kc_nJ k]; exact p2, by rw [kc_nJ k, k.1 46 (by omega) (by omega) (by omega)]; exact p3, ?_, p5.kc k p3, ?_⟩
  · rw [k.1 58 (by omega) (by omega) (by omega)]; exact p4
  · rw [k.1 9 (by omega) (by omega) (by omega)]; exact p6
theorem LA.cg {V U W X : VV} (l : LA V U) (w : ∀ i, (i < 25 ∨ (27 ≤ i ∧ i ≤ 57)) → W i = V i) (u : ∀ i, i ≠ 121 → X i = U i) : LA W X := by
  obtain ⟨a1, a2, a3, a4, a5, a6, a7⟩ := l
  have nj : nJ W = nJ V := by unfold nJ; rw [w 1 (by omega)]
  refine ⟨?_, ?_, ?_, ?_, ?_, ?_, fun j hj => ?_⟩
  · unfold RS; rw [w 1 (by omega), w 2 (by omega), w 3 (by omega), w 6 (by omega), w 7 (by omega)]; exact a1
  · unfold WmOK; rw [w 15 (by omega)]; exact a2
  · rw [nj, w 1 (by omega), u 62 (by omega)]; exact a3
  · rw [w 15 (by omega), u 62 (by omega)]; exact a4
  · rw [w 54 (by omega), u 79 (by omega)]; exact a5
  · rw [nj, w 56 (by omega), u 112 (by omega)]; exact a6
  · rw [nj] at hj
    obtain ⟨b1, b2⟩ := a7 j hj
    refine ⟨?_, ?_⟩
    · unfold CoolK shJ mnJ at b1 ⊢
      rw [w 34 (by omega), w 35 (by omega), w 36 (by omega), w 8 (by omega), w 33 (by omega), w 15 (by omega)]
      exact b1
    · unfold mnJ at b2 ⊢
      rw [w 32 (by omega), w 33 (by omega), w 48 (by omega), w 8 (by omega), w 15 (by omega), u 97 (by omega), u 98 (by omega), u 96 (by omega), u 109 (by omega)]
      exact b2
theorem PST.tell {c : Int} {h : HP} {N : Int} {V X W Z : VV} (p : PST c h N V X) (w : ∀ i, i ≠ 25 → i ≠ 26 → W i = V i) (w26 : W 26 1 = V 26 1) (u : ∀ i, i ≠ 121 → Z i = X i) : PST c h N W Z := by
  obtain ⟨p1, p2, p3, p4, g, p6⟩ := p
  have tp := g.2.2.2.2.2.1
  have nj : nJ W = nJ V := by unfold nJ; rw [w 1 (by omega) (by omega)]
  have g2 : G (c + 1) W h Z := g.inn (W := W) (U2 := Z) (fun i hi => w i (by omega) (by omega)) (by rw [w 0 (by omega) (by omega)]) (by rw [w 18 (by omega) (by omega)]) (by rw [w 18 (by omega) (by omega)]) w26 (fun k hk => by rw [u 62 (by omega)]) (fun i hi => u i (by omega)) (fun i a b k hk => by rw [u i (by omega)]) (fun k hk => by rw [u 118 (by omega), u 119 (by omega)]; exact ⟨rfl, rfl⟩) (by
    unfold TAPS
    rw [w 16 (by omega) (by omega), w 17 (by omega) (by omega), u 62 (by omega), u 80 (by omega)]
    exact tp) (by
    rw [w 0 (by omega) (by omega), u 62 (by omega)]
    exact g.2.2.2.2.2.2.1)
  refine ⟨p1.cg (fun i hi => w i (by omega) (by omega)) u, by rw [nj]; exact p2, by rw [nj, w 46 (by omega) (by omega)]; exact p3, ?_, ⟨g2.1, by rw [w 46 (by omega) (by omega)]; exact g.2.1, g2.2.2⟩, ?_⟩
  · rw [w 58 (by omega) (by omega), u 122 (by omega)]; exact p4
  · rw [w 9 (by omega) (by omega), u 70 (by omega)]; exact p6
def PQ (c : Int) (h : HP) (q : (VV × HP) × Int) (z : VV × Int) : Prop := q.2 = z.2 ∧ G c q.1.1 q.1.2 z.1
