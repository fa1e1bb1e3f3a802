/-! opening, and an operator -/
theorem pushL {o ob on : Nat} {b : Nat → Int} {sz : Nat} {V0 U0 : VV} {Q : QF} {V X : VV} {L : List (Int × Int)} {p : List Int} {d c t : Int} {n m : Nat} {G : VV → Option (VV × Int)} (r : RSE o ob on b sz V0 U0 V X L p d 0 m) (hm : m ≤ n + 1) (hk : V o 2 ≠ 0) (hd : 0 ≤ d ∧ d < 8) (et : (if c = 7 then 21 else (if c = 8 then 22 else c : Int) : Int) = t) (k : ∀ W Y, RSE o ob on b sz V0 U0 W Y L (t :: p) (d + 1) 0 n → V o 6 < W o 6 → Two (G W) (f_Mo_readRate_1 n Y) Q) : Two (Option.bind (f_Tape_next o ob on V) G) (Option.bind (f_Mo_beginOne_37 X c) (fun q => f_Mo_readRate_6 (f_Mo_readRate_1 n) q.1 q.2)) Q := by
  obtain ⟨⟨a, h4, em, ⟨pl, h110⟩, h109, h111, hl, hs⟩, cf, fx, fu⟩ := r
  have ps := a.pos
  unfold f_Mo_beginOne_37
  rw [h109, if_neg (by omega), et, w32_id (x := d + 1) (by omega) (by omega), obb]
  refine Two.bindR (push1 (p := p) (PL.cg (up_na _ _ _ (by omega)) _ pl) (by rw [up_nf _ _ (by omega)]; exact h110) (by omega)) (fun Y1 h1 => ?_)
  obtain ⟨a1, a2, a3, a4, a5⟩ := h1
  have fx2 : FX X Y1 := (FX.rf.w (by omega)).tr a3.fx
  have at2 : AT o ob on b sz V Y1 := FX.at a (fun i i1 i2 i3 i4 => by rw [fx2.1 i i1 i2 i3 i4]) (fun i hi => by rw [a4 i (by omega), up_nf _ _ (by omega)])
  rw [obb]
  refine Two.bind2 (RST.next (L2 := L) (p2 := t :: p) (⟨a, h4, em, ⟨pl, h110⟩, h109, h111, hl, hs⟩ : RST o ob on b sz V X L p d 0) hk at2 (a5 L (em.w (by omega))) ⟨a1, a2⟩ (by show L.length + (p.length + 1) ≤ _; omega)) (fun W Z hW => ?_)
  obtain ⟨n1, n2, n3, n4⟩ := hW
  rw [a4 109 (by omega), up_eq, a4 111 (by omega), up_nf _ _ (by omega), h111] at n1
  rw [obs]
  unfold f_Mo_readRate_6
  rw [if_pos rfl]
  exact k W Z ⟨n1, cf.tr n2.cf, (fx.tr fx2).tr n3.fx, by omega⟩ n4
theorem opL {o ob on : Nat} {b : Nat → Int} {sz : Nat} {V0 U0 : VV} {Q : QF} {V X : VV} {L : List (Int × Int)} {ops rest : List Int} {d c lo : Int} {n : Nat} {G : VV → Option (VV × Int)} (r : RSE o ob on b sz V0 U0 V X L (ops ++ rest) d 1 (n + 1)) (ho : ∀ a, a ∈ ops → lo ≤ a) (ho2 : ∀ a, a ∈ ops → 3 ≤ a ∧ a ≤ 8) (hr : RTOP lo rest) (hk : V o 2 ≠ 0) (k : ∀ W Y, RSE o ob on b sz V0 U0 W Y (L ++ opm ops) (c :: rest) d 0 n → V o 6 < W o 6 → Two (G W) (f_Mo_readRate_1 n Y) Q) : Two (Option.bind (f_Tape_next o ob on V) G) (Option.bind (Option.bind (f_Mo_settleTo X lo) (fun q1 => Option.bind (f_Mo_push q1 c) (fun q3 => f_Mo_behindOne_45 (up q3 62 111 0)))) (fun q => f_Mo_readRate_6 (f_Mo_readRate_1 n) q.1 q.2)) Q := by
  have hl0 := r.len
  obtain ⟨⟨a, h4, em, ⟨pl, h110⟩, h109, h111, hl, hs⟩, cf, fx, fu⟩ := r
  have len : (ops ++ rest).length = ops.length + rest.length := List.length_append
  have lem : (opm ops).length = ops.length := List.length_map _
  rw [obb]
  refine Two.bindR (settleL ops FU X L rest (by rw [FU_up]; omega) (fun x hx => ⟨ho x hx, by have := ho2 x hx; omega⟩) hr.st pl h110 (by omega) em (by omega)) (fun Y1 h1 => ?_)
  obtain ⟨a1, a2, a3, a4, a5⟩ := h1
  rw [obb]
  refine Two.bindR (push1 (a := c) a2 a3 (by omega)) (fun Y2 h2 => ?_)
  obtain ⟨b1, b2, b3, b4, b5⟩ := h2
  have at2 : AT o ob on b sz V (up Y2 62 111 0) := FX.at a (fun i i1 i2 i3 i4 => by rw [up_na _ _ _ i1, b3.1 i i1 i2 i3 i4, a4.1 i i1 i2 i3 i4]) (fun i hi => by rw [up_nf _ _ (by omega), b3.2.1 i hi, a4.2.1 i hi])
  have fx2 : FX U0 (up Y2 62 111 0) := ((fx.tr a4.fx).tr b3.fx).w (by omega)
  have e109 : (up Y2 62 111 0) 62 109 = d := by rw [up_nf _ _ (by omega), b4 109 (by omega), a5 109 (by omega) (by omega)]; exact h109
  have e111 : (up Y2 62 111 0) 62 111 = 0 := by rw [up_eq]
  unfold f_Mo_behindOne_45
  rw [obb]
  refine Two.bind2 (RST.next (L2 := L ++ opm ops) (p2 := c :: rest) (⟨a, h4, em, ⟨pl, h110⟩, h109, h111, hl, hs⟩ : RST o ob on b sz V X L (ops ++ rest) d 1) hk at2 ((b5 _ a1).w (by omega)) ⟨PL.cg (up_na _ _ _ (by omega)) _ b1, by rw [up_nf _ _ (by omega)]; exact b2⟩ (by rw [List.length_append, lem, len]; show L.length + ops.length + (rest.length + 1) ≤ _; omega)) (fun W Z hW => ?_)
  obtain ⟨n1, n2, n3, n4⟩ := hW
  rw [e109, e111] at n1
  rw [obs]
  unfold f_Mo_readRate_6
  rw [if_pos rfl]
  exact k W Z ⟨n1, cf.tr n2.cf, fx2.tr n3.fx, by omega⟩ n4
