/-! an operand -/
theorem operandL {o ob on : Nat} {b : Nat → Int} {sz : Nat} {bd : Prop} {lt : Int → Int} {V0 U0 : VV} {Q : QF} {V X : VV} {L : List (Int × Int)} {u : Nat} {rest : List Int} {d c x v : Int} {n : Nat} {F : KF} (r : RSE o ob on b sz V0 U0 V X L (List.replicate u 2 ++ rest) d 0 (n + 1)) (hk : V o 2 ≠ 0) (hr : rest = [] ∨ ∃ a p, rest = a :: p ∧ a ≠ 2) (hu : (u : Int) ≤ d) (hd : d ≤ 8) (ec : (if X 62 45 = 1 then 0 else 1 : Int) = c) (ex : (if X 62 45 = 1 then X 62 46 else f_Mo_letterOf X : Int) = x) (vb : VB bd lt [(c, x)] [] v) (k : AK1 o ob on b sz bd lt V0 U0 Q (V o 6) L rest (d - u) u F) {G : VV → Option (VV × Int)} (hG : ∀ W, G W = F (W, ngs 0 v)) : Two (Option.bind (f_Tape_next o ob on V) G) (Option.bind (f_Mo_beginOne_7 X) (fun q => f_Mo_readRate_6 (f_Mo_readRate_1 n) q.1 q.2)) Q := by
  obtain ⟨⟨a, h4, em, ⟨pl, h110⟩, h109, h111, hl, hs⟩, cf, fx, fu⟩ := r
  have ps := a.pos
  have len : (List.replicate u (2 : Int) ++ rest).length = u + rest.length := by rw [List.length_append, List.length_replicate]
  rw [len] at h110 hl
  unfold f_Mo_beginOne_7
  rw [ec, ex, obb]
  refine Two.bindR (emit1 em (by omega)) (fun Y1 h1 => ?_)
  obtain ⟨a1, a2, a3, a4⟩ := h1
  rw [obb]
  refine Two.bindR (wholeL u FU Y1 (L ++ [(c, x)]) rest d (by rw [FU_up]; omega) hr (PL.cg a4 _ pl) (by rw [a3 110 (by omega), len]; exact h110) (by rw [len]; omega) a1 (by rw [List.length_append]; show L.length + 1 + u ≤ 128; omega) (by rw [a3 109 (by omega)]; exact h109) hu (by omega)) (fun Y2 h2 => ?_)
  obtain ⟨b1, b2, b3, b4, b5, b6⟩ := h2
  have at2 : AT o ob on b sz V (up Y2 62 111 1) := FX.at a (fun i i1 i2 i3 i4 => by rw [up_na _ _ _ i1, b5.1 i i1 i2 i3 i4, a2.1 i i1 i2 i3 i4]) (fun i hi => by rw [up_nf _ _ (by omega), b5.2.1 i hi, a2.2.1 i hi])
  have e110 : (up Y2 62 111 1) 62 110 = (rest.length : Int) := by rw [up_nf _ _ (by omega)]; exact b3
  have fx2 : FX U0 (up Y2 62 111 1) := ((fx.tr a2.fx).tr b5.fx).w (by omega)
  have e109 : (up Y2 62 111 1) 62 109 = d - u := by rw [up_nf _ _ (by omega)]; exact b4
  have e111 : (up Y2 62 111 1) 62 111 = 1 := by rw [up_eq]
  have lenL : ((L ++ [(c, x)]) ++ List.replicate u (2, 0)).length = L.length + 1 + u := by rw [List.length_append, List.length_append, List.length_replicate]; rfl
  rw [obb]
  refine Two.bind2 (RST.next (L2 := (L ++ [(c, x)]) ++ List.replicate u (2, 0)) (p2 := rest) (⟨a, h4, em, ⟨pl, by rw [len]; exact h110⟩, h109, h111, by rw [len]; exact hl, hs⟩ : RST o ob on b sz V X L (List.replicate u 2 ++ rest) d 0) hk at2 (b1.w (by omega)) ⟨PL.cg (up_na _ _ _ (by omega)) _ b2, e110⟩ (by rw [lenL, len]; omega)) (fun W Z hW => ?_)
  obtain ⟨n1, n2, n3, n4⟩ := hW
  rw [e109, e111, List.append_assoc] at n1
  rw [hG, obs]
  unfold f_Mo_readRate_6
  rw [if_pos rfl]
  exact k W Z _ _ n ⟨n1, cf.tr n2.cf, fx2.tr n3.fx, by omega⟩ (vb.neg u) n4
