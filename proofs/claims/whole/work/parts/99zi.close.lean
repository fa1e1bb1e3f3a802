/-! closing -/
theorem closeT {o ob on : Nat} {b : Nat → Int} {sz : Nat} {V0 U0 : VV} {Q : QF} {V X Y1 : VV} {L L3 : List (Int × Int)} {p0 rest : List Int} {u : Nat} {d0 d : Int} {n : Nat} {G : VV → Option (VV × Int)} (r : RSE o ob on b sz V0 U0 V X L p0 d0 1 (n + 1)) (hk : V o 2 ≠ 0) (em : EM Y1 L3) (pl : PL Y1 (List.replicate u 2 ++ rest)) (h110 : Y1 62 110 = ((List.replicate u (2 : Int) ++ rest).length : Int)) (h109 : Y1 62 109 = d) (h111 : Y1 62 111 = 1) (hu : (u : Int) ≤ d) (hd : d ≤ 8) (fx1 : FX X Y1) (f62 : ∀ c, ¬ (108 ≤ c ∧ c ≤ 111) → Y1 62 c = X 62 c) (hr : rest = [] ∨ ∃ a p, rest = a :: p ∧ a ≠ 2) (hl : L3.length + (u + rest.length) ≤ L.length + p0.length + 1) (k : ∀ W Y, RSE o ob on b sz V0 U0 W Y (L3 ++ List.replicate u (2, 0)) rest (d - u) 1 n → V o 6 < W o 6 → Two (G W) (f_Mo_readRate_1 n Y) Q) : Two (Option.bind (f_Tape_next o ob on V) G) (Option.bind (f_Mo_behindOne_42 Y1) (fun q => f_Mo_readRate_6 (f_Mo_readRate_1 n) q.1 q.2)) Q := by
  have hl0 := r.len
  obtain ⟨r1, cf, fx, fu⟩ := r
  have len : (List.replicate u (2 : Int) ++ rest).length = u + rest.length := by rw [List.length_append, List.length_replicate]
  unfold f_Mo_behindOne_42 f_Mo_behindOne_45
  rw [obb]
  refine Two.bindR (wholeL u FU Y1 L3 rest d (by rw [FU_up]; omega) hr pl h110 (by rw [len]; omega) em (by omega) h109 hu (by omega)) (fun Y2 h2 => ?_)
  obtain ⟨b1, b2, b3, b4, b5, b6⟩ := h2
  have at2 : AT o ob on b sz V Y2 := FX.at r1.1 (fun i i1 i2 i3 i4 => by rw [b5.1 i i1 i2 i3 i4, fx1.1 i i1 i2 i3 i4]) (fun i hi => by rw [b5.2.1 i hi, f62 i hi])
  have e111 : Y2 62 111 = 1 := by rw [b6 111 (by omega)]; exact h111
  rw [obb]
  refine Two.bind2 (RST.next (L2 := L3 ++ List.replicate u (2, 0)) (p2 := rest) r1 hk at2 b1 ⟨b2, b3⟩ (by rw [List.length_append, List.length_replicate]; omega)) (fun W Z hW => ?_)
  obtain ⟨n1, n2, n3, n4⟩ := hW
  rw [b4, e111] at n1
  rw [obs]
  unfold f_Mo_readRate_6
  rw [if_pos rfl]
  exact k W Z ⟨n1, cf.tr n2.cf, ((fx.tr fx1).tr b5.fx).tr n3.fx, by omega⟩ n4
/-- a sum has ended: what the reference sees -/
theorem ended {o ob on : Nat} {b : Nat → Int} {sz : Nat} {V0 U0 : VV} {V X : VV} {L : List (Int × Int)} {ops q : List Int} {t d : Int} {n : Nat} (r : RSE o ob on b sz V0 U0 V X L (ops ++ t :: q) d 1 n) (ho2 : ∀ a, a ∈ ops → 3 ≤ a ∧ a ≤ 8) (ht : 20 ≤ t) : Sm (f_Mo_settleTo X 3) (fun Y => EM Y (L ++ opm ops) ∧ PL Y (t :: q) ∧ Y 62 110 = (q.length : Int) + 1 ∧ FE X Y ∧ ∀ k, k ≠ 108 → k ≠ 110 → Y 62 k = X 62 k) := by
  have hl0 := r.len
  obtain ⟨⟨a, h4, em, ⟨pl, h110⟩, h109, h111, hl, hs⟩, cf, fx, fu⟩ := r
  have len : (ops ++ t :: q).length = ops.length + (q.length + 1) := List.length_append
  exact settleL ops FU X L (t :: q) (by rw [FU_up]; omega) (fun x hx => by have := ho2 x hx; omega) (Or.inr ⟨t, q, rfl, Or.inl ht⟩) pl h110 (by omega) em (by omega)
theorem closeL {o ob on : Nat} {b : Nat → Int} {sz : Nat} {V0 U0 : VV} {Q : QF} {V X : VV} {L : List (Int × Int)} {ops rest : List Int} {u : Nat} {t d : Int} {cl : List (Int × Int)} {n : Nat} {G : VV → Option (VV × Int)} (r : RSE o ob on b sz V0 U0 V X L (ops ++ t :: (List.replicate u 2 ++ rest)) (d + 1) 1 (n + 1)) (ho2 : ∀ a, a ∈ ops → 3 ≤ a ∧ a ≤ 8) (ht : t = 20 ∧ cl = [] ∨ t = 23 ∧ cl = [(7, 0)] ∨ t = 24 ∧ cl = [(8, 0)]) (h45 : X 62 45 = 41) (hk : V o 2 ≠ 0) (hu : (u : Int) ≤ d) (hd : d < 8) (hr : rest = [] ∨ ∃ a p, rest = a :: p ∧ a ≠ 2) (k : ∀ W Y, RSE o ob on b sz V0 U0 W Y (L ++ opm ops ++ cl ++ List.replicate u (2, 0)) rest (d - u) 1 n → V o 6 < W o 6 → Two (G W) (f_Mo_readRate_1 n Y) Q) : Two (Option.bind (f_Tape_next o ob on V) G) (f_Mo_readRate_1 (n + 1) X) Q := by
  have hl0 := r.len
  have e111 := r.1.2.2.2.2.2.1
  have e109 := r.1.2.2.2.2.1
  have len : (ops ++ t :: (List.replicate u 2 ++ rest)).length = ops.length + (u + rest.length + 1) := by
    rw [List.length_append, List.length_cons, List.length_append, List.length_replicate]
  have len2 : (List.replicate u (2 : Int) ++ rest).length = u + rest.length := by rw [List.length_append, List.length_replicate]
  have lem : (opm ops).length = ops.length := List.length_map _
  show Two _ (if (X 62 45) = 0 then _ else if (X 62 111) = 0 then _ else Option.bind (f_Mo_behindOne X) (fun q8 => f_Mo_readRate_6 (f_Mo_readRate_1 n) q8.1 q8.2)) Q
  rw [h45, if_neg (by omega), e111, if_neg (by omega)]
  unfold f_Mo_behindOne
  rw [h45, if_neg (show ¬ (41 : Int) = 43 by omega), if_neg (show ¬ (41 : Int) = 45 by omega), if_neg (show ¬ (41 : Int) = 42 by omega), if_neg (show ¬ (41 : Int) = 47 by omega), if_neg (show ¬ (41 : Int) = 44 by omega), if_pos rfl, obb]
  refine Two.bindR (ended r ho2 (by omega)) (fun Y1 h1 => ?_)
  obtain ⟨a1, a2, a3, a4, a5⟩ := h1
  rw [len2] at a3
  have e1 : w32 (((u + rest.length : Nat) : Int) + 1 - 1) = ((u + rest.length : Nat) : Int) := by rw [w32_id (by omega) (by omega)]; omega
  have e2 : Y1 62 109 = d + 1 := by rw [a5 109 (by omega) (by omega)]; exact e109
  have e3 : w32 (d + 1 - 1) = d := by rw [w32_id (by omega) (by omega)]; omega
  have e4 : Y1 120 (u + rest.length) = t := by have := a2.1; rw [len2] at this; exact this
  have e5 : Y1 62 111 = 1 := by rw [a5 111 (by omega) (by omega)]; exact e111
  have i3 : 0 ≤ ((u + rest.length : Nat) : Int) ∧ ((u + rest.length : Nat) : Int) < (128 : Int) := by omega
  rw [a3, e1, Int.toNat_natCast, e4, e2, e3, if_neg (by omega), if_pos i3, if_neg (show ¬ t = 21 by omega), if_pos i3, if_neg (show ¬ t = 22 by omega), if_pos i3]
  have em2 : EM (up (up Y1 62 110 ((u + rest.length : Nat) : Int)) 62 109 d) (L ++ opm ops) := (a1.w (by omega)).w (by omega)
  have pl2 : PL (up (up Y1 62 110 ((u + rest.length : Nat) : Int)) 62 109 d) (List.replicate u 2 ++ rest) := PL.cg (by rw [up_na _ _ _ (by omega), up_na _ _ _ (by omega)]) _ a2.2
  have f2 : ∀ c, ¬ (108 ≤ c ∧ c ≤ 111) → (up (up Y1 62 110 ((u + rest.length : Nat) : Int)) 62 109 d) 62 c = X 62 c := fun c hc => by rw [up_nf _ _ (by omega), up_nf _ _ (by omega), a4.2.1 c hc]
  have fx2 : FX X (up (up Y1 62 110 ((u + rest.length : Nat) : Int)) 62 109 d) := (a4.fx.w (by omega)).w (by omega)
  have g109 : (up (up Y1 62 110 ((u + rest.length : Nat) : Int)) 62 109 d) 62 109 = d := up_eq _ _ _ _
  have g110 : (up (up Y1 62 110 ((u + rest.length : Nat) : Int)) 62 109 d) 62 110 = ((List.replicate u (2 : Int) ++ rest).length : Int) := by rw [up_nf _ _ (by omega), up_eq, len2]
  have g111 : (up (up Y1 62 110 ((u + rest.length : Nat) : Int)) 62 109 d) 62 111 = 1 := by rw [up_nf _ _ (by omega), up_nf _ _ (by omega)]; exact e5
  generalize up (up Y1 62 110 ((u + rest.length : Nat) : Int)) 62 109 d = Z at *
  rcases ht with ⟨t0, rfl⟩ | ht
  · rw [if_neg (by omega)]
    rw [List.append_nil] at k
    exact closeT r hk em2 pl2 g110 g109 g111 hu (by omega) fx2 f2 hr (by rw [List.length_append, lem, len]; omega) k
  · rw [if_pos (by omega), if_pos i3, obb]
    have ecl : cl = [((if t = 23 then 7 else 8 : Int), 0)] := by
      rcases ht with ⟨e, rfl⟩ | ⟨e, rfl⟩
      · rw [if_pos e]
      · rw [if_neg (by omega)]
    rw [ecl] at k
    generalize (if t = 23 then 7 else 8 : Int) = tc at *
    refine Two.bindR (emit1 em2 (by rw [List.length_append, lem]; omega)) (fun Y3 h3 => ?_)
    obtain ⟨c1, c2, c3, c4⟩ := h3
    exact closeT r hk c1 (PL.cg c4 _ pl2) (by rw [c3 110 (by omega)]; exact g110) (by rw [c3 109 (by omega)]; exact g109) (by rw [c3 111 (by omega)]; exact g111) hu (by omega) (fx2.tr c2.fx) (fun c hc => by rw [c2.2.1 c hc]; exact f2 c hc) hr (by rw [List.length_append, List.length_append, lem, len]; show L.length + ops.length + 1 + _ ≤ _; omega) k
