/-! one -/
theorem numP {o ob on : Nat} {b : Nat → Int} {sz : Nat} {V U : VV} (a : AT o ob on b sz V U) (h : V o 4 = 0) (g : V o 2 = 2) : (0 ≤ U 62 46 ∧ U 62 46 ≤ 9999 ∧ f_Tape_passNumber o ob on V 0 9999 = Option.bind (f_Tape_next o ob on V) (fun q => some (q, U 62 46))) ∨ (9999 < U 62 46 ∧ ∃ v, f_Tape_passNumber o ob on V 0 9999 = some (f_Tape_fail o ob on V 2, v)) := by
  obtain ⟨n1, n2⟩ := a.num
  obtain ⟨n3, n4, n5⟩ := n2 g
  unfold f_Tape_passNumber f_Tape_passNumber_6 lt_
  dsimp only
  rw [if_pos g]
  by_cases r : U 62 46 ≤ 9999
  · have e : V o 3 = U 62 46 := by omega
    refine Or.inl ⟨n4, r, ?_⟩
    rw [e, if_neg (show ¬ isFromV (U 62 46) 0 9999 = 0 by rw [isFromV_1 n4 r]; omega), sound1 h, if_neg (by omega)]
  · refine Or.inr ⟨by omega, ?_⟩
    obtain ⟨d1, d2⟩ := a.fail h (c := 2) (by omega)
    rw [if_pos (isFromV_0.mpr (by omega)), sound0 (V := f_Tape_fail o ob on V 2) (by rw [d1.1]; omega), if_pos rfl]
    exact ⟨_, rfl⟩
theorem opensP {o ob on : Nat} {b : Nat → Int} {sz : Nat} {V U : VV} (a : AT o ob on b sz V U) {x d : Int} (hx : 10 ≤ x ∧ x ≤ 254) : f_Rate_opens o ob on V x d = if U 62 45 = x then (if d < 8 then Option.bind (f_Tape_next o ob on V) (fun q => some (q, 1)) else some (f_Tape_fail o ob on V 3, 0)) else some (f_Tape_fail o ob on V 1, 0) := by
  unfold f_Rate_opens lt_
  rw [a.sign hx]
  by_cases g : U 62 45 = x
  · rw [if_pos g, if_neg (by omega), if_pos g]
  · rw [if_neg g, if_pos rfl, if_neg g]
theorem letterP {o ob on : Nat} {b : Nat → Int} {sz : Nat} {V U : VV} (a : AT o ob on b sz V U) : (U 62 45 = 2 ∧ 0 ≤ f_Mo_letterOf U ∧ f_Rate_letter o ob on V = Option.bind (f_Tape_next o ob on V) (fun q => some (q, ltV V (f_Mo_letterOf U)))) ∨ (¬ (U 62 45 = 2 ∧ 0 ≤ f_Mo_letterOf U) ∧ f_Rate_letter o ob on V = some (f_Tape_fail o ob on V 1, 0)) := by
  obtain ⟨w7, w8, w9, w10, w11, w12⟩ := rate_words
  have l9 := a.anyw (j := 9) (by omega)
  have l10 := a.anyw (j := 10) (by omega)
  have l11 := a.anyw (j := 11) (by omega)
  have l12 := a.anyw (j := 12) (by omega)
  rw [w9] at l9
  rw [w10] at l10
  rw [w11] at l11
  rw [w12] at l12
  by_cases g : U 62 45 = 2
  · rcases letterM (U := U) with ⟨e, h⟩ | ⟨e, h⟩ | ⟨e, h⟩ | ⟨e, h⟩ | ⟨e, h1, h2, h3, h4⟩
    · refine Or.inl ⟨g, by omega, ?_⟩
      rw [if_pos ⟨g, h⟩] at l9
      unfold f_Rate_letter f_Rate_letter_14 lt_
      rw [l9, obs, if_neg (by omega), e]
      rfl
    · refine Or.inl ⟨g, by omega, ?_⟩
      rw [if_neg (by omega)] at l9
      rw [if_pos ⟨g, h⟩] at l10
      unfold f_Rate_letter f_Rate_letter_14 lt_
      rw [l9, obs, if_pos rfl, l10, obs, if_neg (by omega), e]
      rfl
    · refine Or.inl ⟨g, by omega, ?_⟩
      rw [if_neg (by omega)] at l9
      rw [if_neg (by omega)] at l10
      rw [if_pos ⟨g, h⟩] at l11
      unfold f_Rate_letter f_Rate_letter_14 lt_
      rw [l9, obs, if_pos rfl, l10, obs, if_pos rfl, l11, obs, if_neg (by omega), e]
      rfl
    · refine Or.inl ⟨g, by omega, ?_⟩
      rw [if_neg (by omega)] at l9
      rw [if_neg (by omega)] at l10
      rw [if_neg (by omega)] at l11
      rw [if_pos ⟨g, h⟩] at l12
      unfold f_Rate_letter f_Rate_letter_14 lt_
      rw [l9, obs, if_pos rfl, l10, obs, if_pos rfl, l11, obs, if_pos rfl, l12, obs, if_neg (by omega), e]
      rfl
    · refine Or.inr ⟨by omega, ?_⟩
      rw [if_neg (by omega)] at l9
      rw [if_neg (by omega)] at l10
      rw [if_neg (by omega)] at l11
      rw [if_neg (by omega)] at l12
      unfold f_Rate_letter lt_
      rw [l9, obs, if_pos rfl, l10, obs, if_pos rfl, l11, obs, if_pos rfl, l12, obs, if_pos rfl]
  · refine Or.inr ⟨by omega, ?_⟩
    rw [if_neg (fun x => g x.1)] at l9
    rw [if_neg (fun x => g x.1)] at l10
    rw [if_neg (fun x => g x.1)] at l11
    rw [if_neg (fun x => g x.1)] at l12
    unfold f_Rate_letter lt_
    rw [l9, obs, if_pos rfl, l10, obs, if_pos rfl, l11, obs, if_pos rfl, l12, obs, if_pos rfl]
/-- the class has failed, the reference too -/
theorem deadL {o ob on : Nat} {b : Nat → Int} {sz : Nat} {V0 U0 : VV} {Q : QF} {V X Y : VV} {L : List (Int × Int)} {p : List Int} {d want : Int} {n : Nat} {F : KF} {c v : Int} (r : RSE o ob on b sz V0 U0 V X L p d want n) (hd : DK o V0 U0 Q F) (hc : c ≠ 0) (fx : FX X Y) (h44 : Y 62 44 = X 62 44) : Two (F (f_Tape_fail o ob on V c, v)) (some (Y, c)) Q := by
  obtain ⟨d1, d2⟩ := r.1.1.fail r.1.2.1 hc
  exact hd _ Y v c (by rw [h44]; exact d1) (r.2.1.tr d2) (r.2.2.1.tr fx)
/-- the end of what a bracket holds -/
theorem rshut {o ob on : Nat} {b : Nat → Int} {sz : Nat} {bd : Prop} {lt : Int → Int} {V0 U0 : VV} {Q : QF} {W Y : VV} {L Lx segT cl : List (Int × Int)} {ops rest : List Int} {u : Nat} {t d w pos : Int} {n : Nat} {F : KF} (r : RSE o ob on b sz V0 U0 W Y Lx (ops ++ t :: (List.replicate u 2 ++ rest)) (d + 1) 1 n) (ho2 : ∀ a, a ∈ ops → 3 ≤ a ∧ a ≤ 8) (ht : t = 20 ∧ cl = [] ∨ t = 23 ∧ cl = [(7, 0)] ∨ t = 24 ∧ cl = [(8, 0)]) (hu : (u : Int) ≤ d) (hd8 : d < 8) (hr : rest = [] ∨ ∃ a p, rest = a :: p ∧ a ≠ 2) (h1 : Y 62 45 ≠ 42 ∧ Y 62 45 ≠ 47) (h2 : Y 62 45 ≠ 43 ∧ Y 62 45 ≠ 45) (eL : L ++ segT = Lx ++ opm ops ++ cl) (vb : VB bd lt segT [] w) (hp : pos < W o 6) (hd : DK o V0 U0 Q F) (k : AK1 o ob on b sz bd lt V0 U0 Q pos L rest (d - u) u F) : Two (Option.bind (Option.bind (f_Tape_passSign o ob on W 41) (fun q1 => some (q1, w))) F) (f_Mo_readRate_1 n Y) Q := by
  obtain ⟨m, rfl⟩ := r.n2
  rw [obb, signP r.1.1 r.1.2.1 (by omega)]
  by_cases g : Y 62 45 = 41
  · rw [if_pos g]
    have hk : W o 2 ≠ 0 := fun x => by have := r.1.1.end_.mp x; omega
    refine closeL r ho2 ht g hk hu hd8 hr (fun W2 Y2 r2 hp2 => ?_)
    rw [obs]
    rw [← eL, List.append_assoc] at r2
    exact k W2 Y2 _ w m r2 (vb.neg u) (by omega)
  · rw [if_neg g, obs, obs]
    obtain ⟨⟨Z, c⟩, eZ, z1, z2, z3⟩ := stopL r ho2 (by omega) h1 h2 (fun x => absurd x g) (fun _ => by omega)
    rw [eZ]
    dsimp only at z1 z2 z3
    subst z1
    exact deadL r hd (by omega) z2 z3
