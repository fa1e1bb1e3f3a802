/-! a comma, and what stops -/
theorem commaL {o ob on : Nat} {b : Nat → Int} {sz : Nat} {V0 U0 : VV} {Q : QF} {V X : VV} {L : List (Int × Int)} {ops q : List Int} {t d : Int} {n : Nat} {G : VV → Option (VV × Int)} (r : RSE o ob on b sz V0 U0 V X L (ops ++ t :: q) d 1 (n + 1)) (ho2 : ∀ a, a ∈ ops → 3 ≤ a ∧ a ≤ 8) (ht : t = 21 ∨ t = 22) (h45 : X 62 45 = 44) (hk : V o 2 ≠ 0) (k : ∀ W Y, RSE o ob on b sz V0 U0 W Y (L ++ opm ops) ((t + 2) :: q) d 0 n → V o 6 < W o 6 → Two (G W) (f_Mo_readRate_1 n Y) Q) : Two (Option.bind (f_Tape_next o ob on V) G) (f_Mo_readRate_1 (n + 1) X) Q := by
  have hl0 := r.len
  have e111 := r.1.2.2.2.2.2.1
  have e109 := r.1.2.2.2.2.1
  have len : (ops ++ t :: q).length = ops.length + (q.length + 1) := List.length_append
  have lem : (opm ops).length = ops.length := List.length_map _
  show Two _ (if (X 62 45) = 0 then _ else if (X 62 111) = 0 then _ else Option.bind (f_Mo_behindOne X) (fun q8 => f_Mo_readRate_6 (f_Mo_readRate_1 n) q8.1 q8.2)) Q
  rw [h45, if_neg (by omega), e111, if_neg (by omega)]
  unfold f_Mo_behindOne
  rw [h45, if_neg (show ¬ (44 : Int) = 43 by omega), if_neg (show ¬ (44 : Int) = 45 by omega), if_neg (show ¬ (44 : Int) = 42 by omega), if_neg (show ¬ (44 : Int) = 47 by omega), if_pos rfl, obb]
  refine Two.bindR (ended r ho2 (by omega)) (fun Y1 h1 => ?_)
  obtain ⟨a1, a2, a3, a4, a5⟩ := h1
  have e1 : w32 ((q.length : Int) + 1 - 1) = (q.length : Int) := by rw [w32_id (by omega) (by omega)]; omega
  have e4 : Y1 120 q.length = t := a2.1
  have i3 : 0 ≤ (q.length : Int) ∧ (q.length : Int) < (128 : Int) := by omega
  have go : Two (Option.bind (f_Tape_next o ob on V) G) (Option.bind (f_Mo_behindOne_24 Y1) (fun q8 => f_Mo_readRate_6 (f_Mo_readRate_1 n) q8.1 q8.2)) Q := by
    unfold f_Mo_behindOne_24 f_Mo_behindOne_45
    rw [a3, e1, Int.toNat_natCast, e4, if_pos i3, if_pos i3, w32_id (x := t + 2) (by omega) (by omega), obb]
    have r1 := r.1
    have at2 : AT o ob on b sz V (up (up Y1 120 q.length (t + 2)) 62 111 0) := FX.at r1.1 (fun i i1 i2 i3 i4 => by rw [up_na _ _ _ i1, up_na _ _ _ i4, a4.1 i i1 i2 i3 i4]) (fun i hi => by rw [up_nf _ _ (by omega), up_na _ _ _ (by omega), a4.2.1 i hi])
    have em2 : EM (up (up Y1 120 q.length (t + 2)) 62 111 0) (L ++ opm ops) := (a1.cg (Y := up Y1 120 q.length (t + 2)) (by rw [up_na _ _ _ (by omega)]) (up_na _ _ _ (by omega)) (up_na _ _ _ (by omega))).w (by omega)
    have pl2 : PL (up (up Y1 120 q.length (t + 2)) 62 111 0) ((t + 2) :: q) := by
      refine PL.cg (up_na _ _ _ (by omega)) _ ⟨up_eq _ _ _ _, ?_⟩
      have hup : ∀ (p : List Int) (V : VV), p.length ≤ q.length → PL V p → PL (up V 120 q.length (t + 2)) p := by
        intro p
        induction p with
        | nil => intro _ _ _; trivial
        | cons x p ih =>
          intro V hp h2
          have hp' : p.length + 1 ≤ q.length := hp
          exact ⟨by rw [up_nf _ _ (by omega)]; exact h2.1, ih V (by omega) h2.2⟩
      exact hup q Y1 (Nat.le_refl _) a2.2
    have f2 : FX X (up (up Y1 120 q.length (t + 2)) 62 111 0) := by
      refine FX.w ⟨fun i i1 i2 i3 i4 => by rw [up_na _ _ _ i4, a4.1 i i1 i2 i3 i4], fun c _ hc => by rw [up_na _ _ _ (by omega), a4.2.1 c hc], fun c hc => by rw [up_na _ _ _ (by omega), up_na _ _ _ (by omega)]; exact a4.2.2 c hc⟩ (by omega)
    have g109 : (up (up Y1 120 q.length (t + 2)) 62 111 0) 62 109 = d := by rw [up_nf _ _ (by omega), up_na _ _ _ (by omega), a5 109 (by omega) (by omega)]; exact e109
    have g111 : (up (up Y1 120 q.length (t + 2)) 62 111 0) 62 111 = 0 := up_eq _ _ _ _
    have g110 : (up (up Y1 120 q.length (t + 2)) 62 111 0) 62 110 = (((t + 2) :: q).length : Int) := by rw [up_nf _ _ (by omega), up_na _ _ _ (by omega), a3]; rfl
    generalize up (up Y1 120 q.length (t + 2)) 62 111 0 = Z at *
    refine Two.bind2 (RST.next (L2 := L ++ opm ops) (p2 := (t + 2) :: q) r1 hk at2 em2 ⟨pl2, g110⟩ (by rw [List.length_append, lem, len]; show L.length + ops.length + (q.length + 1) ≤ _; omega)) (fun W Z2 hW => ?_)
    obtain ⟨n1, n2, n3, n4⟩ := hW
    rw [g109, g111] at n1
    rw [obs]
    unfold f_Mo_readRate_6
    rw [if_pos rfl]
    have cf := r.2.1
    have fx := r.2.2.1
    have fu := r.2.2.2
    exact k W Z2 ⟨n1, cf.tr n2.cf, (fx.tr f2).tr n3.fx, by omega⟩ n4
  rw [a3, e1, Int.toNat_natCast, e4, if_neg (by omega), if_pos i3]
  rcases ht with h | h
  · rw [if_pos h]; exact go
  · rw [if_neg (by omega), if_pos i3, if_pos h]; exact go
theorem stopL {o ob on : Nat} {b : Nat → Int} {sz : Nat} {V0 U0 : VV} {V X : VV} {L : List (Int × Int)} {ops q : List Int} {t d : Int} {n : Nat} (r : RSE o ob on b sz V0 U0 V X L (ops ++ t :: q) d 1 (n + 1)) (ho2 : ∀ a, a ∈ ops → 3 ≤ a ∧ a ≤ 8) (ht : 20 ≤ t) (h1 : X 62 45 ≠ 42 ∧ X 62 45 ≠ 47) (h2 : X 62 45 ≠ 43 ∧ X 62 45 ≠ 45) (h41 : X 62 45 = 41 → t = 21 ∨ t = 22) (h44 : X 62 45 = 44 → t ≠ 21 ∧ t ≠ 22) : Sm (f_Mo_readRate_1 (n + 1) X) (fun z => z.2 = 1 ∧ FX X z.1 ∧ z.1 62 44 = X 62 44) := by
  have hl0 := r.len
  have e111 := r.1.2.2.2.2.2.1
  have len : (ops ++ t :: q).length = ops.length + (q.length + 1) := List.length_append
  have e1 : w32 ((q.length : Int) + 1 - 1) = (q.length : Int) := by rw [w32_id (by omega) (by omega)]; omega
  have i3 : 0 ≤ (q.length : Int) ∧ (q.length : Int) < (128 : Int) := by omega
  have en := ended r ho2 ht
  show Sm (if (X 62 45) = 0 then if (X 62 111) = 0 then some (X, 1) else Option.bind (f_Mo_settleTo X 3) (fun q3 => some (q3, (if 0 < (q3 62 110) then 1 else 0 : Int))) else if (X 62 111) = 0 then _ else Option.bind (f_Mo_behindOne X) (fun q8 => f_Mo_readRate_6 (f_Mo_readRate_1 n) q8.1 q8.2)) _
  rw [e111, if_neg (show ¬ (1 : Int) = 0 by omega), if_neg (show ¬ (1 : Int) = 0 by omega)]
  refine Sm.ite (fun _ => ?_) (fun g0 => ?_)
  · refine Sm.bind en (fun Y _ hY => ?_)
    obtain ⟨a1, a2, a3, a4, a5⟩ := hY
    rw [a3, if_pos (by omega)]
    exact Sm.ok ⟨rfl, a4.fx, a4.2.1 44 (by omega)⟩
  · unfold f_Mo_behindOne
    rw [if_neg h2.1, if_neg h2.2, if_neg h1.1, if_neg h1.2]
    by_cases g44 : X 62 45 = 44
    · have t44 := h44 g44
      rw [if_pos g44, obb]
      refine Sm.bind en (fun Y _ hY => ?_)
      obtain ⟨a1, a2, a3, a4, a5⟩ := hY
      have e4 : Y 120 q.length = t := a2.1
      rw [a3, e1, Int.toNat_natCast, e4, if_neg (by omega), if_pos i3, if_neg t44.1, if_pos i3, if_neg t44.2, obs]
      unfold f_Mo_readRate_6
      rw [if_neg (show ¬ (1 : Int) = 0 by omega)]
      exact Sm.ok ⟨rfl, a4.fx, a4.2.1 44 (by omega)⟩
    · rw [if_neg g44]
      by_cases g41 : X 62 45 = 41
      · have t41 := h41 g41
        rw [if_pos g41, obb]
        refine Sm.bind en (fun Y _ hY => ?_)
        obtain ⟨a1, a2, a3, a4, a5⟩ := hY
        have e4 : Y 120 q.length = t := a2.1
        have fin : Sm (Option.bind (some (Y, (1 : Int))) (fun q8 => f_Mo_readRate_6 (f_Mo_readRate_1 n) q8.1 q8.2)) (fun z => z.2 = 1 ∧ FX X z.1 ∧ z.1 62 44 = X 62 44) := by
          rw [obs]
          unfold f_Mo_readRate_6
          rw [if_neg (show ¬ (1 : Int) = 0 by omega)]
          exact Sm.ok ⟨rfl, a4.fx, a4.2.1 44 (by omega)⟩
        rw [a3, e1, Int.toNat_natCast, e4, if_neg (by omega), if_pos i3]
        rcases t41 with h | h
        · rw [if_pos h]; exact fin
        · rw [if_neg (by omega), if_pos i3, if_pos h]; exact fin
      · rw [if_neg g41, obs]
        unfold f_Mo_readRate_6
        rw [if_neg (show ¬ (1 : Int) = 0 by omega)]
        exact Sm.ok ⟨rfl, FX.rf, rfl⟩
/-- a sign is asked for -/
theorem signP {o ob on : Nat} {b : Nat → Int} {sz : Nat} {V U : VV} (a : AT o ob on b sz V U) (h : V o 4 = 0) {x : Int} (hx : 10 ≤ x ∧ x ≤ 254) : f_Tape_passSign o ob on V x = if U 62 45 = x then f_Tape_next o ob on V else some (f_Tape_fail o ob on V 1) := by
  unfold f_Tape_passSign f_Tape_passSign_6 lt_
  rw [sound1 h, if_neg (by omega), a.sign hx]
  by_cases g : U 62 45 = x
  · rw [if_pos g, if_neg (by omega), if_pos g]
    cases f_Tape_next o ob on V <;> rfl
  · rw [if_neg g, if_pos rfl, if_neg g]
