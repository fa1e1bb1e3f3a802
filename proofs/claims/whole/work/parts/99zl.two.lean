/-! brackets -/
theorem deep {X : VV} {c : Int} {n : Nat} (h : X 62 109 = 8) : Option.bind (f_Mo_beginOne_37 X c) (fun q => f_Mo_readRate_6 (f_Mo_readRate_1 n) q.1 q.2) = some (X, 3) := by
  unfold f_Mo_beginOne_37 f_Mo_readRate_6
  rw [if_pos h, obs, if_neg (show ¬ (3 : Int) = 0 by omega)]
theorem DK.o39 {o ob on : Nat} {V0 U0 : VV} {Q : QF} {F : KF} {kS kO : VV → Int → Option (VV × Int)} (h : DK o V0 U0 Q F) {g : Int → Int} : DK o V0 U0 Q (fun q => Option.bind (f_Rate_one_39 o ob on kS kO q.1 (g q.2)) F) := by
  intro W Y v c d cf fx
  unfold f_Rate_one_39
  show Two (Option.bind (Option.bind (f_Tape_passSign o ob on W 41) _) F) _ Q
  rw [signD (by rw [d.1]; exact d.2.1), obs, obs]
  exact h W Y _ c d cf fx
theorem parenL {o ob on : Nat} {b : Nat → Int} {sz : Nat} {bd : Prop} {lt : Int → Int} {V0 U0 : VV} {Q : QF} {V X : VV} {L : List (Int × Int)} {u : Nat} {rest : List Int} {d M v3 : Int} {n m : Nat} {F : KF} {kS kO : VV → Int → Option (VV × Int)} (hS : ManyP o ob on b sz bd lt V0 U0 Q 3 kS (M + 1)) (r : RSE o ob on b sz V0 U0 V X L (List.replicate u 2 ++ rest) d 0 m) (hm : m ≤ n + 1) (h45 : X 62 45 = 40) (hM : M ≤ d) (hd8 : d ≤ 8) (hu : (u : Int) ≤ d) (hr : rest = [] ∨ ∃ a p, rest = a :: p ∧ a ≠ 2) (hD : DK o V0 U0 Q F) (k : AK1 o ob on b sz bd lt V0 U0 Q (V o 6) L rest (d - u) u F) : Two (Option.bind (f_Rate_one_24 o ob on kS kO V d v3 0) F) (Option.bind (f_Mo_beginOne_37 X 20) (fun q => f_Mo_readRate_6 (f_Mo_readRate_1 n) q.1 q.2)) Q := by
  have a := r.1.1
  have hk : V o 2 ≠ 0 := fun x => by have := a.end_.mp x; omega
  have e109 := r.1.2.2.2.2.1
  unfold f_Rate_one_24
  rw [opensP a (by omega), if_pos h45]
  by_cases g : d < 8
  · rw [if_pos g, obb, obb]
    refine pushL r hm hk ⟨by omega, g⟩ (t := 20) (by rw [if_neg (by omega), if_neg (by omega)]) (fun W Y r2 hp => ?_)
    rw [obs]
    dsimp only
    rw [if_neg (show ¬ (1 : Int) = 0 by omega), w32_id (x := d + 1) (by omega) (by omega), obb]
    refine hS _ W Y L (20 :: (List.replicate u 2 ++ rest)) (d + 1) n (by omega) (by omega) (by omega) (Or.inr ⟨20, _, rfl, Or.inl (by omega)⟩) r2 ?_ ?_
    · intro W2 Y2 v c dd cf fx
      show Two (Option.bind (if (0 : Int) = 0 then _ else _) F) _ Q
      rw [if_pos rfl]
      exact (hD.o39 (g := fun x => x)) W2 Y2 v c dd cf fx
    · intro W2 Y2 seg ops v n2 r3 _ vb hp2 t1 t2
      show Two (Option.bind (if (0 : Int) = 0 then _ else _) F) _ Q
      rw [if_pos rfl]
      unfold f_Rate_one_39
      exact rshut r3 vb.2.1 (Or.inl ⟨rfl, rfl⟩) hu g hr t1 (t2 rfl) (L := L) (segT := seg ++ opm ops) (by rw [List.append_nil, List.append_assoc]) vb.set (show V o 6 < W2 o 6 by omega) hD k
  · rw [if_neg g, obs]
    dsimp only
    rw [if_pos rfl, obs, deep (by omega)]
    exact deadL r hD (by omega) FX.rf rfl
theorem opV78 {c v3 : Int} (h : c = 7 ∧ v3 = 1 ∨ c = 8 ∧ v3 = 0) (x y : Int) : opV c x y = (if v3 = 0 then max x y else min x y) := by
  unfold opV
  rcases h with ⟨rfl, rfl⟩ | ⟨rfl, rfl⟩
  · rw [if_neg (by omega), if_neg (by omega), if_neg (by omega), if_neg (by omega), if_pos rfl, if_neg (by omega)]
  · rw [if_neg (by omega), if_neg (by omega), if_neg (by omega), if_neg (by omega), if_neg (by omega), if_pos rfl]
theorem twoL {o ob on : Nat} {b : Nat → Int} {sz : Nat} {bd : Prop} {lt : Int → Int} {V0 U0 : VV} {Q : QF} {V X : VV} {L : List (Int × Int)} {u : Nat} {rest : List Int} {d M v3 c : Int} {n : Nat} {F : KF} {kS kO : VV → Int → Option (VV × Int)} (hS : ManyP o ob on b sz bd lt V0 U0 Q 3 kS (M + 1)) (r : RSE o ob on b sz V0 U0 V X L (List.replicate u 2 ++ rest) d 0 (n + 1)) (hk : V o 2 ≠ 0) (hM : M ≤ d) (hd8 : d ≤ 8) (hu : (u : Int) ≤ d) (hr : rest = [] ∨ ∃ a p, rest = a :: p ∧ a ≠ 2) (hc : c = 7 ∧ v3 = 1 ∨ c = 8 ∧ v3 = 0) (hD : DK o V0 U0 Q F) (k : AK1 o ob on b sz bd lt V0 U0 Q (V o 6) L rest (d - u) u F) : Two (Option.bind (Option.bind (f_Tape_next o ob on V) (fun q2 => f_Rate_one_24 o ob on kS kO q2 d v3 1)) F) (Option.bind (f_Mo_beginOne_34 X c) (fun q => f_Mo_readRate_6 (f_Mo_readRate_1 n) q.1 q.2)) Q := by
  have cf := r.2.1
  have fx := r.2.2.1
  have fu := r.2.2.2
  have r1 := r.1
  unfold f_Mo_beginOne_34
  rw [obb, obb]
  refine Two.bind2 (RST.next r1 hk r1.1 r1.2.2.1 r1.2.2.2.1 (by omega)) (fun W Y hW => ?_)
  obtain ⟨n1, n2, n3, n4⟩ := hW
  rw [r1.2.2.2.2.1, r1.2.2.2.2.2.1] at n1
  have r2 : RSE o ob on b sz V0 U0 W Y L (List.replicate u 2 ++ rest) d 0 n := ⟨n1, cf.tr n2.cf, fx.tr n3.fx, by omega⟩
  have a := r2.1.1
  have e109 := r2.1.2.2.2.2.1
  unfold f_Rate_one_24
  rw [opensP a (by omega)]
  by_cases g40 : Y 62 45 = 40
  · have hk2 : W o 2 ≠ 0 := fun x => by have := a.end_.mp x; omega
    rw [if_pos g40, if_pos g40]
    by_cases g : d < 8
    · rw [if_pos g, obb, obb]
      refine pushL r2 (by omega) hk2 ⟨by omega, g⟩ (t := if c = 7 then 21 else 22) (by rcases hc with ⟨e, -⟩ | ⟨e, -⟩ <;> rw [e] <;> decide) (fun W2 Y2 r3 hp => ?_)
      have ht : (if c = 7 then 21 else 22 : Int) = 21 ∧ c = 7 ∨ (if c = 7 then 21 else 22 : Int) = 22 ∧ c = 8 := by
        rcases hc with ⟨e, -⟩ | ⟨e, -⟩
        · exact Or.inl ⟨by rw [if_pos e], e⟩
        · exact Or.inr ⟨by rw [if_neg (by omega)], e⟩
      generalize (if c = 7 then 21 else 22 : Int) = t at *
      rw [obs]
      dsimp only
      rw [if_neg (show ¬ (1 : Int) = 0 by omega), w32_id (x := d + 1) (by omega) (by omega), obb]
      refine hS _ W2 Y2 L (t :: (List.replicate u 2 ++ rest)) (d + 1) n (by omega) (by omega) (by omega) (Or.inr ⟨t, _, rfl, Or.inl (by omega)⟩) r3 ?_ ?_
      · intro W3 Y3 v c3 dd cf3 fx3
        have d4 : W3 o 4 ≠ 0 := by rw [dd.1]; exact dd.2.1
        show Two (Option.bind (if (1 : Int) = 0 then _ else _) F) _ Q
        rw [if_neg (show ¬ (1 : Int) = 0 by omega)]
        dsimp only
        rw [signD d4, obs, sound0 d4, if_pos rfl, obs]
        exact hD W3 Y3 0 c3 dd cf3 fx3
      · intro W3 Y3 seg ops v n3' r4 _ vb hp2 t1 t2
        obtain ⟨m3, rfl⟩ := r4.n2
        show Two (Option.bind (if (1 : Int) = 0 then _ else _) F) _ Q
        rw [if_neg (show ¬ (1 : Int) = 0 by omega)]
        dsimp only
        rw [obb, signP r4.1.1 r4.1.2.1 (by omega)]
        by_cases g44 : Y3 62 45 = 44
        · have hk3 : W3 o 2 ≠ 0 := fun x => by have := r4.1.1.end_.mp x; omega
          rw [if_pos g44]
          refine commaL r4 vb.2.1 (by omega) g44 hk3 (fun W4 Y4 r5 hp3 => ?_)
          rw [sound1 r5.1.2.1, if_neg (show ¬ (1 : Int) = 0 by omega), obb]
          refine hS _ W4 Y4 (L ++ seg ++ opm ops) ((t + 2) :: (List.replicate u 2 ++ rest)) (d + 1) m3 (by omega) (by omega) (by omega) (Or.inr ⟨t + 2, _, rfl, Or.inl (by omega)⟩) r5 ?_ ?_
          · exact hD.o39 (g := fun x => if v3 = 0 then max v x else min v x)
          · intro W5 Y5 seg2 ops2 v2 n5 r6 _ vb2 hp4 s1 s2
            dsimp only
            unfold f_Rate_one_39
            rw [← opV78 hc v v2]
            have vt := (VB.op (c := c) vb.set vb2 (by omega)).set
            refine rshut r6 vb2.2.1 (cl := [(c, 0)]) (by rcases ht with ⟨e, e2⟩ | ⟨e, e2⟩ <;> rw [e, e2]; exact Or.inr (Or.inl ⟨rfl, rfl⟩); exact Or.inr (Or.inr ⟨rfl, rfl⟩)) hu g hr s1 (s2 rfl) (L := L) (segT := seg ++ opm ops ++ seg2 ++ opm (ops2 ++ [c])) ?_ vt (by omega) hD k
            rw [opm_app, show opm [c] = [(c, 0)] from rfl]
            simp only [List.append_assoc]
        · rw [if_neg g44, obs]
          obtain ⟨⟨Z, cz⟩, eZ, z1, z2, z3⟩ := stopL r4 vb.2.1 (by omega) t1 (t2 rfl) (fun _ => by omega) (fun x => absurd x g44)
          rw [eZ]
          dsimp only at z1 z2 z3
          subst z1
          have df := (r4.1.1.fail r4.1.2.1 (c := 1) (by omega)).1
          rw [sound0 (V := f_Tape_fail o ob on W3 1) (by rw [df.1]; omega), if_pos rfl, obs]
          exact deadL r4 hD (by omega) z2 z3
    · rw [if_neg g, obs]
      dsimp only
      rw [if_pos rfl, obs, deep (by omega)]
      exact deadL r2 hD (by omega) FX.rf rfl
  · rw [if_neg g40, if_neg g40, obs]
    dsimp only
    rw [if_pos rfl, obs, obs]
    unfold f_Mo_readRate_6
    rw [if_neg (show ¬ (1 : Int) = 0 by omega)]
    exact deadL r2 hD (by omega) FX.rf rfl
