/-! sums -/
theorem sumD {o ob on : Nat} {kS kO : VV → Int → Option (VV × Int)} {V : VV} {d v t : Int} {k : Nat} (h : V o 4 ≠ 0) (hk : 0 < k) : f_Rate_sum_2 o ob on kS kO k V d v t = some (V, v) := by
  cases k with
  | zero => omega
  | succ k =>
    show (if t < 100 then if (f_Tape_isSound o ob on V) = 0 then some (V, v) else _ else some (V, v)) = _
    rw [sound0 h, if_pos rfl]
    split <;> rfl
theorem sumLoop {o ob on : Nat} {b : Nat → Int} {sz : Nat} {bd : Prop} {lt : Int → Int} {V0 U0 : VV} {Q : QF} {M pos d : Int} {L : List (Int × Int)} {rest : List Int} {F : KF} {kS kO : VV → Int → Option (VV × Int)} (h1 : ManyP o ob on b sz bd lt V0 U0 Q 5 (f_Rate_product o ob on kS kO) M) (hM : M ≤ d) (hd0 : 0 ≤ d) (hd8 : d ≤ 8) (hr : RTOP 3 rest) (hD : DK o V0 U0 Q F) (hK : AKn o ob on b sz bd lt V0 U0 Q 3 pos L rest d F) : ∀ (k : Nat) (V X : VV) (seg : List (Int × Int)) (ops : List Int) (v : Int) (t n : Nat), 100 < k + t → (t : Int) ≤ V o 6 → RSE o ob on b sz V0 U0 V X (L ++ seg) (ops ++ rest) d 1 n → VB bd lt seg ops v → pos < V o 6 → (X 62 45 ≠ 42 ∧ X 62 45 ≠ 47) → Two (Option.bind (f_Rate_sum_2 o ob on kS kO k V d v t) F) (f_Mo_readRate_1 n X) Q := by
  intro k
  induction k with
  | zero =>
    intro V X seg ops v t n hk ht r _ _ _
    have p := r.1.1.pos
    have s := r.1.2.2.2.2.2.2.2
    omega
  | succ k ih =>
    intro V X seg ops v t n hk ht r vb hp hq
    have a := r.1.1
    have p := a.pos
    have s := r.1.2.2.2.2.2.2.2
    have h4 := r.1.2.1
    have en := a.end_
    have e111 := r.1.2.2.2.2.2.1
    show Two (Option.bind (if (t : Int) < 100 then if (f_Tape_isSound o ob on V) = 0 then some (V, v) else if (f_Tape_isSign o ob on V 43) = 0 then if (f_Tape_isSign o ob on V 45) = 0 then some (V, v) else Option.bind (f_Tape_next o ob on V) (fun q8 => Option.bind (f_Rate_product o ob on kS kO q8 d) (fun q9 => f_Rate_sum_2 o ob on kS kO k q9.1 d (f_Rate_held q9.1 (w64 (v - q9.2))) (w32 ((t : Int) + 1)))) else Option.bind (f_Tape_next o ob on V) (fun q11 => Option.bind (f_Rate_product o ob on kS kO q11 d) (fun q12 => f_Rate_sum_2 o ob on kS kO k q12.1 d (f_Rate_held q12.1 (w64 (v + q12.2))) (w32 ((t : Int) + 1)))) else some (V, v)) F) _ Q
    have fin : X 62 45 ≠ 43 ∧ X 62 45 ≠ 45 → Two (Option.bind (some (V, v)) F) (f_Mo_readRate_1 n X) Q := fun q => by
      rw [obs]
      exact hK V X seg ops v n r (fun a2 ha => (vb.2.1 a2 ha).1) vb hp hq (fun _ => q)
    by_cases g : (t : Int) < 100
    · have et : w32 ((t : Int) + 1) = ((t + 1 : Nat) : Int) := by rw [w32_id (by omega) (by omega)]; omega
      have more : ∀ (s c : Int) (vf : Int → Int) (GF : VV × Int → Option (VV × Int)), (s = 43 ∧ (3 : Int) = 3 ∧ c = 3 ∨ s = 45 ∧ (3 : Int) = 3 ∧ c = 4) → X 62 45 = s → (∀ W x, GF (W, x) = f_Rate_sum_2 o ob on kS kO k W d (vf x) ((t + 1 : Nat) : Int)) → (∀ x, -1000000000 ≤ x → x ≤ 1000000000 → -1000000000 ≤ v → v ≤ 1000000000 → vf x = opV c v x) → Two (Option.bind (Option.bind (f_Tape_next o ob on V) (fun q12 => Option.bind (f_Rate_product o ob on kS kO q12 d) GF)) F) (f_Mo_readRate_1 n X) Q := by
        intro s c vf GF hs h45 hG hv
        obtain ⟨m, rfl⟩ := r.n2
        rw [obb, behR (s := s) (lo := 3) (c := c) (by omega) h45 e111]
        refine opL r (fun a2 ha => (vb.2.1 a2 ha).1) vb.2.1 hr (by omega) (fun W Y r2 hp2 => ?_)
        rw [obb]
        refine h1 _ W Y (L ++ seg ++ opm ops) (c :: rest) d m hM hd0 hd8 (Or.inr ⟨c, rest, rfl, by omega⟩) r2 ?_ ?_
        · intro W2 Y2 x c2 dd cf fx
          show Two (Option.bind (GF (W2, x)) F) _ Q
          rw [hG, sumD (by rw [dd.1]; exact dd.2.1) (by omega), obs]
          exact hD W2 Y2 _ c2 dd cf fx
        · intro W2 Y2 seg2 ops2 x n2 r3 _ vb2 hp3 q1 _
          show Two (Option.bind (GF (W2, x)) F) _ Q
          rw [hG]
          have vt := VB.op (c := c) vb.set vb2 (by omega)
          have eL : L ++ seg ++ opm ops ++ seg2 = L ++ (seg ++ opm ops ++ seg2) := by simp only [List.append_assoc]
          have eP : ops2 ++ c :: rest = (ops2 ++ [c]) ++ rest := by rw [List.append_assoc]; rfl
          rw [eL, eP] at r3
          refine ih W2 Y2 (seg ++ opm ops ++ seg2) (ops2 ++ [c]) (vf x) (t + 1) n2 (by omega) (by omega) r3 (vt.val (fun hb => ?_)) (by omega) q1
          have b1 := (vb.2.2 hb).2
          have b2 := (vb2.2.2 hb).2
          exact hv x b2.1 b2.2 b1.1 b1.2
      rw [if_pos g, sound1 h4, if_neg (show ¬ (1 : Int) = 0 by omega), a.sign (x := 43) (by omega), a.sign (x := 45) (by omega), et]
      by_cases g42 : X 62 45 = 43
      · rw [if_pos g42, if_neg (show ¬ (1 : Int) = 0 by omega)]
        refine more 43 3 (fun x => clipV (w64 (v + x))) _ (Or.inl ⟨rfl, rfl, rfl⟩) g42 (fun W x => rfl) (fun x x1 x2 v1 v2 => ?_)
        unfold opV
        rw [if_pos rfl, w64_id (x := v + x) (by omega) (by omega)]
      · rw [if_neg g42, if_pos rfl]
        by_cases g47 : X 62 45 = 45
        · rw [if_pos g47, if_neg (show ¬ (1 : Int) = 0 by omega)]
          refine more 45 4 (fun x => clipV (w64 (v - x))) _ (Or.inr ⟨rfl, rfl, rfl⟩) g47 (fun W x => rfl) (fun x x1 x2 v1 v2 => ?_)
          unfold opV
          rw [if_neg (show ¬ (4 : Int) = 3 by omega), if_pos rfl, w64_id (x := v - x) (by omega) (by omega)]
        · rw [if_neg g47, if_pos rfl]
          exact fin ⟨g42, g47⟩
    · rw [if_neg g]
      have z : V o 2 = 0 := Classical.byContradiction (fun x => by have := p.2.2 x; omega)
      have z2 := en.mp z
      exact fin (by omega)
theorem RTOP.up {rest : List Int} (h : RTOP 3 rest) : RTOP 5 rest := by
  rcases h with h | ⟨a, p, e, h⟩
  · exact Or.inl h
  · exact Or.inr ⟨a, p, e, by omega⟩
theorem sumL {o ob on : Nat} {b : Nat → Int} {sz : Nat} {bd : Prop} {lt : Int → Int} {V0 U0 : VV} {Q : QF} {M : Int} {kS kO : VV → Int → Option (VV × Int)} (h1 : ManyP o ob on b sz bd lt V0 U0 Q 5 (f_Rate_product o ob on kS kO) M) : ManyP o ob on b sz bd lt V0 U0 Q 3 (f_Rate_sum o ob on kS kO) M := by
  intro F V X L rest d n hM hd0 hd8 hr r hD hK
  have p := r.1.1.pos
  unfold f_Rate_sum
  rw [obb]
  refine h1 _ V X L rest d n hM hd0 hd8 hr.up r ?_ ?_
  · intro W Y x c dd cf fx
    show Two (Option.bind (f_Rate_sum_2 o ob on kS kO FU W d x 0) F) _ Q
    rw [sumD (by rw [dd.1]; exact dd.2.1) (by decide), obs]
    exact hD W Y _ c dd cf fx
  · intro W Y seg ops x n2 r2 _ vb hp q _
    have p2 := r2.1.1.pos
    exact sumLoop h1 hM hd0 hd8 hr hD hK FU W Y seg ops x 0 n2 (by rw [FU_up]; omega) (by omega) r2 vb hp q
theorem RRl {o ob on : Nat} {b : Nat → Int} {sz : Nat} {bd : Prop} {V0 U0 : VV} {Q : QF} (ho : o ≠ 25) (hbd : bd → ∀ x, -1000000000 ≤ ltV V0 x ∧ ltV V0 x ≤ 1000000000) : ∀ N : Nat, ManyP o ob on b sz bd (ltV V0) V0 U0 Q 3 (RR o ob on N).1 (10 - (N : Int)) ∧ OneP o ob on b sz bd (ltV V0) V0 U0 Q (RR o ob on N).2 (10 - (N : Int)) := by
  intro N
  induction N with
  | zero => exact ⟨fun F V X L rest d n hM hd0 hd8 => by omega, fun F V X L u rest d n hM hd8 => by omega⟩
  | succ N ih =>
    have e : (10 : Int) - (N : Int) = 10 - ((N + 1 : Nat) : Int) + 1 := by omega
    rw [e] at ih
    have h1 := oneL ho hbd ih.1 ih.2
    exact ⟨sumL (prodL h1), h1⟩
/-- a rate's reading, the two sides -/
def RPOST (o : Nat) (sz : Nat) (bd : Prop) (V0 U0 : VV) (q : VV × Int) (z : VV × Int) : Prop := CF o V0 q.1 ∧ FX U0 z.1 ∧ ((z.2 = 0 ∧ q.1 o 4 = 0 ∧ q.1 o 5 = -1 ∧ q.1 o 2 = 0 ∧ ∃ l : List (Int × Int), EM z.1 l ∧ l.length ≤ sz ∧ VB bd (ltV V0) l [] q.2) ∨ (z.2 ≠ 0 ∧ (DEAD o z.2 (z.1 62 44) q.1 ∨ (q.1 o 4 = 0 ∧ q.1 o 2 ≠ 0 ∧ z.2 = 1 ∧ q.1 o 6 = z.1 62 44))))
theorem rateL {o ob on : Nat} {b : Nat → Int} {sz : Nat} {bd : Prop} {V0 U0 V X : VV} {n : Nat} (ho : o ≠ 25) (hbd : bd → ∀ x, -1000000000 ≤ ltV V0 x ∧ ltV V0 x ≤ 1000000000) (r : RSE o ob on b sz V0 U0 V X [] [] 0 0 n) : Two ((RR o ob on 12).1 V 0) (f_Mo_readRate_1 n X) (RPOST o sz bd V0 U0) := by
  have e : Option.bind ((RR o ob on 12).1 V 0) some = (RR o ob on 12).1 V 0 := by cases (RR o ob on 12).1 V 0 <;> rfl
  rw [← e]
  refine (RRl (b := b) (sz := sz) (bd := bd) (V0 := V0) (U0 := U0) (Q := RPOST o sz bd V0 U0) ho hbd 12).1 some V X [] [] 0 n (by decide) (by decide) (by decide) (Or.inl rfl) r ?_ ?_
  · intro W Y v c dd cf fx
    exact Two.ok ⟨cf, fx, Or.inr ⟨dd.2.1, Or.inl dd⟩⟩
  · intro W Y seg ops v n2 r2 ho2 vb hp q1 q2
    have q3 := q2 rfl
    have hl0 := r2.len
    have a := r2.1.1
    have en := a.end_
    have pl := a.place
    obtain ⟨m, rfl⟩ := r2.n2
    have e111 := r2.1.2.2.2.2.2.1
    obtain ⟨⟨a0, h4, em, ⟨pl2, h110⟩, h109, h111, hl, hs⟩, cf, fx, fu⟩ := r2
    have ps := a.pos
    rw [List.append_nil] at pl2 h110 hl hl0
    rw [List.nil_append] at em hl hl0
    have set := settleL (v := 3) ops FU Y seg [] (by rw [FU_up]; omega) (fun x hx => by have := vb.2.1 x hx; omega) (Or.inl rfl) (by rw [List.append_nil]; exact pl2) (by rw [List.append_nil]; exact h110) (by rw [List.append_nil]; omega) em (by omega)
    show Two _ (if (Y 62 45) = 0 then if (Y 62 111) = 0 then some (Y, 1) else Option.bind (f_Mo_settleTo Y 3) (fun q3 => some (q3, (if 0 < (q3 62 110) then 1 else 0 : Int))) else if (Y 62 111) = 0 then _ else Option.bind (f_Mo_behindOne Y) (fun q8 => f_Mo_readRate_6 (f_Mo_readRate_1 m) q8.1 q8.2)) _
    rw [e111, if_neg (show ¬ (1 : Int) = 0 by omega), if_neg (show ¬ (1 : Int) = 0 by omega)]
    by_cases g : Y 62 45 = 0
    · rw [if_pos g]
      refine Two.bindR set (fun Z hZ => ?_)
      obtain ⟨z1, z2, z3, z4, z5⟩ := hZ
      have z3' : Z 62 110 = 0 := z3
      rw [z3', if_neg (by omega)]
      have v5 : W o 5 = -1 := a.1 h4
      refine Two.ok ⟨cf, fx.tr z4.fx, Or.inl ⟨rfl, h4, v5, en.mpr g, seg ++ opm ops, z1, ?_, vb.set⟩⟩
      rw [List.length_append, show (opm ops).length = ops.length from List.length_map _]
      omega
    · rw [if_neg g]
      unfold f_Mo_behindOne
      rw [if_neg q3.1, if_neg q3.2, if_neg q1.1, if_neg q1.2]
      have fin : ∀ Z, FE Y Z → Two (some (W, v)) (Option.bind (some (Z, (1 : Int))) (fun q8 => f_Mo_readRate_6 (f_Mo_readRate_1 m) q8.1 q8.2)) (RPOST o sz bd V0 U0) := fun Z hZ => by
        rw [obs]
        unfold f_Mo_readRate_6
        rw [if_neg (show ¬ (1 : Int) = 0 by omega)]
        exact Two.ok ⟨cf, fx.tr hZ.fx, Or.inr ⟨by dsimp only; omega, Or.inr ⟨h4, fun x => g (en.mp x), rfl, pl.trans (hZ.2.1 44 (by omega)).symm⟩⟩⟩
      by_cases g44 : Y 62 45 = 44
      · rw [if_pos g44, obb]
        refine Two.bindR set (fun Z hZ => ?_)
        obtain ⟨z1, z2, z3, z4, z5⟩ := hZ
        have z3' : Z 62 110 = 0 := z3
        rw [if_pos z3']
        exact fin Z z4
      · rw [if_neg g44]
        by_cases g41 : Y 62 45 = 41
        · rw [if_pos g41, obb]
          refine Two.bindR set (fun Z hZ => ?_)
          obtain ⟨z1, z2, z3, z4, z5⟩ := hZ
          have z3' : Z 62 110 = 0 := z3
          rw [if_pos z3']
          exact fin Z z4
        · rw [if_neg g41]
          exact fin Y FE.rf
