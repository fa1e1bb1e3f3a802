/-! products -/
theorem VB.val {bd : Prop} {lt : Int → Int} {seg : List (Int × Int)} {ops : List Int} {x y : Int} (h : VB bd lt seg ops x) (e : bd → y = x) : VB bd lt seg ops y := ⟨h.1, h.2.1, fun hb => by rw [e hb]; exact h.2.2 hb⟩
theorem behR {X : VV} {s lo c : Int} {n : Nat} (h : s = 43 ∧ lo = 3 ∧ c = 3 ∨ s = 45 ∧ lo = 3 ∧ c = 4 ∨ s = 42 ∧ lo = 5 ∧ c = 5 ∨ s = 47 ∧ lo = 5 ∧ c = 6) (h45 : X 62 45 = s) (h111 : X 62 111 = 1) : f_Mo_readRate_1 (n + 1) X = Option.bind (Option.bind (f_Mo_settleTo X lo) (fun q1 => Option.bind (f_Mo_push q1 c) (fun q3 => f_Mo_behindOne_45 (up q3 62 111 0)))) (fun q => f_Mo_readRate_6 (f_Mo_readRate_1 n) q.1 q.2) := by
  show (if (X 62 45) = 0 then _ else if (X 62 111) = 0 then _ else Option.bind (f_Mo_behindOne X) (fun q8 => f_Mo_readRate_6 (f_Mo_readRate_1 n) q8.1 q8.2)) = _
  rw [h111, if_neg (show ¬ X 62 45 = 0 by omega), if_neg (show ¬ (1 : Int) = 0 by omega)]
  unfold f_Mo_behindOne f_Mo_behindOne_2 f_Mo_behindOne_10
  rw [h45]
  rcases h with ⟨rfl, rfl, rfl⟩ | ⟨rfl, rfl, rfl⟩ | ⟨rfl, rfl, rfl⟩ | ⟨rfl, rfl, rfl⟩
  · rw [if_pos rfl, if_pos rfl]
  · rw [if_neg (show ¬ (45 : Int) = 43 by omega), if_pos rfl, if_neg (show ¬ (45 : Int) = 43 by omega)]
  · rw [if_neg (show ¬ (42 : Int) = 43 by omega), if_neg (show ¬ (42 : Int) = 45 by omega), if_pos rfl, if_pos rfl]
  · rw [if_neg (show ¬ (47 : Int) = 43 by omega), if_neg (show ¬ (47 : Int) = 45 by omega), if_neg (show ¬ (47 : Int) = 42 by omega), if_pos rfl, if_neg (show ¬ (47 : Int) = 42 by omega)]
theorem prodD {o ob on : Nat} {kS kO : VV → Int → Option (VV × Int)} {V : VV} {d v t : Int} {k : Nat} (h : V o 4 ≠ 0) (hk : 0 < k) : f_Rate_product_2 o ob on kS kO k V d v t = some (V, v) := by
  cases k with
  | zero => omega
  | succ k =>
    show (if t < 100 then if (f_Tape_isSound o ob on V) = 0 then some (V, v) else _ else some (V, v)) = _
    rw [sound0 h, if_pos rfl]
    split <;> rfl
theorem prodLoop {o ob on : Nat} {b : Nat → Int} {sz : Nat} {bd : Prop} {lt : Int → Int} {V0 U0 : VV} {Q : QF} {M pos d : Int} {L : List (Int × Int)} {rest : List Int} {F : KF} {kS kO : VV → Int → Option (VV × Int)} (h1 : OneP o ob on b sz bd lt V0 U0 Q (f_Rate_one o ob on kS kO) M) (hM : M ≤ d) (hd0 : 0 ≤ d) (hd8 : d ≤ 8) (hr : RTOP 5 rest) (hD : DK o V0 U0 Q F) (hK : AKn o ob on b sz bd lt V0 U0 Q 5 pos L rest d F) : ∀ (k : Nat) (V X : VV) (seg : List (Int × Int)) (ops : List Int) (v : Int) (t n : Nat), 100 < k + t → (t : Int) ≤ V o 6 → RSE o ob on b sz V0 U0 V X (L ++ seg) (ops ++ rest) d 1 n → (∀ a, a ∈ ops → 5 ≤ a) → VB bd lt seg ops v → pos < V o 6 → Two (Option.bind (f_Rate_product_2 o ob on kS kO k V d v t) F) (f_Mo_readRate_1 n X) Q := by
  intro k
  induction k with
  | zero =>
    intro V X seg ops v t n hk ht r _ _ _
    have p := r.1.1.pos
    have s := r.1.2.2.2.2.2.2.2
    omega
  | succ k ih =>
    intro V X seg ops v t n hk ht r ho vb hp
    have a := r.1.1
    have p := a.pos
    have s := r.1.2.2.2.2.2.2.2
    have h4 := r.1.2.1
    have en := a.end_
    have e111 := r.1.2.2.2.2.2.1
    show Two (Option.bind (if (t : Int) < 100 then if (f_Tape_isSound o ob on V) = 0 then some (V, v) else if (f_Tape_isSign o ob on V 42) = 0 then if (f_Tape_isSign o ob on V 47) = 0 then some (V, v) else Option.bind (f_Tape_next o ob on V) (fun q8 => Option.bind (f_Rate_one o ob on kS kO q8 d) (fun q9 => if (lcmpI q9.2 0) = 0 then f_Rate_product_2 o ob on kS kO k q9.1 d 0 (w32 ((t : Int) + 1)) else if q9.2 = 0 then none else f_Rate_product_2 o ob on kS kO k q9.1 d (w64 (Int.tdiv v q9.2)) (w32 ((t : Int) + 1)))) else Option.bind (f_Tape_next o ob on V) (fun q12 => Option.bind (f_Rate_one o ob on kS kO q12 d) (fun q13 => f_Rate_product_2 o ob on kS kO k q13.1 d (f_Rate_held q13.1 (w64 (v * q13.2))) (w32 ((t : Int) + 1)))) else some (V, v)) F) _ Q
    have fin : X 62 45 ≠ 42 ∧ X 62 45 ≠ 47 → Two (Option.bind (some (V, v)) F) (f_Mo_readRate_1 n X) Q := fun q => by
      rw [obs]
      exact hK V X seg ops v n r ho vb hp q (fun x => by omega)
    by_cases g : (t : Int) < 100
    · have et : w32 ((t : Int) + 1) = ((t + 1 : Nat) : Int) := by rw [w32_id (by omega) (by omega)]; omega
      have more : ∀ (s c : Int) (vf : Int → Int) (GF : VV × Int → Option (VV × Int)), (s = 42 ∧ (5 : Int) = 5 ∧ c = 5 ∨ s = 47 ∧ (5 : Int) = 5 ∧ c = 6) → X 62 45 = s → (∀ W x, GF (W, x) = f_Rate_product_2 o ob on kS kO k W d (vf x) ((t + 1 : Nat) : Int)) → (∀ x, -1000000000 ≤ x → x ≤ 1000000000 → -1000000000 ≤ v → v ≤ 1000000000 → vf x = opV c v x) → Two (Option.bind (Option.bind (f_Tape_next o ob on V) (fun q12 => Option.bind (f_Rate_one o ob on kS kO q12 d) GF)) F) (f_Mo_readRate_1 n X) Q := by
        intro s c vf GF hs h45 hG hv
        obtain ⟨m, rfl⟩ := r.n2
        rw [obb, behR (s := s) (lo := 5) (c := c) (by omega) h45 e111]
        refine opL r ho vb.2.1 hr (by omega) (fun W Y r2 hp2 => ?_)
        rw [obb]
        refine h1 _ W Y (L ++ seg ++ opm ops) 0 (c :: rest) d m hM hd8 (by omega) (Or.inr ⟨c, rest, rfl, by omega⟩) r2 ?_ ?_
        · intro W2 Y2 x c2 dd cf fx
          show Two (Option.bind (GF (W2, x)) F) _ Q
          rw [hG, prodD (by rw [dd.1]; exact dd.2.1) (by omega), obs]
          exact hD W2 Y2 _ c2 dd cf fx
        · intro W2 Y2 seg2 x n2 r3 vb2 hp3
          show Two (Option.bind (GF (W2, x)) F) _ Q
          rw [hG]
          rw [show d - ((0 : Nat) : Int) = d by omega] at r3
          have vt := VB.op (c := c) vb.set vb2 (by omega)
          have eL : L ++ seg ++ opm ops ++ seg2 = L ++ (seg ++ opm ops ++ seg2) := by simp only [List.append_assoc]
          rw [eL] at r3
          refine ih W2 Y2 (seg ++ opm ops ++ seg2) [c] (vf x) (t + 1) n2 (by omega) (by omega) r3 (fun a2 ha => ?_) (vt.val (fun hb => ?_)) (by omega)
          · have : a2 = c := List.mem_singleton.mp ha
            omega
          · have b1 := (vb.2.2 hb).2
            have b2 := (vb2.2.2 hb).2
            exact hv x b2.1 b2.2 b1.1 b1.2
      rw [if_pos g, sound1 h4, if_neg (show ¬ (1 : Int) = 0 by omega), a.sign (x := 42) (by omega), a.sign (x := 47) (by omega), et]
      by_cases g42 : X 62 45 = 42
      · rw [if_pos g42, if_neg (show ¬ (1 : Int) = 0 by omega)]
        refine more 42 5 (fun x => clipV (w64 (v * x))) _ (Or.inl ⟨rfl, rfl, rfl⟩) g42 (fun W x => rfl) (fun x x1 x2 v1 v2 => ?_)
        have mb := mulB_bd ⟨v1, v2⟩ ⟨x1, x2⟩
        unfold opV
        rw [if_neg (by omega), if_neg (by omega), if_pos rfl, w64_id (x := v * x) (by omega) (by omega)]
      · rw [if_neg g42, if_pos rfl]
        by_cases g47 : X 62 45 = 47
        · rw [if_pos g47, if_neg (show ¬ (1 : Int) = 0 by omega)]
          refine more 47 6 (fun x => if x = 0 then 0 else w64 (Int.tdiv v x)) _ (Or.inr ⟨rfl, rfl, rfl⟩) g47 (fun W x => ?_) (fun x x1 x2 v1 v2 => ?_)
          · dsimp only
            by_cases z : x = 0
            · rw [if_pos (lcmp0.mpr z), if_pos z]
            · rw [if_neg (fun y => z (lcmp0.mp y)), if_neg z, if_neg z]
          · have tb := tdiv_bd (b := x) ⟨v1, v2⟩
            unfold opV
            rw [if_neg (show ¬ (6 : Int) = 3 by omega), if_neg (show ¬ (6 : Int) = 4 by omega), if_neg (show ¬ (6 : Int) = 5 by omega), if_pos (show (6 : Int) = 6 from rfl), w64_id (x := Int.tdiv v x) (by omega) (by omega)]
        · rw [if_neg g47, if_pos rfl]
          exact fin ⟨g42, g47⟩
    · rw [if_neg g]
      have z : V o 2 = 0 := Classical.byContradiction (fun x => by have := p.2.2 x; omega)
      have z2 := en.mp z
      exact fin (by omega)
theorem prodL {o ob on : Nat} {b : Nat → Int} {sz : Nat} {bd : Prop} {lt : Int → Int} {V0 U0 : VV} {Q : QF} {M : Int} {kS kO : VV → Int → Option (VV × Int)} (h1 : OneP o ob on b sz bd lt V0 U0 Q (f_Rate_one o ob on kS kO) M) : ManyP o ob on b sz bd lt V0 U0 Q 5 (f_Rate_product o ob on kS kO) M := by
  intro F V X L rest d n hM hd0 hd8 hr r hD hK
  have p := r.1.1.pos
  unfold f_Rate_product
  rw [obb]
  refine h1 _ V X L 0 rest d n hM hd8 (by omega) hr.n2 r ?_ ?_
  · intro W Y x c dd cf fx
    show Two (Option.bind (f_Rate_product_2 o ob on kS kO FU W d x 0) F) _ Q
    rw [prodD (by rw [dd.1]; exact dd.2.1) (by decide), obs]
    exact hD W Y _ c dd cf fx
  · intro W Y seg x n2 r2 vb hp
    rw [show d - ((0 : Nat) : Int) = d by omega] at r2
    have p2 := r2.1.1.pos
    exact prodLoop h1 hM hd0 hd8 hr hD hK FU W Y seg [] x 0 n2 (by rw [FU_up]; omega) (by omega) r2 (fun a ha => by cases ha) vb hp
