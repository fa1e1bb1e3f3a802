/-! answers of a run -/
theorem g_load {c : Int} {V U : VV} {h : HP} {w p k x : Int} (g : G c V h U) (hc : 0 ≤ c ∧ c ≤ 600) : CA c (f_Br_load V h w p k x) (f_Mo_load U w p k x) := by
  unfold CA f_Br_load f_Mo_load
  by_cases hx : 0 ≤ x ∧ x ≤ 8
  · rw [if_neg (show ¬ isFromV x 0 8 = 0 by rw [isFromV_1 hx.1 hx.2]; omega)]
    refine Two.bind2 (isPav g hc) (fun q z hq => ?_)
    obtain ⟨b1, b2, b3, b4, -⟩ := hq
    rw [b1]
    rcases b2 with z0 | z1
    · rw [z0, if_pos rfl, if_pos rfl]; exact Two.ok ⟨rfl, b3⟩
    · rw [z1, if_neg (show ¬ (1 : Int) = 0 by omega), if_neg (show ¬ (1 : Int) = 0 by omega)]
      obtain ⟨⟨hh, ⟨la, lo, jo, jl⟩, rp, hd, hn, rf, -⟩, -, -⟩ := b4 z1
      obtain ⟨o1, o2, o3⟩ := hh.bd
      obtain ⟨l1, l2, l3⟩ := la
      rw [l1, w32_id (x := z.1 62 72 - 1) (by omega) (by omega)]
      by_cases hk : 0 ≤ k ∧ k ≤ z.1 62 72 - 1
      · rw [if_neg (show ¬ isFromV k 0 (z.1 62 72 - 1) = 0 by rw [isFromV_1 hk.1 hk.2]; omega), if_neg (show ¬ f_Mo_isIn z.1 k 0 (z.1 62 72 - 1) = 0 by rw [isIn_1 hk.1 hk.2]; omega)]
        obtain ⟨m, rfl⟩ : ∃ m : Nat, k = (m : Int) := ⟨k.toNat, by omega⟩
        obtain ⟨r1, r2⟩ := l3 m (by omega)
        have rr := rf m (by omega)
        have ofx : ∀ f : Nat, f < 9 → f_Loads_of q.1.1 q.1.2 (m : Int) (f : Int) = z.1 (99 + f) m := fun f hf => (ld_of hh (by omega) hf).trans (r1 f hf)
        have fin : ∀ (f : Nat) (y : Int), f < 9 → x = (f : Int) → y = z.1 (99 + f) m → Two (some ((q.1.1, q.1.2), f_Loads_of q.1.1 q.1.2 (m : Int) x)) (some (z.1, y)) (fun q z => q.2 = z.2 ∧ G (c + 1) q.1.1 q.1.2 z.1) := fun f y hf hx hy => Two.ok ⟨by dsimp only; rw [hx, hy]; exact ofx f hf, b3⟩
        rw [Int.toNat_natCast]
        refine Two.iteR (fun e => Two.posR (by omega) (fin 0 _ (by omega) e rfl)) (fun e0 => Two.iteR (fun e => Two.posR (by omega) (fin 1 _ (by omega) e rfl)) (fun e1 => Two.iteR (fun e => Two.posR (by omega) (fin 2 _ (by omega) e rfl)) (fun e2 => Two.iteR (fun e => Two.posR (by omega) (fin 3 _ (by omega) e rfl)) (fun e3 => Two.iteR (fun e => Two.posR (by omega) (fin 4 _ (by omega) e rfl)) (fun e4 => Two.iteR (fun e => Two.posR (by omega) (fin 5 _ (by omega) e rfl)) (fun e5 => Two.iteR (fun e => Two.posR (by omega) (fin 6 _ (by omega) e rfl)) (fun e6 => Two.iteR (fun e => Two.posR (by omega) (fin 7 _ (by omega) e rfl)) (fun e7 => Two.posR (by omega) (Two.posR (by omega) (fin 8 _ (by omega) (by omega) ?_))))))))))
        show (if z.1 107 m = 0 then 0 else 1 : Int) = z.1 107 m
        rcases rr with r | r
        · rw [r, if_pos rfl]
        · rw [r, if_neg (by omega)]
      · rw [if_pos (isFromV_0.mpr hk), if_pos (isIn_0.mpr hk)]
        exact Two.ok ⟨rfl, b3⟩
  · rw [if_pos (isFromV_0.mpr hx)]
    refine Two.bindR (isPavR g hc) (fun z hz => ?_)
    have fin : Two (some ((V, h), (-1 : Int))) (some (z.1, (-1 : Int))) (fun q z => q.2 = z.2 ∧ G (c + 1) q.1.1 q.1.2 z.1) := Two.ok ⟨rfl, g.mg hz.2⟩
    refine Two.iteR (fun _ => fin) (fun _ => Two.iteR (fun _ => fin) (fun _ => ?_))
    rw [if_neg (by omega), if_neg (by omega), if_neg (by omega), if_neg (by omega), if_neg (by omega), if_neg (by omega), if_neg (by omega), if_neg (by omega), if_neg (by omega)]
    exact fin
theorem preL_step {V U : VV} {h : HP} (i : Nat) : preL V h U (i + 1) = preL V h U i + U 100 (V h.2.1 i).toNat := rfl
theorem ofT {V U : VV} {h : HP} {x : Int} (hh : HOK h) (la : gLA V h U U) (lo : gLO U V h U) (x0 : 0 ≤ x ∧ x < 2147483648) : ∀ (k n : Nat) (i : Nat), V 28 2 - (i : Int) ≤ (k : Int) → k < n → (i : Int) ≤ V 28 2 → preL V h U i ≤ x → Sm (f_Loads_ofTonne_1 n V h (x - preL V h U i) (i : Int)) (fun q => (∃ j : Nat, (j : Int) < V 28 2 ∧ preL V h U j ≤ x ∧ x < preL V h U (j + 1) ∧ q = V h.2.1 j) ∨ (q = -1 ∧ preL V h U (V 28 2).toNat ≤ x)) := by
  obtain ⟨l1, l2, l3⟩ := la
  obtain ⟨o1, o2, o3, o4, o5, o6, o7⟩ := lo
  obtain ⟨b1, b2, b3⟩ := hh.bd
  have bz := sm_nn (f := busy U) (n := (U 62 22).toNat) (fun k _ => by unfold busy; split <;> omega)
  intro k
  induction k with
  | zero =>
    intro n i e1 e2 e3 hi
    cases n with
    | zero => omega
    | succ n =>
      show Sm (if (i : Int) < V 28 2 then _ else some (-1)) _
      exact Sm.neg (by omega) (Sm.ok (Or.inr ⟨rfl, by rw [show (V 28 2).toNat = i by omega]; exact hi⟩))
  | succ k ih =>
    intro n i e1 e2 e3 hi
    cases n with
    | zero => omega
    | succ n =>
      show Sm (if (i : Int) < V 28 2 then if (w32 ((x - preL V h U i) - (f_Loads_of V h (atV V h.2.1 (ordN h) (i : Int)) 1))) < 0 then some (atV V h.2.1 (ordN h) (i : Int)) else f_Loads_ofTonne_1 n V h (w32 ((x - preL V h U i) - (f_Loads_of V h (atV V h.2.1 (ordN h) (i : Int)) 1))) (w32 ((i : Int) + 1)) else some (-1)) _
      refine Sm.ite (fun g => ?_) (fun g => Sm.ok (Or.inr ⟨rfl, by rw [show (V 28 2).toNat = i by omega]; exact hi⟩))
      obtain ⟨z1, z2⟩ := o4 i g
      obtain ⟨m, hm⟩ : ∃ m : Nat, V h.2.1 i = (m : Int) := ⟨(V h.2.1 i).toNat, by omega⟩
      have at1 : ∀ _ : Nat, atV V h.2.1 (ordN h) (i : Int) = (m : Int) := fun _ => by rw [atV_in (by omega) (by omega), Int.toNat_natCast]; exact hm
      have of1 : ∀ _ : Nat, f_Loads_of V h (m : Int) 1 = U 100 m := fun _ => (ld_of (f := 1) hh (by omega) (by omega)).trans ((l3 m (by omega)).1 1 (by omega))
      have rg := (l3 m (by omega)).2.2.1
      have pn : 0 ≤ preL V h U i := sm_nn (fun y hy => by
        have := (o4 y (by omega)).1
        have := (l3 (V h.2.1 y).toNat (by omega)).2.2.1
        omega)
      have ps := preL_step (V := V) (U := U) (h := h) i
      rw [hm, Int.toNat_natCast] at ps
      rw [at1 0, of1 0, w32_id (x := x - preL V h U i - U 100 m) (by omega) (by omega), w32_id (x := (i : Int) + 1) (by omega) (by omega), show (i : Int) + 1 = ((i + 1 : Nat) : Int) by omega]
      refine Sm.ite (fun y => Sm.ok (Or.inl ⟨i, g, hi, by omega, hm.symm⟩)) (fun y => ?_)
      rw [show x - preL V h U i - U 100 m = x - preL V h U (i + 1) by omega]
      exact ih n (i + 1) (by omega) (by omega) (by omega) (by omega)
theorem preL_mono {V U : VV} {h : HP} (la : gLA V h U U) (lo : gLO U V h U) {i : Nat} : ∀ j : Nat, i ≤ j → (j : Int) ≤ V 28 2 → preL V h U i ≤ preL V h U j := by
  intro j
  induction j with
  | zero => intro h1 _; rw [show i = 0 by omega]; exact Int.le_refl _
  | succ j ih =>
    intro h1 h2
    by_cases e : i = j + 1
    · rw [e]; exact Int.le_refl _
    · have := ih (by omega) (by omega)
      have ps := preL_step (V := V) (U := U) (h := h) j
      have z := (lo.2.2.2.1 j (by omega)).1
      have := (la.2.2 (V h.2.1 j).toNat (by omega)).2.2.1
      omega
theorem toM {V U : VV} {h : HP} {x : Int} {j : Nat} (hh : HOK h) (la : gLA V h U U) (lo : gLO U V h U) (hj : (j : Int) < V 28 2) (x0 : preL V h U j ≤ x) (x1 : x < preL V h U (j + 1)) : ∀ (k n : Nat) (i : Nat), V h.2.1 j - (i : Int) ≤ (k : Int) → k < n → (i : Int) ≤ V h.2.1 j → Sm (f_Mo_tonne_6 n U x (i : Int)) (fun z => z.1 = U ∧ z.2 = V h.2.1 j) := by
  obtain ⟨l1, l2, l3⟩ := id la
  obtain ⟨o1, o2, o3, o4, o5, o6, o7⟩ := id lo
  obtain ⟨b1, b2, b3⟩ := hh.bd
  have bz := sm_nn (f := busy U) (n := (U 62 22).toNat) (fun k _ => by unfold busy; split <;> omega)
  obtain ⟨z1, z2⟩ := o4 j hj
  obtain ⟨m, hm⟩ : ∃ m : Nat, V h.2.1 j = (m : Int) := ⟨(V h.2.1 j).toNat, by omega⟩
  have psj := preL_step (V := V) (U := U) (h := h) j
  rw [hm, Int.toNat_natCast] at psj z2
  have pb : ∀ y : Nat, (y : Int) ≤ V 28 2 → 0 ≤ preL V h U y ∧ preL V h U y ≤ 600000 := fun y hy => by
    refine ⟨sm_nn (fun i hi => by
      have := (o4 i (by omega)).1
      have := (l3 (V h.2.1 i).toNat (by omega)).2.2.1
      omega), ?_⟩
    have := sm_le (f := fun i => U 100 (V h.2.1 i).toNat) (B := 30) (n := y) (fun i hi => by
      have := (o4 i (by omega)).1
      exact (l3 (V h.2.1 i).toNat (by omega)).2.2.1.2)
    unfold preL
    omega
  rw [hm]
  have step : ∀ (n : Nat) (i : Nat), (i : Int) ≤ (m : Int) → ((i : Int) < (m : Int) → Sm (f_Mo_tonne_6 n U x ((i : Int) + 1)) (fun z => z.1 = U ∧ z.2 = (m : Int))) → Sm (f_Mo_tonne_6 (n + 1) U x (i : Int)) (fun z => z.1 = U ∧ z.2 = (m : Int)) := by
    intro n i hi K
    show Sm (if (i : Int) < U 62 72 then if 0 ≤ (i : Int) ∧ (i : Int) < (17400 : Int) then if (U 108 ((i : Int)).toNat) < 0 then f_Mo_tonne_6 n U x (w32 ((i : Int) + 1)) else if 0 ≤ (i : Int) ∧ (i : Int) < (17400 : Int) then if 0 ≤ (i : Int) ∧ (i : Int) < (17400 : Int) then if 0 ≤ (i : Int) ∧ (i : Int) < (17400 : Int) then if (f_Mo_isIn U x (U 108 ((i : Int)).toNat) (w32 ((w32 ((U 108 ((i : Int)).toNat) + (U 100 ((i : Int)).toNat))) - 1))) = 0 then f_Mo_tonne_6 n U x (w32 ((i : Int) + 1)) else some (U, (i : Int)) else none else none else none else none else some (U, -1)) _
    rw [Int.toNat_natCast, w32_id (x := (i : Int) + 1) (by omega) (by omega)]
    refine Sm.pos (by omega) (Sm.pos (by omega) ?_)
    by_cases e : i = m
    · subst e
      have := (l3 i (by omega)).2.2.1
      have := pb j (by omega)
      refine Sm.neg (by omega) (Sm.pos (by omega) (Sm.pos (by omega) (Sm.pos (by omega) ?_)))
      rw [z2, w32_id (x := preL V h U j + U 100 i) (by omega) (by omega), w32_id (by omega) (by omega), if_neg (show ¬ f_Mo_isIn U x (preL V h U j) (preL V h U j + U 100 i - 1) = 0 by rw [isIn_1 x0 (by omega)]; omega)]
      exact Sm.ok ⟨rfl, rfl⟩
    · refine Sm.ite (fun _ => K (by omega)) (fun g => Sm.pos (by omega) (Sm.pos (by omega) (Sm.pos (by omega) ?_)))
      rcases o5 i (by omega) with y | ⟨j', y1, y2⟩
      · omega
      · have ne : j' ≠ j := by
          intro q
          rw [q, hm] at y2
          omega
        have w := (o4 j' y1).2
        rw [y2, Int.toNat_natCast] at w
        have ps' := preL_step (V := V) (U := U) (h := h) j'
        rw [y2, Int.toNat_natCast] at ps'
        have := (l3 i (by omega)).2.2.1
        have p1 := pb j' (by omega)
        have out : ¬ (U 108 i ≤ x ∧ x ≤ U 108 i + U 100 i - 1) := by
          rw [w]
          by_cases lt : j' < j
          · have := preL_mono la lo (i := j' + 1) j (by omega) (by omega)
            omega
          · have := preL_mono la lo (i := j + 1) j' (by omega) (by omega)
            omega
        rw [w32_id (x := U 108 i + U 100 i) (by omega) (by omega), w32_id (by omega) (by omega), if_pos (isIn_0.mpr out)]
        exact K (by omega)
  intro k
  induction k with
  | zero =>
    intro n i e1 e2 e3
    cases n with
    | zero => omega
    | succ n => exact step n i e3 (fun g => by omega)
  | succ k ih =>
    intro n i e1 e2 e3
    cases n with
    | zero => omega
    | succ n =>
      refine step n i e3 (fun g => ?_)
      rw [show (i : Int) + 1 = ((i + 1 : Nat) : Int) by omega]
      exact ih n (i + 1) (by omega) (by omega) (by omega)
theorem g_tonne {c : Int} {V U : VV} {h : HP} {w p x : Int} (g : G c V h U) (hc : 0 ≤ c ∧ c ≤ 600) (hx2 : x < 2147483648) : CA c (f_Br_tonne V h w p x) (f_Mo_tonne U w p x) := by
  unfold CA f_Br_tonne f_Mo_tonne
  by_cases hx : 0 ≤ x
  · rw [if_neg (by omega)]
    refine Two.bind2 (isPav g hc) (fun q z hq => ?_)
    obtain ⟨b1, b2, b3, b4, -⟩ := hq
    rw [b1]
    rcases b2 with z0 | z1
    · rw [z0, if_pos rfl, if_pos rfl]; exact Two.ok ⟨rfl, b3⟩
    · rw [z1, if_neg (show ¬ (1 : Int) = 0 by omega), if_neg (show ¬ (1 : Int) = 0 by omega)]
      obtain ⟨⟨hh, ⟨la, lo, jo, jl⟩, rp, hd, hn, rf⟩, -, -⟩ := b4 z1
      have h75 := (jl.2.2.2.2.2.2.2.1 hd).1
      have o6 := lo.2.2.2.2.2.1
      have o7 := lo.2.2.2.2.2.2
      obtain ⟨o1, o2, o3⟩ := hh.bd
      have bz := sm_nn (f := busy z.1) (n := (z.1 62 22).toNat) (fun k _ => by unfold busy; split <;> omega)
      have ll := lo.2.2.1
      have ll1 := lo.1
      have ll2 := lo.2.1
      have l2 := la.2.1
      have b73 : z.1 62 73 ≤ 600000 := by
        have := sm_le (f := fun i => z.1 100 (q.1.1 q.1.2.2.1 i).toNat) (B := 30) (n := (q.1.1 28 2).toNat) (fun i hi => by
          have := (lo.2.2.2.1 i (by omega)).1
          exact (la.2.2 (q.1.1 q.1.2.2.1 i).toNat (by omega)).2.2.1.2)
        unfold preL at o6
        omega
      rw [w32_id (x := z.1 62 73 - 1) (by omega) (by omega)]
      have cl := ofT (V := q.1.1) (U := z.1) (h := q.1.2) (x := x) hh la lo ⟨hx, hx2⟩ 17280 FU 0 (by omega) (by decide) (by omega) (by show (0 : Int) ≤ x; omega)
      rw [show x - preL q.1.1 q.1.2 z.1 0 = x by show x - 0 = x; omega] at cl
      refine Two.bindL cl (fun y hy => ?_)
      rcases hy with ⟨j, y1, y2, y3, y4⟩ | ⟨y1, y2⟩
      · have mj := preL_mono la lo (i := j + 1) (q.1.1 28 2).toNat (by omega) (by omega)
        have mj0 : 0 ≤ preL q.1.1 q.1.2 z.1 j := preL_mono la lo (i := 0) j (by omega) (by omega)
        rw [if_neg (show ¬ f_Mo_isIn z.1 x 0 (z.1 62 73 - 1) = 0 by rw [isIn_1 hx (by omega)]; omega)]
        have zj := (lo.2.2.2.1 j y1).1
        refine Two.ofR ((toM hh la lo y1 y2 y3 17280 FU 0 (by omega) (by decide) (by omega)).imp (fun z' hz' => ?_))
        refine Sm.ok ⟨y4.trans hz'.2.symm, ?_⟩
        rw [hz'.1]; exact b3
      · rw [if_pos (isIn_0.mpr (show ¬ (0 ≤ x ∧ x ≤ z.1 62 73 - 1) by omega))]
        exact Two.ok ⟨y1, b3⟩
  · rw [if_pos (by omega)]
    refine Two.bindR (isPavR g hc) (fun z hz => ?_)
    have fin : Two (some ((V, h), (-1 : Int))) (some (z.1, (-1 : Int))) (fun q z => q.2 = z.2 ∧ G (c + 1) q.1.1 q.1.2 z.1) := Two.ok ⟨rfl, g.mg hz.2⟩
    refine Two.iteR (fun _ => fin) (fun _ => ?_)
    rw [if_pos (isIn_0.mpr (fun y => by omega))]
    exact fin
