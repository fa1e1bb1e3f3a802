/-! (5) both lay, step by step -/
theorem jobs_row {X V : VV} (h : X 1 = V 1) : f_Road_jobs X = f_Road_jobs V := by unfold f_Road_jobs; rw [h]
theorem layBoth {V0 U0 V U : VV} {h : HP} {t tl left nn more : Int} {τ ρ : Nat → Int} {β : Int} {α : Type} {F : VV × Int → Option α} {k1 : VV → Int → Int → Int → Option VV} {Q : α → VV → Prop} (e : EN V0 U0) (ht : 0 ≤ t ∧ t ≤ 4319) (r : FR V0 U0 h t β tl τ ρ V U) (hj : U 62 74 < U0 62 13) (h75 : 1 ≤ U 62 75) (hl : 1 ≤ left ∧ left = U0 62 92 - nn ∧ 0 ≤ nn) (K : ∀ V2 U2 v, FR V0 U0 h t β tl τ ρ V2 U2 → 1 ≤ v → v ≤ left → U2 62 73 = U 62 73 + v → 0 ≤ U2 62 78 → U2 86 = U 86 → Two (F (V2, v)) (k1 U2 t (nn + v) more) Q) : Two (Option.bind (f_Paving_layOut V left t) F) (f_Mo_paves_17 k1 U t nn more) Q := by
  obtain ⟨r0, rt, rj, rp, l0, l1⟩ := id r
  obtain ⟨nN, nP, nw, np, -, -⟩ := e.nv r0
  obtain ⟨hc, hm, hh⟩ := id r0
  obtain ⟨la, lo, jo, jl⟩ := id rj
  obtain ⟨su, ca, ka⟩ := id rp
  obtain ⟨jb1, jb2, jb3, jb4, -, -, -⟩ := e.jobs r0
  obtain ⟨hd, hhd⟩ : ∃ hd : Nat, U 62 74 = (hd : Int) := ⟨(U 62 74).toNat, by have := jl.2.1.1; omega⟩
  rw [hhd] at hj
  obtain ⟨t1, t2, t3, t4, d1, d2, d3, d4⟩ := e.ton r0 (j := hd) hj
  obtain ⟨wm, wU, v15, wk, mn1, mn2⟩ := e.warm r0
  obtain ⟨j1, j2, j3, j4, j5, j6, j7, j8, j9⟩ := id jl
  have e95 : U 95 hd = V 46 13 := by rw [j3 hd hj, hhd, if_neg (by omega), if_pos rfl]
  have j5' := j5 (by omega)
  rw [hhd, Int.toNat_natCast] at j5'
  obtain ⟨v, hv⟩ : ∃ v, v = min (U 62 75) left := ⟨_, rfl⟩
  have hv1 : 1 ≤ v ∧ v ≤ U 62 75 ∧ v ≤ left ∧ v ≤ 20 := by omega
  have cold := ca.2.2 (Or.inr (by omega))
  rw [hhd, Int.toNat_natCast] at cold
  obtain ⟨z1, z2, z3⟩ := jo.2.2 hd hj
  rw [if_pos hhd.symm] at z2
  have pn := sm_nn (f := pend U hd) (n := (U0 62 22).toNat) (fun k hk => by
    unfold pend
    split
    · next y =>
      have := rt.2.1 k (by omega) y.1
      have := (la.2.2 (U 90 k).toNat (by omega)).2.2.1
      omega
    · omega)
  have b73 : 0 ≤ U 62 73 ∧ U 62 73 ≤ 200000 := by
    have := lo.2.2.2.2.2.2
    have := su.2.2.2.2.2.2.2.1
    omega
  -- the last step of both
  have lay6 : ∀ A B : VV, CFr V0 A → MFr U0 B → (∀ i, i ≠ 47 → i ≠ 48 → A i = V i) → (∀ x, A 47 x = if x = 3 then (if V 47 3 = -1 then t else V 47 3) else V 47 x) → (∀ x, A 48 x = if x = hd then (if V 46 13 = 0 then t else V 48 hd) else V 48 x) → (∀ i, i ≠ 62 → i ≠ 95 → i ≠ 96 → B i = U i) → (∀ x, B 62 x = if x = 73 then U 62 73 + v else if x = 75 then U 62 75 - v else if x = 78 then (if U 62 78 < 0 then t else U 62 78) else U 62 x) → (∀ x, B 95 x = if x = hd then U 95 hd + v else U 95 x) → (∀ x, B 96 x = if x = hd then (if U 95 hd = 0 then t else U 96 hd) else U 96 x) → Two (Option.bind (f_Paving_layOut_6 A t v) F) (f_Mo_paves_29 k1 B t (nn + v) more) Q := by
    intro A B cA mB a0 a47 a48 b0 b62 b95 b96
    have a46 : A 46 = V 46 := a0 46 (by omega) (by omega)
    have B74 : B 62 74 = (hd : Int) := by rw [b62]; simp only [Nat.reduceEqDiff, reduceIte]; exact hhd
    have B95 : B 95 hd = V 46 13 + v := by rw [b95, if_pos rfl, e95]
    have B70 : B 70 hd = U0 70 hd := by rw [b0 70 (by omega) (by omega) (by omega)]; exact t2
    have eC : atV (up (up A 46 15 (w32 (A 46 15 - v))) 46 13 (w32 (A 46 13 + v))) 9 36 (A 46 12) = U0 70 hd := by
      rw [a46, j1, hhd, atV_in (by omega) (by omega), Int.toNat_natCast, up_na _ _ _ (by omega), up_na _ _ _ (by omega), a0 9 (by omega) (by omega)]
      exact t1
    unfold f_Paving_layOut_6 f_Mo_paves_29
    rw [eC]
    clear eC
    rw [a46, j1, j6, hhd, B74, Int.toNat_natCast, B95, B70, w32_id (x := V 46 13 + v) (by omega) (by omega), w32_id (x := U 62 75 - v) (by omega) (by omega)]
    refine Two.posR (by omega) (Two.posR (by omega) ?_)
    by_cases g : V 46 13 + v < U0 70 hd
    · rw [if_pos g, if_neg (by omega)]
      refine K (up (up A 46 15 (U 62 75 - v)) 46 13 (V 46 13 + v)) (up B 62 77 t) v ?_ hv1.1 hv1.2.2.1 ?_ ?_ ?_
      · refine r.lay (hd := hd) (v := v) ht hhd hj ⟨hv1.1, hv1.2.1⟩ g ((cA.up rfl).up rfl) (mB.up rfl) ?_ ?_ ?_ ?_ ?_ ?_ ?_ ?_
        · intro i x1 x2 x3
          rw [up_na _ _ _ x1, up_na _ _ _ x1, a0 i x2 x3]
        · intro x
          rw [up_ap, if_pos rfl, up_ap, if_pos rfl, a46]
        · intro x
          rw [up_na _ _ _ (by omega), up_na _ _ _ (by omega), a47]
        · intro x
          rw [up_na _ _ _ (by omega), up_na _ _ _ (by omega), a48]
        · intro i x1 x2 x3
          rw [up_na _ _ _ x1, b0 i x1 x2 x3]
        · intro x
          rw [up_ap, if_pos rfl, b62]
        · intro x
          rw [up_na _ _ _ (by omega), b95]
        · intro x
          rw [up_na _ _ _ (by omega), b96]
      · rw [up_nf _ _ (by omega), b62, if_pos rfl]
      · rw [up_nf _ _ (by omega), b62]; simp only [Nat.reduceEqDiff, reduceIte]; split <;> omega
      · rw [up_na _ _ _ (by omega), b0 86 (by omega) (by omega) (by omega)]
    · have eT : V 46 13 + v = U0 70 hd := by omega
      rw [if_neg g, if_pos eT]
      refine Two.posR (by omega) ?_
      have cC : CFr V0 (up (up A 46 15 (U 62 75 - v)) 46 13 (V 46 13 + v)) := (cA.up rfl).up rfl
      have C0 : ∀ i, i ≠ 46 → i ≠ 47 → i ≠ 48 → up (up A 46 15 (U 62 75 - v)) 46 13 (V 46 13 + v) i = V i := fun i x1 x2 x3 => by rw [up_na _ _ _ x1, up_na _ _ _ x1, a0 i x2 x3]
      have C46 : ∀ x, up (up A 46 15 (U 62 75 - v)) 46 13 (V 46 13 + v) 46 x = if x = 13 then V 46 13 + v else if x = 15 then U 62 75 - v else V 46 x := fun x => by rw [up_ap, if_pos rfl, up_ap, if_pos rfl, a46]
      have C47 : ∀ x, up (up A 46 15 (U 62 75 - v)) 46 13 (V 46 13 + v) 47 x = if x = 3 then (if V 47 3 = -1 then t else V 47 3) else V 47 x := fun x => by rw [up_na _ _ _ (by omega), up_na _ _ _ (by omega), a47]
      have C48 : ∀ x, up (up A 46 15 (U 62 75 - v)) 46 13 (V 46 13 + v) 48 x = if x = hd then (if V 46 13 = 0 then t else V 48 hd) else V 48 x := fun x => by rw [up_na _ _ _ (by omega), up_na _ _ _ (by omega), a48]
      generalize up (up A 46 15 (U 62 75 - v)) 46 13 (V 46 13 + v) = C at *
      have wC : WmOK C := by unfold WmOK; rw [C0 15 (by omega) (by omega) (by omega)]; exact wm
      refine Two.bbindL (Two.bindL (cbegin (V := C) (j := hd) (mi := t) (ht := V 46 14) wC (by omega) (by rw [C0 8 (by omega) (by omega) (by omega), d1]; exact d3) (by rw [C0 8 (by omega) (by omega) (by omega), d1]; exact d4) (by omega) (by omega)) (fun W hW => ?_))
      obtain ⟨cb, w32_, w33_, wck⟩ := hW
      -- the reference cools it at once
      have B' : ∀ i, i ≠ 62 → i ≠ 97 → up (up B 62 77 t) 97 hd t i = B i := fun i x1 x2 => by rw [up_na _ _ _ x2, up_na _ _ _ x1]
      have B62 : ∀ x, up (up B 62 77 t) 97 hd t 62 x = if x = 77 then t else B 62 x := fun x => by rw [up_na _ _ _ (by omega), up_ap, if_pos rfl]
      have B97 : ∀ x, up (up B 62 77 t) 97 hd t 97 x = if x = hd then t else U 97 x := fun x => by rw [up_ap, if_pos rfl, up_na _ _ _ (by omega), b0 97 (by omega) (by omega) (by omega)]
      have mB2 : MFr U0 (up (up B 62 77 t) 97 hd t) := (mB.up rfl).up rfl
      generalize up (up B 62 77 t) 97 hd t = D at *
      have D62 : ∀ x, x ≠ 73 → x ≠ 75 → x ≠ 77 → x ≠ 78 → D 62 x = U 62 x := fun x q1 q2 q3 q4 => by rw [B62, if_neg q3, b62, if_neg q1, if_neg q2, if_neg q4]
      have D69 : D 69 hd = U0 69 hd := by rw [B' 69 (by omega) (by omega), b0 69 (by omega) (by omega) (by omega)]; exact d2
      have D98 : D 98 hd = U 98 hd := by rw [B' 98 (by omega) (by omega), b0 98 (by omega) (by omega) (by omega)]
      have wD : WmU D := by
        unfold WmU
        rw [D62 29 (by omega) (by omega) (by omega) (by omega), D62 30 (by omega) (by omega) (by omega) (by omega), D62 31 (by omega) (by omega) (by omega) (by omega), D62 32 (by omega) (by omega) (by omega) (by omega), hm 62 29 rfl, hm 62 30 rfl, hm 62 31 rfl, hm 62 32 rfl]
        exact wU
      have mD : ∀ dep ht, mnU D dep ht = mnU U0 dep ht := fun dep ht => by
        rw [← mn2]; unfold mnU
        rw [D62 29 (by omega) (by omega) (by omega) (by omega), D62 30 (by omega) (by omega) (by omega) (by omega), D62 31 (by omega) (by omega) (by omega) (by omega), D62 32 (by omega) (by omega) (by omega) (by omega)]
      refine Two.bindR (cool_m (U := D) (j := hd) wD (by omega) (by rw [D69]; exact d3) (by rw [D69]; exact d4) (by rw [D98]; exact cold.2.1) (by rw [D98]; exact cold.2.2)) (fun E hE => ?_)
      obtain ⟨f109, fm⟩ := hE
      rw [mD, D69, D98] at fm
      obtain ⟨f1, f2⟩ := f109
      have E62 : ∀ x, E 62 x = D 62 x := fun x => by rw [f1 62 (by omega) (by omega) (by omega)]
      have W46 : ∀ x, W 46 x = C 46 x := fun x => by rw [cb.1 46 (by omega) (by omega) (by omega) (by omega) (by omega)]
      have W12 : W 46 12 = (hd : Int) := by rw [W46, C46]; simp only [Nat.reduceEqDiff, reduceIte]; rw [j1, hhd]
      have E74 : E 62 74 = (hd : Int) := by rw [E62, D62 74 (by omega) (by omega) (by omega) (by omega), hhd]
      have cW : CFr V0 W := by
        intro i k ek
        by_cases x : 32 ≤ i ∧ i ≤ 36
        · have : i = 32 ∨ i = 33 ∨ i = 34 ∨ i = 35 ∨ i = 36 := by omega
          rcases this with rfl | rfl | rfl | rfl | rfl <;> cases ek
        · rw [cb.1 i (by omega) (by omega) (by omega) (by omega) (by omega)]; exact cC i k ek
      have mE : MFr U0 E := by
        intro i k ek
        by_cases x : i = 109 ∨ i = 110 ∨ i = 111
        · rcases x with rfl | rfl | rfl <;> cases ek
        · rw [f1 i (by omega) (by omega) (by omega)]; exact mB2 i k ek
      have W1 : ∀ X : VV, X 1 = W 1 → f_Road_jobs X = U0 62 13 := fun X hX => by
        rw [jobs_row (V := V) (hX.trans ((cb.1 1 (by omega) (by omega) (by omega) (by omega) (by omega)).trans (C0 1 (by omega) (by omega) (by omega))))]; exact jb1
      rw [W12, E74, w32_id (x := (hd : Int) + 1) (by omega) (by omega)]
      rw [W1 (up (up W 46 12 ((hd : Int) + 1)) 46 13 0) (by rw [up_na _ _ _ (by omega), up_na _ _ _ (by omega)])]
      have fin : ∀ G : VV, CFr V0 G → (∀ i, i ≠ 46 → i ≠ 47 → G i = W i) → (∀ x, G 46 x = if x = 12 then (hd : Int) + 1 else if x = 13 then 0 else if x = 15 then U 62 75 - v else if x = 8 then (if (hd : Int) + 1 < U0 62 13 then V 46 8 else 1) else V 46 x) → (∀ x, G 47 x = if x = 3 then (if V 47 3 = -1 then t else V 47 3) else if x = 1 then (if (hd : Int) + 1 < U0 62 13 then V 47 1 else t) else V 47 x) → Two (F (G, v)) (f_Mo_paves_35 k1 (up E 62 74 ((hd : Int) + 1)) t (nn + v) more) Q := by
        intro G cG g0 g46 g47
        have u62 : ∀ x, up E 62 74 ((hd : Int) + 1) 62 x = if x = 74 then (hd : Int) + 1 else if x = 77 then t else if x = 73 then U 62 73 + v else if x = 75 then U 62 75 - v else if x = 78 then (if U 62 78 < 0 then t else U 62 78) else U 62 x := fun x => by rw [up_ap, if_pos rfl, E62, B62, b62]
        have u0 : ∀ i, i ≠ 62 → i ≠ 95 → i ≠ 96 → i ≠ 97 → i ≠ 109 → i ≠ 110 → i ≠ 111 → up E 62 74 ((hd : Int) + 1) i = U i := fun i x1 x2 x3 x4 x5 x6 x7 => by rw [up_na _ _ _ x1, f1 i x5 x6 x7, B' i x1 x4, b0 i x1 x2 x3]
        refine K G (up E 62 74 ((hd : Int) + 1)) v ?_ hv1.1 hv1.2.2.1 ?_ ?_ ?_
        · refine (r.layF (hd := hd) (v := v) ht hhd hj ⟨hv1.1, hv1.2.1⟩ eT (fun j hj => ⟨(e.ton r0 hj).2.2.1, (e.ton r0 hj).2.2.2.1⟩) cG (mE.up rfl) ?_ g46 g47 ?_ ?_ ?_ ?_ u0 u62 ?_ ?_ ?_ ?_ ?_).1
          · intro i x1 x2 x3 x4
            rw [g0 i x1 x2, cb.1 i (by omega) (by omega) (by omega) (by omega) (by omega), C0 i x1 x2 x3]
          · intro x
            rw [g0 48 (by omega) (by omega), cb.1 48 (by omega) (by omega) (by omega) (by omega) (by omega), C48]
          · intro x
            rw [g0 32 (by omega) (by omega)]
            by_cases ex : x = hd
            · rw [if_pos ex, ex]; exact w32_
            · rw [if_neg ex, (cb.2.1 x ex).1, C0 32 (by omega) (by omega) (by omega)]
          · intro x
            rw [g0 33 (by omega) (by omega)]
            by_cases ex : x = hd
            · rw [if_pos ex, ex]; exact w33_
            · rw [if_neg ex, (cb.2.1 x ex).2.1, C0 33 (by omega) (by omega) (by omega)]
          · intro j hj'
            have cj : CoolK W j := by
              by_cases ex : j = hd
              · rw [ex]; exact wck
              · refine CoolK.cb cb ex ?_
                have := (ka j (by omega)).1
                unfold CoolK shJ mnJ at this ⊢
                rw [C0 34 (by omega) (by omega) (by omega), C0 35 (by omega) (by omega) (by omega), C0 36 (by omega) (by omega) (by omega), C0 8 (by omega) (by omega) (by omega), C0 33 (by omega) (by omega) (by omega), C0 15 (by omega) (by omega) (by omega)]
                exact this
            unfold CoolK shJ mnJ at cj ⊢
            rw [g0 34 (by omega) (by omega), g0 35 (by omega) (by omega), g0 36 (by omega) (by omega), g0 8 (by omega) (by omega), g0 33 (by omega) (by omega), g0 15 (by omega) (by omega)]
            exact cj
          · intro x
            rw [up_na _ _ _ (by omega), f1 95 (by omega) (by omega) (by omega), B' 95 (by omega) (by omega), b95]
          · intro x
            rw [up_na _ _ _ (by omega), f1 96 (by omega) (by omega) (by omega), B' 96 (by omega) (by omega), b96]
          · intro x
            rw [up_na _ _ _ (by omega), f1 97 (by omega) (by omega) (by omega), B97]
          · intro m hm
            rw [up_na _ _ _ (by omega), f2 m hm, B' 109 (by omega) (by omega), b0 109 (by omega) (by omega) (by omega)]
          · intro i hi
            rw [up_na _ _ _ (by omega)]
            exact fm i hi
        · rw [u62]; simp only [Nat.reduceEqDiff, reduceIte]
        · rw [u62]; simp only [Nat.reduceEqDiff, reduceIte]; split <;> omega
        · exact u0 86 (by omega) (by omega) (by omega) (by omega) (by omega) (by omega) (by omega)
      have G46 : ∀ x, W 46 x = if x = 13 then V 46 13 + v else if x = 15 then U 62 75 - v else V 46 x := fun x => by rw [W46, C46]
      have G47 : ∀ x, W 47 x = if x = 3 then (if V 47 3 = -1 then t else V 47 3) else V 47 x := fun x => by rw [cb.1 47 (by omega) (by omega) (by omega) (by omega) (by omega), C47]
      by_cases gn : (hd : Int) + 1 < U0 62 13
      · rw [if_pos gn]
        refine fin (up (up W 46 12 ((hd : Int) + 1)) 46 13 0) ((cW.up rfl).up rfl) ?_ ?_ ?_
        · intro i x1 x2; rw [up_na _ _ _ x1, up_na _ _ _ x1]
        · intro x
          rw [up_ap, if_pos rfl, up_ap, if_pos rfl, G46, if_pos gn]
          by_cases x12 : x = 12
          · subst x12; simp only [Nat.reduceEqDiff, reduceIte]
          · by_cases x13 : x = 13
            · subst x13; simp only [Nat.reduceEqDiff, reduceIte]
            · by_cases x15 : x = 15
              · subst x15; simp only [Nat.reduceEqDiff, reduceIte]
              · by_cases x8 : x = 8
                · subst x8; simp only [Nat.reduceEqDiff, reduceIte]
                · rw [if_neg x13, if_neg x12, if_neg x13, if_neg x15, if_neg x12, if_neg x13, if_neg x15, if_neg x8]
        · intro x
          rw [up_na _ _ _ (by omega), up_na _ _ _ (by omega), G47, if_pos gn]
          by_cases x3 : x = 3
          · rw [if_pos x3, if_pos x3]
          · rw [if_neg x3, if_neg x3]
            by_cases x1 : x = 1
            · rw [if_pos x1, x1]
            · rw [if_neg x1]
      · rw [if_neg gn]
        refine Two.bltL ?_
        rw [setV_in (by omega) (by omega), show (1 : Int).toNat = 1 from rfl]
        refine fin (up (up (up (up W 46 12 ((hd : Int) + 1)) 46 13 0) 46 8 1) 47 1 t) ((((cW.up rfl).up rfl).up rfl).up rfl) ?_ ?_ ?_
        · intro i x1 x2; rw [up_na _ _ _ x2, up_na _ _ _ x1, up_na _ _ _ x1, up_na _ _ _ x1]
        · intro x
          rw [up_na _ _ _ (by omega), up_ap, if_pos rfl, up_ap, if_pos rfl, up_ap, if_pos rfl, G46, if_neg gn]
          by_cases x12 : x = 12
          · subst x12; simp only [Nat.reduceEqDiff, reduceIte]
          · by_cases x13 : x = 13
            · subst x13; simp only [Nat.reduceEqDiff, reduceIte]
            · by_cases x15 : x = 15
              · subst x15; simp only [Nat.reduceEqDiff, reduceIte]
              · by_cases x8 : x = 8
                · subst x8; simp only [Nat.reduceEqDiff, reduceIte]
                · rw [if_neg x8, if_neg x13, if_neg x12, if_neg x13, if_neg x15, if_neg x12, if_neg x13, if_neg x15, if_neg x8]
        · intro x
          rw [up_ap, if_pos rfl, up_na _ _ _ (by omega), up_na _ _ _ (by omega), up_na _ _ _ (by omega), G47, if_neg gn]
          by_cases x3 : x = 3
          · subst x3; simp only [Nat.reduceEqDiff, reduceIte]
          · rw [if_neg x3, if_neg x3]
  -- the steps ahead of it
  unfold f_Paving_layOut f_Mo_paves_17
  have ev : (if U 62 75 < w32 (U 62 92 - nn) then U 62 75 else w32 (U 62 92 - nn) : Int) = v := by
    rw [np.2.1, w32_id (x := U0 62 92 - nn) (by omega) (by omega)]
    split <;> omega
  rw [ev, j6, ← hv, hhd, Int.toNat_natCast]
  clear ev
  refine Two.negR (by omega) (Two.posR (by omega) ?_)
  have a473 : atV V 47 6 3 = V 47 3 := atV_in (by omega) (by omega)
  rw [a473]
  clear a473
  -- the reference's steps
  have right : ∀ {a : Option α}, (∀ B : VV, MFr U0 B → (∀ i, i ≠ 62 → i ≠ 95 → i ≠ 96 → B i = U i) → (∀ x, B 62 x = if x = 73 then U 62 73 + v else if x = 75 then U 62 75 - v else if x = 78 then (if U 62 78 < 0 then t else U 62 78) else U 62 x) → (∀ x, B 95 x = if x = hd then U 95 hd + v else U 95 x) → (∀ x, B 96 x = if x = hd then (if U 95 hd = 0 then t else U 96 hd) else U 96 x) → Two a (f_Mo_paves_29 k1 B t (nn + v) more) Q) → Two a (if U 95 hd = 0 then if 0 ≤ (hd : Int) ∧ (hd : Int) < (36 : Int) then f_Mo_paves_25 k1 (up U 96 hd t) t nn more v else none else f_Mo_paves_25 k1 U t nn more v) Q := by
    intro a KB
    have p25 : ∀ B : VV, MFr U0 B → (∀ i, i ≠ 96 → B i = U i) → (∀ x, B 96 x = if x = hd then (if U 95 hd = 0 then t else U 96 hd) else U 96 x) → Two a (f_Mo_paves_25 k1 B t nn more v) Q := by
      intro B mB b0 b96
      have B62 : B 62 = U 62 := b0 62 (by omega)
      have B95 : B 95 = U 95 := b0 95 (by omega)
      unfold f_Mo_paves_25
      rw [B62, B95, hhd, Int.toNat_natCast, w32_id (x := nn + v) (by omega) (by omega), w32_id (x := U 95 hd + v) (by omega) (by omega), w32_id (x := U 62 75 - v) (by omega) (by omega), w32_id (x := U 62 73 + v) (by omega) (by omega)]
      refine Two.posR (by omega) (Two.posR (by omega) (Two.iteR (fun g => KB _ ((((mB.up rfl).up rfl).up rfl).up rfl) ?_ ?_ ?_ ?_) (fun g => KB _ (((mB.up rfl).up rfl).up rfl) ?_ ?_ ?_ ?_)))
      · intro i x1 x2 x3
        rw [up_na _ _ _ x1, up_na _ _ _ x1, up_na _ _ _ x1, up_na _ _ _ x2, b0 i x3]
      · intro x
        rw [up_ap, if_pos rfl, up_ap, if_pos rfl, up_ap, if_pos rfl, up_na _ _ _ (by omega), B62]
        by_cases x73 : x = 73
        · subst x73; simp only [Nat.reduceEqDiff, reduceIte]
        · by_cases x75 : x = 75
          · subst x75; simp only [Nat.reduceEqDiff, reduceIte]
          · by_cases x78 : x = 78
            · subst x78; simp only [Nat.reduceEqDiff, reduceIte]; rw [if_pos g]
            · rw [if_neg x78, if_neg x73, if_neg x75, if_neg x73, if_neg x75, if_neg x78]
      · intro x
        rw [up_na _ _ _ (by omega), up_na _ _ _ (by omega), up_na _ _ _ (by omega), up_ap, if_pos rfl, B95]
      · intro x
        rw [up_na _ _ _ (by omega), up_na _ _ _ (by omega), up_na _ _ _ (by omega), up_na _ _ _ (by omega), b96]
      · intro i x1 x2 x3
        rw [up_na _ _ _ x1, up_na _ _ _ x1, up_na _ _ _ x2, b0 i x3]
      · intro x
        rw [up_ap, if_pos rfl, up_ap, if_pos rfl, up_na _ _ _ (by omega), B62]
        by_cases x73 : x = 73
        · subst x73; simp only [Nat.reduceEqDiff, reduceIte]
        · by_cases x75 : x = 75
          · subst x75; simp only [Nat.reduceEqDiff, reduceIte]
          · by_cases x78 : x = 78
            · subst x78; simp only [Nat.reduceEqDiff, reduceIte]; rw [if_neg g]
            · rw [if_neg x73, if_neg x75, if_neg x73, if_neg x75, if_neg x78]
      · intro x
        rw [up_na _ _ _ (by omega), up_na _ _ _ (by omega), up_ap, if_pos rfl, B95]
      · intro x
        rw [up_na _ _ _ (by omega), up_na _ _ _ (by omega), up_na _ _ _ (by omega), b96]
    refine Two.iteR (fun g => Two.posR (by omega) (p25 _ (hm.up rfl) (fun i x1 => up_na _ _ _ x1) (fun x => ?_))) (fun g => p25 U hm (fun _ _ => rfl) (fun x => ?_))
    · rw [up_ap, if_pos rfl, if_pos g]
    · rw [if_neg g]
      by_cases ex : x = hd
      · rw [if_pos ex, ex]
      · rw [if_neg ex]
  refine right (fun B mB b0 b62 b95 b96 => ?_)
  -- the class's steps
  have lay4 : ∀ A : VV, CFr V0 A → (∀ i, i ≠ 47 → A i = V i) → (∀ x, A 47 x = if x = 3 then (if V 47 3 = -1 then t else V 47 3) else V 47 x) → Two (Option.bind (f_Paving_layOut_4 A t v) F) (f_Mo_paves_29 k1 B t (nn + v) more) Q := by
    intro A cA a0 a47
    have A46 : A 46 = V 46 := a0 46 (by omega)
    unfold f_Paving_layOut_4
    rw [A46, j1, hhd, lt_eq, setV_in (by omega) (by omega), Int.toNat_natCast]
    refine Two.biteL (fun g => lay6 _ B (cA.up rfl) mB (fun i x1 x2 => by rw [up_na _ _ _ x2, a0 i x1]) (fun x => by rw [up_na _ _ _ (by omega), a47]) (fun x => ?_) b0 b62 b95 b96) (fun g => lay6 A B cA mB (fun i x1 x2 => a0 i x1) a47 (fun x => ?_) b0 b62 b95 b96)
    · rw [up_ap, if_pos rfl, if_pos g, a0 48 (by omega)]
    · rw [if_neg g, a0 48 (by omega)]
      by_cases ex : x = hd
      · rw [if_pos ex, ex]
      · rw [if_neg ex]
  refine Two.biteL (fun g => Two.bltL ?_) (fun g => lay4 V hc (fun _ _ => rfl) (fun x => ?_))
  · rw [setV_in (by omega) (by omega), show (3 : Int).toNat = 3 from rfl]
    refine lay4 _ (hc.up rfl) (fun i x1 => up_na _ _ _ x1) (fun x => ?_)
    rw [up_ap, if_pos rfl, if_pos g]
  · rw [if_neg g]
    by_cases ex : x = 3
    · rw [if_pos ex, ex]
    · rw [if_neg ex]
