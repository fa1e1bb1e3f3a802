/-! cores that are drawn -/
theorem ushr16 (x : Int) : 0 ≤ iushrI x 16 ∧ iushrI x 16 ≤ 65535 := by
  unfold iushrI
  have e : ((Int32.ofInt 16).toUInt32 &&& Int32.toUInt32 31) = (16 : UInt32) := by decide
  rw [e]
  generalize (Int32.ofInt x).toUInt32 = u
  have h : (u >>> 16).toNat = u.toNat / 65536 := by
    rw [UInt32.toNat_shiftRight]
    show u.toNat >>> 16 = _
    rw [Nat.shiftRight_eq_div_pow]
  have lt := u.toNat_lt
  have b : (u >>> 16).toNat ≤ 65535 := by rw [h]; omega
  generalize u >>> 16 = y at *
  have : y.toInt32.toInt = (y.toNat : Int) := by
    exact BitVec.toInt_eq_toNat_of_lt (x := y.toBitVec) (show 2 * y.toNat < 2 ^ 32 by omega)
  rw [this]
  omega
def PD (V U : VV) : Prop := ∀ i : Nat, (i : Int) < nJ V → V 58 i = U 122 i ∧ 0 ≤ V 58 i ∧ V 58 i < nJ V
def PDQ (V U W : VV) (z : VV × Int) : Prop := z.2 = 1 ∧ PD W z.1 ∧ (∀ i, i ≠ 58 → W i = V i) ∧ ∀ i, i ≠ 122 → z.1 i = U i
theorem draw6 {V0 U0 : VV} {N : Int} (hN : 0 < N ∧ N ≤ 36) (hn : nJ V0 = N) (e13 : U0 62 13 = N) {a : Int} (ha : 1 ≤ a ∧ a ≤ N) : ∀ (k n m : Nat) (V U : VV) (s t : Int), a - t ≤ (k : Int) → k < n → k < m → 0 ≤ t → t ≤ a → PD V U → (∀ i, i ≠ 58 → V i = V0 i) → (∀ i, i ≠ 122 → U i = U0 i) → Two (f_Br_draw_6 n V a N s t) (f_Mo_isDrawn_10 m U a s t) (PDQ V0 U0) := by
  have fin : ∀ (V U : VV), PD V U → (∀ i, i ≠ 58 → V i = V0 i) → (∀ i, i ≠ 122 → U i = U0 i) → Two (some V) (some (U, (1 : Int))) (PDQ V0 U0) := fun V U p1 p2 p3 => Two.ok ⟨rfl, p1, p2, p3⟩
  intro k
  induction k with
  | zero =>
    intro n m V U s t e1 e2 e3 t0 t1 p1 p2 p3
    cases n with
    | zero => omega
    | succ n =>
      cases m with
      | zero => omega
      | succ m =>
        show Two (if t < a then _ else some V) (if t < a then _ else some (U, 1)) _
        rw [if_neg (by omega), if_neg (by omega)]
        exact fin V U p1 p2 p3
  | succ k ih =>
    intro n m V U s t e1 e2 e3 t0 t1 p1 p2 p3
    cases n with
    | zero => omega
    | succ n =>
      cases m with
      | zero => omega
      | succ m =>
        by_cases g : t < a
        · have nV : nJ V = N := by rw [← hn]; unfold nJ; rw [p2 1 (by omega)]
          have u62 : U 62 13 = N := by rw [p3 62 (by omega)]; exact e13
          have sh := ushr16 (w32 ((w32 (s * 1103515245)) + 12345))
          show Two (if t < a then if t < N then if (max 1 (w32 (N - t))) = 0 then none else lt_ (setV V 58 36 t (atV V 58 36 (w32 (t + (Int.tmod (iushrI (w32 ((w32 (s * 1103515245)) + 12345)) 16) (max 1 (w32 (N - t)))))))) (fun q6 => lt_ (setV q6 58 36 (w32 (t + (Int.tmod (iushrI (w32 ((w32 (s * 1103515245)) + 12345)) 16) (max 1 (w32 (N - t)))))) (atV V 58 36 t)) (fun q7 => f_Br_draw_6 n q7 a N (w32 ((w32 (s * 1103515245)) + 12345)) (w32 (t + 1)))) else some V else some V) (if t < a then if (w32 ((U 62 13) - t)) = 0 then none else if 0 ≤ t ∧ t < (36 : Int) then if 0 ≤ (w32 (t + (Int.tmod (iushrI (w32 ((w32 (s * 1103515245)) + 12345)) 16) (w32 ((U 62 13) - t))))) ∧ (w32 (t + (Int.tmod (iushrI (w32 ((w32 (s * 1103515245)) + 12345)) 16) (w32 ((U 62 13) - t))))) < (36 : Int) then if 0 ≤ t ∧ t < (36 : Int) then if 0 ≤ (w32 (t + (Int.tmod (iushrI (w32 ((w32 (s * 1103515245)) + 12345)) 16) (w32 ((U 62 13) - t))))) ∧ (w32 (t + (Int.tmod (iushrI (w32 ((w32 (s * 1103515245)) + 12345)) 16) (w32 ((U 62 13) - t))))) < (36 : Int) then f_Mo_isDrawn_10 m (up (up U 122 t.toNat (U 122 ((w32 (t + (Int.tmod (iushrI (w32 ((w32 (s * 1103515245)) + 12345)) 16) (w32 ((U 62 13) - t))))).toNat))) 122 ((w32 (t + (Int.tmod (iushrI (w32 ((w32 (s * 1103515245)) + 12345)) 16) (w32 ((U 62 13) - t))))).toNat) (U 122 t.toNat)) a (w32 ((w32 (s * 1103515245)) + 12345)) (w32 (t + 1)) else none else none else none else none else some (U, 1)) _
          generalize w32 ((w32 (s * 1103515245)) + 12345) = s2 at *
          generalize iushrI s2 16 = y at *
          rw [u62, w32_id (x := N - t) (by omega) (by omega), show max 1 (N - t) = N - t by omega]
          have y0 : 0 ≤ Int.tmod y (N - t) ∧ Int.tmod y (N - t) < N - t := ⟨Int.tmod_nonneg _ (by omega), Int.tmod_lt_of_pos _ (by omega)⟩
          generalize Int.tmod y (N - t) = d at *
          rw [w32_id (x := t + d) (by omega) (by omega), w32_id (x := t + 1) (by omega) (by omega)]
          refine Two.posL g (Two.posL (by omega) (Two.negL (by omega) (Two.posR g (Two.negR (by omega) (Two.posR (by omega) (Two.posR (by omega) (Two.posR (by omega) (Two.posR (by omega) ?_))))))))
          rw [atV_in (by omega) (by omega), atV_in (by omega) (by omega)]
          unfold lt_
          dsimp only
          rw [setV_in (V := V) (by omega) (by omega), setV_in (by omega) (by omega)]
          have pa := p1 t.toNat (by omega)
          have pb := p1 (t + d).toNat (by omega)
          refine ih n m _ _ s2 (t + 1) (by omega) (by omega) (by omega) (by omega) (by omega) (fun i hi => ?_) (fun i hi => ?_) (fun i hi => ?_)
          · have nW : nJ (up (up V 58 t.toNat (V 58 (t + d).toNat)) 58 (t + d).toNat (V 58 t.toNat)) = N := by rw [← nV]; rfl
            rw [nW] at hi ⊢
            have pi := p1 i (by omega)
            rw [nV] at pa pb pi
            rw [up_ap, up_ap, up_ap, up_ap, if_pos rfl, if_pos rfl, if_pos rfl, if_pos rfl]
            split
            · exact pa
            · split
              · exact pb
              · exact pi
          · rw [up_na _ _ _ hi, up_na _ _ _ hi]; exact p2 i hi
          · rw [up_na _ _ _ hi, up_na _ _ _ hi]; exact p3 i hi
        · show Two (if t < a then _ else some V) (if t < a then _ else some (U, 1)) _
          rw [if_neg g, if_neg g]
          exact fin V U p1 p2 p3
theorem draw2 {V0 U0 : VV} {N : Int} (hN : 0 < N ∧ N ≤ 36) (hn : nJ V0 = N) (e13 : U0 62 13 = N) {a s : Int} (ha : 1 ≤ a ∧ a ≤ N) : ∀ (k n m : Nat) (V U : VV) (t : Int), N - t ≤ (k : Int) → k < n → k < m → 0 ≤ t → t ≤ N → (∀ i : Nat, (i : Int) < t → V 58 i = i ∧ U 122 i = i) → (∀ i, i ≠ 58 → V i = V0 i) → (∀ i, i ≠ 122 → U i = U0 i) → Two (f_Br_draw_2 n V a s N t) (f_Mo_isDrawn_6 m U a s t) (PDQ V0 U0) := by
  have fin : ∀ (V U : VV) (t : Int), N ≤ t → (∀ i : Nat, (i : Int) < t → V 58 i = i ∧ U 122 i = i) → (∀ i, i ≠ 58 → V i = V0 i) → (∀ i, i ≠ 122 → U i = U0 i) → Two (f_Br_draw_6 FU V a N s 0) (f_Mo_isDrawn_10 FU U a s 0) (PDQ V0 U0) := fun V U t ht p1 p2 p3 => by
    have nV : nJ V = N := by rw [← hn]; unfold nJ; rw [p2 1 (by omega)]
    refine draw6 hN hn e13 ha 36 FU FU V U s 0 (by omega) (by decide) (by decide) (by omega) (by omega) (fun i hi => ?_) p2 p3
    have := p1 i (by omega)
    rw [nV] at hi ⊢
    omega
  intro k
  induction k with
  | zero =>
    intro n m V U t e1 e2 e3 t0 t1 p1 p2 p3
    cases n with
    | zero => omega
    | succ n =>
      cases m with
      | zero => omega
      | succ m =>
        have u62 : U 62 13 = N := by rw [p3 62 (by omega)]; exact e13
        show Two (if t < N then _ else f_Br_draw_6 FU V a N s 0) (if t < U 62 13 then _ else f_Mo_isDrawn_10 FU U a s 0) _
        rw [u62, if_neg (by omega), if_neg (by omega)]
        exact fin V U t (by omega) p1 p2 p3
  | succ k ih =>
    intro n m V U t e1 e2 e3 t0 t1 p1 p2 p3
    cases n with
    | zero => omega
    | succ n =>
      cases m with
      | zero => omega
      | succ m =>
        have u62 : U 62 13 = N := by rw [p3 62 (by omega)]; exact e13
        show Two (if t < N then lt_ (setV V 58 36 t t) (fun q2 => f_Br_draw_2 n q2 a s N (w32 (t + 1))) else f_Br_draw_6 FU V a N s 0) (if t < U 62 13 then if 0 ≤ t ∧ t < (36 : Int) then f_Mo_isDrawn_6 m (up U 122 t.toNat t) a s (w32 (t + 1)) else none else f_Mo_isDrawn_10 FU U a s 0) _
        rw [u62]
        by_cases g : t < N
        · rw [if_pos g, if_pos g, if_pos (by omega), w32_id (x := t + 1) (by omega) (by omega)]
          unfold lt_
          rw [setV_in (by omega) (by omega)]
          refine ih n m _ _ (t + 1) (by omega) (by omega) (by omega) (by omega) (by omega) (fun i hi => ?_) (fun i hi => ?_) (fun i hi => ?_)
          · rw [up_ap, up_ap, if_pos rfl, if_pos rfl]
            by_cases e : i = t.toNat
            · rw [if_pos e, if_pos e]; omega
            · rw [if_neg e, if_neg e]; exact p1 i (by omega)
          · rw [up_na _ _ _ hi]; exact p2 i hi
          · rw [up_na _ _ _ hi]; exact p3 i hi
        · rw [if_neg g, if_neg g]
          exact fin V U t (by omega) p1 p2 p3
