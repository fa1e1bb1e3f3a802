/-! the reference runs a rate's code -/
def ST (U : VV) : List Int → Prop
  | [] => True
  | a :: s => U 121 s.length = a ∧ (-1000000000 ≤ a ∧ a ≤ 1000000000) ∧ ST U s
def CD (U : VV) : Nat → List (Int × Int) → Prop
  | i, [] => U 62 105 = i
  | i, (c, x) :: r => U 118 i = c ∧ U 119 i = x ∧ (0 ≤ c ∧ c ≤ 8) ∧ (c = 0 → 0 ≤ x ∧ x ≤ 9999) ∧ CD U (i + 1) r
theorem CD.len {U : VV} : ∀ (l : List (Int × Int)) (i : Nat), CD U i l → U 62 105 = ((i + l.length : Nat) : Int) := by
  intro l
  induction l with
  | nil => intro i h; exact h
  | cons a r ih =>
    intro i h
    obtain ⟨c, x⟩ := a
    have := ih (i + 1) h.2.2.2.2
    rw [this]
    show ((i + 1 + r.length : Nat) : Int) = ((i + (r.length + 1) : Nat) : Int)
    omega
theorem ST.up {U : VV} {k : Nat} {x : Int} : ∀ s : List Int, s.length ≤ k → ST U s → ST (up U 121 k x) s := by
  intro s
  induction s with
  | nil => intro _ _; trivial
  | cons a s ih =>
    intro h t
    have hl : s.length + 1 ≤ k := h
    exact ⟨by rw [up_nf _ _ (by omega)]; exact t.1, t.2.1, ih (by omega) t.2.2⟩
theorem CD.up {U : VV} {k : Nat} {x : Int} : ∀ (l : List (Int × Int)) (i : Nat), CD U i l → CD (up U 121 k x) i l := by
  intro l
  induction l with
  | nil => intro i h; exact (congrFun (up_na U k x (show (62 : Nat) ≠ 121 by omega)) 105).trans h
  | cons a r ih =>
    intro i h
    obtain ⟨c, y⟩ := a
    exact ⟨(congrFun (up_na U k x (show (118 : Nat) ≠ 121 by omega)) i).trans h.1, (congrFun (up_na U k x (show (119 : Nat) ≠ 121 by omega)) i).trans h.2.1, h.2.2.1, h.2.2.2.1, ih (i + 1) h.2.2.2.2⟩
theorem workL {v1 v2 v3 v4 : Int} (hv : ∀ v, v = v1 ∨ v = v2 ∨ v = v3 ∨ v = v4 → -1000000000 ≤ v ∧ v ≤ 1000000000) : ∀ (l : List (Int × Int)) (n i : Nat) (U : VV) (s s' : List Int), l.length < n → i + l.length ≤ 256 → s.length + l.length ≤ 128 → CD U i l → ST U s → runC (fun x => if x = 0 then v1 else if x = 1 then v2 else if x = 2 then v3 else v4) l s = some s' → Sm (f_Mo_work_1 n U v1 v2 v3 v4 (s.length : Int) (i : Int)) (fun z => ST z.1 s' ∧ (∀ r, r ≠ 121 → z.1 r = U r) ∧ z.2 = w32 (z.1 121 0)) := by
  intro l
  induction l with
  | nil =>
    intro n i U s s' hn _ _ hc hs hr
    cases n with
    | zero => exact absurd hn (Nat.not_lt_zero _)
    | succ n =>
      have h105 : U 62 105 = (i : Int) := hc
      cases hr
      show Sm (if (i : Int) < (U 62 105) then _ else some (U, w32 (U 121 0))) _
      rw [if_neg (by omega)]
      exact Sm.ok ⟨hs, fun _ _ => rfl, rfl⟩
  | cons a r ih =>
    intro n i U s s' hn hi hl hc hs hr
    obtain ⟨c, x⟩ := a
    cases n with
    | zero => exact absurd hn (Nat.not_lt_zero _)
    | succ n =>
      have len := hc.len
      have e1 : ((c, x) :: r).length = r.length + 1 := rfl
      rw [e1] at hn hi hl len
      obtain ⟨d1, d2, d3, d4, d5⟩ := hc
      have go : ∀ (V : VV) (q : List Int), (∀ k, k ≠ 121 → V k = U k) → CD V (i + 1) r → ST V q → q.length + r.length ≤ 128 → runC (fun x => if x = 0 then v1 else if x = 1 then v2 else if x = 2 then v3 else v4) r q = some s' → Sm (f_Mo_work_25 (f_Mo_work_1 n) V v1 v2 v3 v4 (q.length : Int) (i : Int)) (fun z => ST z.1 s' ∧ (∀ r, r ≠ 121 → z.1 r = U r) ∧ z.2 = w32 (z.1 121 0)) := by
        intro V q f1 f2 f3 f4 f5
        unfold f_Mo_work_25
        rw [w32_id (x := (i : Int) + 1) (by omega) (by omega)]
        exact (ih n (i + 1) V q s' (by omega) (by omega) f4 f2 f3 f5).imp (fun z hz => ⟨hz.1, fun k hk => (hz.2.1 k hk).trans (f1 k hk), hz.2.2⟩)
      have i2 : 0 ≤ (i : Int) ∧ (i : Int) < (256 : Int) := by omega
      have push : ∀ y : Int, (-1000000000 ≤ y ∧ y ≤ 1000000000) → (if c = 0 then U 119 i else (if (U 119 i) = 0 then v1 else (if (U 119 i) = 1 then v2 else (if (U 119 i) = 2 then v3 else v4 : Int) : Int) : Int) : Int) = y → runC (fun x => if x = 0 then v1 else if x = 1 then v2 else if x = 2 then v3 else v4) r (y :: s) = some s' → Sm (f_Mo_work_5 (f_Mo_work_1 n) U v1 v2 v3 v4 (s.length : Int) (i : Int) c) (fun z => ST z.1 s' ∧ (∀ r, r ≠ 121 → z.1 r = U r) ∧ z.2 = w32 (z.1 121 0)) := by
        intro y hy e hr2
        unfold f_Mo_work_5
        rw [if_pos i2, if_pos (by omega), Int.toNat_natCast, Int.toNat_natCast, e, w32_id (x := (s.length : Int) + 1) (by omega) (by omega)]
        exact go (up U 121 s.length y) (y :: s) (fun k hk => up_na _ _ _ hk) (CD.up r _ d5) ⟨up_eq _ _ _ _, hy, ST.up s (Nat.le_refl _) hs⟩ (by show s.length + 1 + r.length ≤ 128; omega) hr2
      unfold runC at hr
      show Sm (if (i : Int) < (U 62 105) then if 0 ≤ (i : Int) ∧ (i : Int) < (256 : Int) then if (U 118 (i : Int).toNat) = 0 then f_Mo_work_5 (f_Mo_work_1 n) U v1 v2 v3 v4 (s.length : Int) (i : Int) (U 118 (i : Int).toNat) else if (U 118 (i : Int).toNat) = 1 then f_Mo_work_5 (f_Mo_work_1 n) U v1 v2 v3 v4 (s.length : Int) (i : Int) (U 118 (i : Int).toNat) else _ else none else some (U, w32 (U 121 0))) _
      rw [if_pos (by omega), if_pos i2, Int.toNat_natCast, d1]
      by_cases c0 : c = 0
      · rw [if_pos c0] at hr ⊢
        exact push x (by have := d4 c0; omega) (by rw [if_pos c0]; exact d2) hr
      · rw [if_neg c0] at hr ⊢
        by_cases c1 : c = 1
        · rw [if_pos c1] at hr ⊢
          refine push _ ?_ (by rw [if_neg c0, d2]) hr
          split
          · exact hv _ (by simp)
          · split
            · exact hv _ (by simp)
            · split <;> exact hv _ (by simp)
        · rw [if_neg c1] at hr ⊢
          by_cases c2 : c = 2
          · rw [if_pos c2] at hr ⊢
            cases s with
            | nil => cases hr
            | cons y q =>
              obtain ⟨s1, s2, s3⟩ := hs
              have hl' : q.length + 1 + (r.length + 1) ≤ 128 := hl
              have e : w32 (((y :: q).length : Int) - 1) = (q.length : Int) := by
                rw [show (((y :: q).length : Nat) : Int) = (q.length : Int) + 1 from rfl, w32_id (by omega) (by omega)]; omega
              rw [e, if_pos (by omega), if_pos (by omega), Int.toNat_natCast, s1, w64_id (x := -y) (by omega) (by omega)]
              exact go (up U 121 q.length (-y)) (-y :: q) (fun k hk => up_na _ _ _ hk) (CD.up r _ d5) ⟨up_eq _ _ _ _, by omega, ST.up q (Nat.le_refl _) s3⟩ (by show q.length + 1 + r.length ≤ 128; omega) hr
          · rw [if_neg c2] at hr ⊢
            cases s with
            | nil => cases hr
            | cons y q1 =>
              cases q1 with
              | nil => cases hr
              | cons x2 q =>
                obtain ⟨s1, s2, s3, s4, s5⟩ := hs
                have hl' : q.length + 1 + 1 + (r.length + 1) ≤ 128 := hl
                have s1' : U 121 (q.length + 1) = y := s1
                have e : w32 (((y :: x2 :: q).length : Int) + -1) = ((q.length + 1 : Nat) : Int) := by
                  rw [show (((y :: x2 :: q).length : Nat) : Int) = (q.length : Int) + 1 + 1 from rfl, w32_id (by omega) (by omega)]; omega
                have e2 : w32 (((q.length + 1 : Nat) : Int) - 1) = (q.length : Int) := by rw [w32_id (by omega) (by omega)]; omega
                obtain ⟨a1, a2⟩ := actM (U := U) (c := c) s4 s2
                rw [e, e2, if_pos (by omega), if_pos (by omega), Int.toNat_natCast, Int.toNat_natCast, s3, s1', a1, obs, if_pos (by omega)]
                exact go (up U 121 q.length (opV c x2 y)) (opV c x2 y :: q) (fun k hk => up_na _ _ _ hk) (CD.up r _ d5) ⟨up_eq _ _ _ _, a2, ST.up q (Nat.le_refl _) s5⟩ (by show q.length + 1 + r.length ≤ 128; omega) hr
