/-! what a call of the class leaves alone, what a call of the reference leaves alone -/
theorem okL_nil {P : Nat → Prop} : okL P [] := fun k v h => by cases k <;> cases h
theorem okL_c {P : Nat → Prop} {v : AV} {L : List (Option AV)} (hv : okV P v) (h : okL P L) : okL P (some v :: L) := by
  intro k w e
  cases k with
  | zero => cases e; exact hv
  | succ k => exact h k w e
theorem okL_n {P : Nat → Prop} {L : List (Option AV)} (h : okL P L) : okL P (none :: L) := by
  intro k w e
  cases k with
  | zero => cases e
  | succ k => exact h k w e
def chkT (P : Nat → Bool) : List (List Nat) → Nat → Bool
  | [], _ => true
  | l :: T, i => (if P i = true then l.all (fun x => Nat.beq x 0 || P (x - 1)) else true) && chkT P T (i + 1)
theorem all_gl {P : Nat → Bool} : ∀ (l : List Nat) (k r : Nat), l.all (fun x => Nat.beq x 0 || P (x - 1)) = true → gl l k = some (r + 1) → P r = true := by
  intro l
  induction l with
  | nil => intro k r _ h; cases k <;> cases h
  | cons a l ih =>
    intro k r h e
    rw [List.all_cons, Bool.and_eq_true] at h
    cases k with
    | zero =>
      cases e
      have := h.1
      rw [Bool.or_eq_true] at this
      rcases this with x | x
      · cases x
      · exact x
    | succ k => exact ih k r h.2 e
theorem chkT_ok {P : Nat → Bool} : ∀ (T : List (List Nat)) (i j : Nat) (l : List Nat) (k r : Nat), chkT P T i = true → gl T j = some l → P (i + j) = true → gl l k = some (r + 1) → P r = true := by
  intro T
  induction T with
  | nil => intro i j l k r _ h; cases j <;> cases h
  | cons a T ih =>
    intro i j l k r h e hp e2
    unfold chkT at h
    rw [Bool.and_eq_true] at h
    cases j with
    | zero =>
      cases e
      rw [Nat.add_zero] at hp
      have h1 := h.1
      rw [if_pos hp] at h1
      exact all_gl _ k r h1 e2
    | succ j =>
      refine ih (i + 1) j l k r h.2 e ?_ e2
      rw [show i + 1 + j = i + (j + 1) by omega]
      exact hp
theorem G0_ok {P : Nat → Bool} {r o : Nat} (c : chkT P (GT r o) 0 = true) {id k x : Nat} (hp : P id = true) (e : G0 r o id k = x + 1) : P x = true := by
  unfold G0 at e
  cases hl : gl (GT r o) id with
  | none => rw [hl] at e; cases e
  | some l =>
    rw [hl] at e
    dsimp only at e
    cases hk : gl l k with
    | none => rw [hk] at e; cases e
    | some y =>
      rw [hk] at e
      dsimp only at e
      subst e
      exact chkT_ok (GT r o) 0 id l k x c hl (by rw [Nat.zero_add]; exact hp) hk
theorem gl_no {α : Type} : ∀ (l : List α) (k : Nat), l.length ≤ k → gl l k = none := by
  intro l
  induction l with
  | nil => intro k _; cases k <;> rfl
  | cons a l ih =>
    intro k h
    cases k with
    | zero => exact absurd h (Nat.not_succ_le_zero _)
    | succ k => exact ih k (Nat.le_of_succ_le_succ h)
theorem GT_len (r o : Nat) : (GT r o).length = 123 := rfl
theorem K0_len : K0.length = 123 := rfl
theorem G0_far {r o id k : Nat} (h : 123 ≤ id) : G0 r o id k = 0 := by
  unfold G0
  have : gl (GT r o) id = none := gl_no _ _ (by rw [GT_len]; exact h)
  rw [this]
def PC (i : Nat) : Bool := Nat.ble i 61 || Nat.ble 123 i
def PB (i : Nat) : Bool := Nat.ble 62 i && Nat.ble i 122
set_option maxRecDepth 20000 in
theorem PB_chk : chkT PB (GT 29 30) 0 = true := by decide +kernel
set_option maxRecDepth 20000 in
theorem PC_chk {h : HP} (hh : HOK h) : chkT PC (GT h.1 h.2.1) 0 = true := by
  obtain ⟨g, h1, rfl⟩ := hh
  exact g_10 (P := fun g => chkT PC (GT (hg g).1 (hg g).2.1) 0 = true) (by decide +kernel) (by decide +kernel) (by decide +kernel) (by decide +kernel) (by decide +kernel) (by decide +kernel) (by decide +kernel) (by decide +kernel) (by decide +kernel) (by decide +kernel) h1
theorem frC {X : Xs} {d y : Nat} {L : List (Option AV)} {V V2 : VV} {h h2 : HP} (hh : HOK h) (hL : ∀ P : Nat → Prop, P 0 → okL P L) (o : Ok X d y 0 (L, [], mm V h) (fun M _ => M = mm V2 h2)) : ∀ i, 62 ≤ i → i ≤ 122 → V2 i = V i := by
  have hM : okM (fun i => PC i = true) (mm V h) := by
    refine ⟨fun id k r hp e => G0_ok (PC_chk hh) hp e, fun id hid => ?_⟩
    have h1 : (K0 ++ h.2.2).length ≤ id := hid
    rw [List.length_append, K0_len] at h1
    show PC id = true
    unfold PC
    rw [Nat.ble_eq_true_of_le (show 123 ≤ id by omega), Bool.or_true]
  obtain ⟨n, M, r, e, eM, fr⟩ := o.fr (fun i => PC i = true) (hL _ rfl) trivial hM
  subst eM
  intro i a b
  refine (fr i (fun x => ?_)).1
  have x' : PC i = true := x
  unfold PC at x'
  rw [Bool.or_eq_true] at x'
  rcases x' with y | y
  · have := Nat.le_of_ble_eq_true y; omega
  · have := Nat.le_of_ble_eq_true y; omega
theorem frM {X : Xs} {d y : Nat} {L : List (Option AV)} {V V2 : VV} (hL : ∀ P : Nat → Prop, P 62 → okL P L) (o : ∀ h : HP, Ok X d y 0 (L, [], mm V h) (fun M _ => M = mm V2 h)) : ∀ i, (i ≤ 61 ∨ 123 ≤ i) → V2 i = V i := by
  intro i hi
  have hM : okM (fun j => PB j = true ∨ 123 + (i + 1) ≤ j) (mm V (29, 30, List.replicate (i + 1) (0, 0))) := by
    refine ⟨fun id k r hp e => ?_, fun id hid => ?_⟩
    · rcases hp with hp | hp
      · exact Or.inl (G0_ok PB_chk hp e)
      · have e' : G0 29 30 id k = r + 1 := e
        rw [G0_far (by omega)] at e'
        cases e'
    · have h1 : (K0 ++ List.replicate (i + 1) ((0 : Nat), (0 : Nat))).length ≤ id := hid
      rw [List.length_append, K0_len, List.length_replicate] at h1
      exact Or.inr h1
  obtain ⟨n, M, r, e, eM, fr⟩ := (o (29, 30, List.replicate (i + 1) (0, 0))).fr (fun j => PB j = true ∨ 123 + (i + 1) ≤ j) (hL _ (Or.inl rfl)) trivial hM
  subst eM
  refine (fr i (fun x => ?_)).1
  rcases x with y | y
  · unfold PB at y
    rw [Bool.and_eq_true] at y
    have := Nat.le_of_ble_eq_true y.1
    have := Nat.le_of_ble_eq_true y.2
    omega
  · omega
