/-! tokens of the reference -/
theorem lsh8 {n m : Nat} (hn : n < 2 ^ 48) (hm : m < 256) : lorI (lshlI (n : Int) 8) (m : Int) = 256 * (n : Int) + m := by
  unfold lorI lshlI
  rw [Int64.ofInt_toInt]
  have e : (Int64.ofInt (n : Int) <<< ((Int32.ofInt 8).toInt64 &&& 63) ||| Int64.ofInt (m : Int)).toInt = (BitVec.ofInt 64 (n : Int) <<< 8 ||| BitVec.ofInt 64 (m : Int)).toInt := rfl
  rw [e, BitVec.ofInt_natCast, BitVec.ofInt_natCast]
  have t : (BitVec.ofNat 64 n <<< 8 ||| BitVec.ofNat 64 m).toNat = 256 * n + m := by
    rw [BitVec.toNat_or, BitVec.toNat_shiftLeft, BitVec.toNat_ofNat, BitVec.toNat_ofNat, Nat.mod_eq_of_lt (a := n) (by omega), Nat.mod_eq_of_lt (a := m) (by omega)]
    have h := Nat.shiftLeft_add_eq_or_of_lt (i := 8) (b := m) hm n
    rw [Nat.shiftLeft_eq] at h
    rw [Nat.shiftLeft_eq, Nat.mod_eq_of_lt (by omega), ← h]
    omega
  rw [BitVec.toInt_eq_toNat_of_lt (by omega), t]
  omega
theorem tv_bd {b : Nat → Int} {f : Nat} : ∀ n : Nat, (∀ i, f ≤ i → i < f + n → 0 ≤ b i ∧ b i ≤ 255) → 0 ≤ tv b f n ∧ tv b f n < 256 ^ n := by
  intro n
  induction n with
  | zero => intro _; exact ⟨Int.le_refl 0, (show (0 : Int) < 1 by decide)⟩
  | succ n ih =>
    intro h
    have i1 := ih (fun i a c => h i a (by omega))
    have d := h (f + n) (by omega) (by omega)
    show 0 ≤ 256 * tv b f n + b (f + n) ∧ 256 * tv b f n + b (f + n) < 256 ^ (n + 1)
    rw [Int.pow_succ]
    omega
/-- the reference's cells of a token -/
def TM (b : Nat → Int) (U : VV) (f t : Nat) (k : Int) : Prop := U 62 43 = t ∧ U 62 44 = f ∧ U 62 45 = (if k = 0 then 0 else if k = 1 then 2 else if k = 2 then 1 else if b f < 10 then 255 else b f) ∧ (k = 2 → U 62 46 = nv b f (t - f)) ∧ (k = 1 → U 62 47 = if t - f ≤ 7 then tv b f (t - f) else 0)
def FrMo (U X : VV) : Prop := (∀ i, i ≠ 62 → X i = U i) ∧ ∀ c, ¬ (43 ≤ c ∧ c ≤ 47) → X 62 c = U 62 c
theorem FrMo.rf {U : VV} : FrMo U U := ⟨fun _ _ => rfl, fun _ _ => rfl⟩
theorem FrMo.tr {U X Y : VV} (h : FrMo U X) (h2 : FrMo X Y) : FrMo U Y := ⟨fun i a => (h2.1 i a).trans (h.1 i a), fun c a => (h2.2 c a).trans (h.2 c a)⟩
theorem FrMo.up {U X : VV} {c : Nat} {x : Int} (h : FrMo U X) (hc : 43 ≤ c ∧ c ≤ 47) : FrMo U (up X 62 c x) := ⟨fun i a => by rw [up_na _ _ _ a]; exact h.1 i a, fun d a => by rw [up_nf _ _ (by omega)]; exact h.2 d a⟩
/-- the bytes of the reference's tape -/
def BM (b : Nat → Int) (sz : Nat) (U : VV) : Prop := U 62 40 = sz ∧ sz ≤ 400 ∧ ∀ i : Nat, i < sz → U 80 i = b i ∧ 0 ≤ b i ∧ b i ≤ 255
theorem BM.fr {b : Nat → Int} {sz : Nat} {U X : VV} (h : BM b sz U) (f : FrMo U X) : BM b sz X := ⟨by rw [f.2 40 (by omega)]; exact h.1, h.2.1, by rw [f.1 80 (by omega)]; exact h.2.2⟩
theorem BM.see {b : Nat → Int} {sz : Nat} {U : VV} (h : BM b sz U) (i : Nat) : f_Mo_see U (i : Int) = some (if i < sz then b i else -1) := by
  obtain ⟨h1, h2, h3⟩ := h
  unfold f_Mo_see
  by_cases g : i < sz
  · rw [if_pos (show (i : Int) < U 62 40 by omega), if_pos (by omega), Int.toNat_natCast, if_pos g, (h3 i g).1]
  · rw [if_neg (show ¬ (i : Int) < U 62 40 by omega), if_neg g]
theorem obs {α β : Type} {x : α} {f : α → Option β} : Option.bind (some x) f = f x := rfl
theorem nt11 {b : Nat → Int} {sz f t : Nat} (ht : t ≤ sz) (hl : ∀ i, f ≤ i → i < t → dig (b i)) (hn : t < sz → ¬ dig (b t)) {U0 : VV} (B : BM b sz U0) : ∀ (k n : Nat) (U : VV) (q : Nat), t = q + k → k < n → f ≤ q → FrMo U0 U → U 62 44 = f → U 62 45 = 1 → U 62 46 = nv b f (q - f) → U 62 43 = q → Sm (f_Mo_nextToken_11 n U) (fun X => FrMo U0 X ∧ X 62 44 = f ∧ X 62 45 = 1 ∧ X 62 46 = nv b f (t - f) ∧ X 62 43 = t) := by
  intro k
  induction k with
  | zero =>
    intro n U q e e2 e3 fr c4 c5 c6 c3
    cases n with
    | zero => omega
    | succ n =>
      have qt : q = t := by omega
      subst qt
      show Sm (Option.bind (f_Mo_see U (U 62 43)) (fun q1 => if (f_Mo_isDigit U q1) = 0 then some U else _)) _
      rw [c3, (B.fr fr).see, obs]
      have nd : ¬ dig (if q < sz then b q else -1) := by
        split
        · next g => exact hn g
        · unfold dig; omega
      rw [if_pos (digM.mpr nd)]
      exact Sm.ok ⟨fr, c4, c5, c6, c3⟩
  | succ k ih =>
    intro n U q e e2 e3 fr c4 c5 c6 c3
    cases n with
    | zero => omega
    | succ n =>
      have s3 := B.2.1
      have d := hl q e3 (by omega)
      have bd := nv_bd (b := b) (f := f) (q - f) (fun i x y => hl i x (by omega))
      have st : nv b f (q + 1 - f) = if nv b f (q - f) < 100000 then 10 * nv b f (q - f) + b q - 48 else nv b f (q - f) := by
        rw [show q + 1 - f = (q - f) + 1 by omega]
        show (if nv b f (q - f) < 100000 then 10 * nv b f (q - f) + b (f + (q - f)) - 48 else nv b f (q - f)) = _
        rw [show f + (q - f) = q by omega]
      show Sm (Option.bind (f_Mo_see U (U 62 43)) (fun q1 => if (f_Mo_isDigit U q1) = 0 then some U else if (U 62 46) < 100000 then Option.bind (f_Mo_see U (U 62 43)) (fun q5 => f_Mo_nextToken_17 (f_Mo_nextToken_11 n) (up U 62 46 (w32 ((w32 ((w32 (10 * (U 62 46))) + q5)) - 48)))) else f_Mo_nextToken_17 (f_Mo_nextToken_11 n) U)) _
      rw [c3, (B.fr fr).see, obs, obs, if_pos (show q < sz by omega), if_neg (fun x => digM.mp x d), c6]
      unfold f_Mo_nextToken_17
      unfold dig at d
      by_cases g : nv b f (q - f) < 100000
      · rw [if_pos g, up_nf _ _ (show (43 : Nat) ≠ 46 by omega), c3, w32_id (x := 10 * nv b f (q - f)) (by omega) (by omega), w32_id (x := 10 * nv b f (q - f) + b q) (by omega) (by omega), w32_id (x := 10 * nv b f (q - f) + b q - 48) (by omega) (by omega), w32_id (x := (q : Int) + 1) (by omega) (by omega)]
        refine ih n _ (q + 1) (by omega) (by omega) (by omega) ((fr.up (by omega)).up (by omega)) (by rw [up_nf _ _ (by omega), up_nf _ _ (by omega)]; exact c4) (by rw [up_nf _ _ (by omega), up_nf _ _ (by omega)]; exact c5) ?_ (by rw [up_eq]; omega)
        rw [up_nf _ _ (by omega), up_eq, st, if_pos g]
      · rw [if_neg g, c3, w32_id (x := (q : Int) + 1) (by omega) (by omega)]
        refine ih n _ (q + 1) (by omega) (by omega) (by omega) (fr.up (by omega)) (by rw [up_nf _ _ (by omega)]; exact c4) (by rw [up_nf _ _ (by omega)]; exact c5) ?_ (by rw [up_eq]; omega)
        rw [up_nf _ _ (by omega), st, if_neg g]
        exact c6
theorem nt21 {b : Nat → Int} {sz f t : Nat} (ht : t ≤ sz) (hl : ∀ i, f ≤ i → i < t → let_ (b i)) (hn : t < sz → ¬ let_ (b t)) {U0 : VV} (B : BM b sz U0) : ∀ (k n : Nat) (U : VV) (q : Nat), t = q + k → k < n → f ≤ q → FrMo U0 U → U 62 44 = f → U 62 45 = 2 → U 62 47 = (if q - f ≤ 7 then tv b f (q - f) else 0) → U 62 43 = q → Sm (f_Mo_nextToken_21 n U) (fun X => FrMo U0 X ∧ X 62 44 = f ∧ X 62 45 = 2 ∧ X 62 47 = (if t - f ≤ 7 then tv b f (t - f) else 0) ∧ X 62 43 = t) := by
  have s3 := B.2.1
  intro k
  induction k with
  | zero =>
    intro n U q e e2 e3 fr c4 c5 c6 c3
    cases n with
    | zero => omega
    | succ n =>
      have qt : q = t := by omega
      subst qt
      show Sm (Option.bind (f_Mo_see U (U 62 43)) (fun q1 => if (f_Mo_isLetter U q1) = 0 then if 7 < (w32 ((U 62 43) - (U 62 44))) then some (up U 62 47 0) else some U else _)) _
      rw [c3, (B.fr fr).see, obs, c4]
      have nd : ¬ let_ (if q < sz then b q else -1) := by
        split
        · next g => exact hn g
        · unfold let_; omega
      rw [if_pos (letM.mpr nd), w32_id (x := (q : Int) - f) (by omega) (by omega)]
      refine Sm.ite (fun g => ?_) (fun g => Sm.ok ⟨fr, c4, c5, c6, c3⟩)
      refine Sm.ok ⟨fr.up (by omega), by rw [up_nf _ _ (by omega)]; exact c4, by rw [up_nf _ _ (by omega)]; exact c5, ?_, by rw [up_nf _ _ (by omega)]; exact c3⟩
      rw [up_eq, if_neg (by omega)]
  | succ k ih =>
    intro n U q e e2 e3 fr c4 c5 c6 c3
    cases n with
    | zero => omega
    | succ n =>
      have d := hl q e3 (by omega)
      have st : tv b f (q + 1 - f) = 256 * tv b f (q - f) + b q := by
        rw [show q + 1 - f = (q - f) + 1 by omega]
        show 256 * tv b f (q - f) + b (f + (q - f)) = _
        rw [show f + (q - f) = q by omega]
      show Sm (Option.bind (f_Mo_see U (U 62 43)) (fun q1 => if (f_Mo_isLetter U q1) = 0 then _ else if (w32 ((U 62 43) - (U 62 44))) < 7 then Option.bind (f_Mo_see U (U 62 43)) (fun q6 => f_Mo_nextToken_28 (f_Mo_nextToken_21 n) U (lorI (lshlI (U 62 47) 8) q6)) else f_Mo_nextToken_28 (f_Mo_nextToken_21 n) U 0)) _
      rw [c3, (B.fr fr).see, obs, obs, if_pos (show q < sz by omega), if_neg (fun x => letM.mp x d), c4, w32_id (x := (q : Int) - f) (by omega) (by omega)]
      have go : ∀ x : Int, x = (if q + 1 - f ≤ 7 then tv b f (q + 1 - f) else 0) → Sm (f_Mo_nextToken_28 (f_Mo_nextToken_21 n) U x) (fun X => FrMo U0 X ∧ X 62 44 = f ∧ X 62 45 = 2 ∧ X 62 47 = (if t - f ≤ 7 then tv b f (t - f) else 0) ∧ X 62 43 = t) := by
        intro x hx
        unfold f_Mo_nextToken_28
        rw [c3, w32_id (x := (q : Int) + 1) (by omega) (by omega)]
        refine ih n _ (q + 1) (by omega) (by omega) (by omega) ((fr.up (by omega)).up (by omega)) (by rw [up_nf _ _ (by omega), up_nf _ _ (by omega)]; exact c4) (by rw [up_nf _ _ (by omega), up_nf _ _ (by omega)]; exact c5) ?_ (by rw [up_eq]; omega)
        rw [up_nf _ _ (by omega), up_eq]
        exact hx
      by_cases g : (q : Int) - f < 7
      · rw [if_pos g, c6, if_pos (by omega)]
        refine go _ ?_
        rw [if_pos (by omega), st]
        have bd := tv_bd (b := b) (f := f) (q - f) (fun i x y => (B.2.2 i (by omega)).2)
        have bq := (B.2.2 q (by omega)).2
        have mono : (256 : Int) ^ (q - f) ≤ 281474976710656 := by
          have : q - f = 0 ∨ q - f = 1 ∨ q - f = 2 ∨ q - f = 3 ∨ q - f = 4 ∨ q - f = 5 ∨ q - f = 6 := by omega
          rcases this with h | h | h | h | h | h | h <;> (rw [h]; decide)
        have bd' : ∀ x : Int, x = tv b f (q - f) → 0 ≤ x ∧ x < 281474976710656 := fun x hx => by rw [hx]; exact ⟨bd.1, Int.lt_of_lt_of_le bd.2 mono⟩
        generalize tv b f (q - f) = x at *
        have bx := bd' x rfl
        obtain ⟨m, rfl⟩ : ∃ m : Nat, x = (m : Int) := ⟨x.toNat, by omega⟩
        obtain ⟨y, hy⟩ : ∃ y : Nat, b q = (y : Int) := ⟨(b q).toNat, by omega⟩
        rw [hy]
        exact lsh8 (by omega) (by omega)
      · rw [if_neg g]
        refine go _ ?_
        rw [if_neg (by omega)]
theorem tokM {b : Nat → Int} {sz p f t : Nat} {k : Int} (tk : TokAt b sz p f t k) {U0 : VV} (B : BM b sz U0) : ∀ (m n : Nat) (U : VV) (q : Nat), f = q + m → m < n → p ≤ q → FrMo U0 U → U 62 43 = q → Sm (f_Mo_nextToken_0 n U) (fun X => FrMo U0 X ∧ TM b X f t k) := by
  obtain ⟨⟨p1, p2, p3, p4⟩, tq⟩ := tk
  have s3 := B.2.1
  intro m
  induction m with
  | zero =>
    intro n U q e e2 e3 fr c3
    cases n with
    | zero => omega
    | succ n =>
      have qt : q = f := by omega
      subst qt
      have BU := B.fr fr
      have f1 : FrMo U0 (up U 62 44 (q : Int)) := fr.up (by omega)
      show Sm (Option.bind (f_Mo_see U (U 62 43)) (fun q1 => if q1 = 32 then _ else Option.bind (f_Mo_see U (U 62 43)) (fun q3 => if q3 = 10 then _ else Option.bind (f_Mo_see (up U 62 44 (U 62 43)) (U 62 43)) (fun q5 => if q5 < 0 then some (up (up U 62 44 (U 62 43)) 62 45 0) else if (f_Mo_isDigit (up U 62 44 (U 62 43)) q5) = 0 then if (f_Mo_isLetter (up U 62 44 (U 62 43)) q5) = 0 then some (up (up (up U 62 44 (U 62 43)) 62 45 (if q5 < 10 then 255 else q5 : Int)) 62 43 (w32 ((U 62 43) + 1))) else f_Mo_nextToken_21 FU (up (up (up U 62 44 (U 62 43)) 62 45 2) 62 47 0) else f_Mo_nextToken_11 FU (up (up (up U 62 44 (U 62 43)) 62 45 1) 62 46 0))))) _
      rw [c3, BU.see, (B.fr f1).see, obs, obs, obs]
      rcases tq with ⟨h1, h2, h3⟩ | ⟨h1, h2, h3⟩
      · subst h3
        rw [if_neg (show ¬ q < sz by omega), if_neg (by omega), if_neg (by omega), if_pos (by omega)]
        refine Sm.ok ⟨f1.up (by omega), ?_, ?_, ?_, fun x => by omega, fun x => by omega⟩
        · rw [up_nf _ _ (by omega), up_nf _ _ (by omega), c3]; omega
        · rw [up_nf _ _ (by omega), up_eq]
        · rw [up_eq]; rfl
      · have bq := (B.2.2 q h1).2
        unfold bla at h2
        rw [if_pos h1, if_neg (by omega), if_neg (by omega), if_neg (by omega)]
        rcases h3 with ⟨e, h4, h5, h6⟩ | ⟨e, h4, h5, h6⟩ | ⟨e, h4, h5, h6⟩
        · subst e
          have l := h5 q (by omega) h4
          have nd : ¬ dig (b q) := by unfold dig; unfold let_ at l; omega
          rw [if_pos (digM.mpr nd), if_neg (fun x => letM.mp x l)]
          refine (nt21 p3 h5 h6 B (t - q) FU _ q (by omega) (show t - q < 40000 by omega) (by omega) ((f1.up (c := 45) (x := 2) (by omega)).up (c := 47) (x := 0) (by omega)) ?_ ?_ ?_ ?_).imp (fun X hX => ⟨hX.1, hX.2.2.2.2, hX.2.1, hX.2.2.1, fun x => by omega, fun _ => hX.2.2.2.1⟩)
          · rw [up_nf _ _ (by omega), up_nf _ _ (by omega), up_eq]
          · rw [up_nf _ _ (by omega), up_eq]
          · rw [up_eq, Nat.sub_self, if_pos (by omega)]; rfl
          · rw [up_nf _ _ (by omega), up_nf _ _ (by omega), up_nf _ _ (by omega)]; exact c3
        · subst e
          have d := h5 q (by omega) h4
          rw [if_neg (fun x => digM.mp x d)]
          refine (nt11 p3 h5 h6 B (t - q) FU _ q (by omega) (show t - q < 40000 by omega) (by omega) ((f1.up (c := 45) (x := 1) (by omega)).up (c := 46) (x := 0) (by omega)) ?_ ?_ ?_ ?_).imp (fun X hX => ⟨hX.1, hX.2.2.2.2, hX.2.1, hX.2.2.1, fun _ => hX.2.2.2.1, fun x => by omega⟩)
          · rw [up_nf _ _ (by omega), up_nf _ _ (by omega), up_eq]
          · rw [up_nf _ _ (by omega), up_eq]
          · rw [up_eq, Nat.sub_self]; rfl
          · rw [up_nf _ _ (by omega), up_nf _ _ (by omega), up_nf _ _ (by omega)]; exact c3
        · subst e
          rw [if_pos (digM.mpr h6), if_pos (letM.mpr h5), w32_id (x := (q : Int) + 1) (by omega) (by omega)]
          refine Sm.ok ⟨(f1.up (by omega)).up (by omega), ?_, ?_, ?_, fun x => by omega, fun x => by omega⟩
          · rw [up_eq]; omega
          · rw [up_nf _ _ (by omega), up_nf _ _ (by omega), up_eq]
          · rw [up_nf _ _ (by omega), up_eq]; rfl
  | succ m ih =>
    intro n U q e e2 e3 fr c3
    cases n with
    | zero => omega
    | succ n =>
      have BU := B.fr fr
      have bl := p4 q e3 (by omega)
      have nx : Sm (f_Mo_nextToken_4 (f_Mo_nextToken_0 n) U) (fun X => FrMo U0 X ∧ TM b X f t k) := by
        unfold f_Mo_nextToken_4
        rw [c3, w32_id (x := (q : Int) + 1) (by omega) (by omega)]
        exact ih n _ (q + 1) (by omega) (by omega) (by omega) (fr.up (by omega)) (by rw [up_eq]; omega)
      show Sm (Option.bind (f_Mo_see U (U 62 43)) (fun q1 => if q1 = 32 then f_Mo_nextToken_4 (f_Mo_nextToken_0 n) U else Option.bind (f_Mo_see U (U 62 43)) (fun q3 => if q3 = 10 then f_Mo_nextToken_4 (f_Mo_nextToken_0 n) U else _))) _
      rw [c3, BU.see, obs, obs, if_pos (show q < sz by omega)]
      unfold bla at bl
      refine Sm.ite (fun _ => nx) (fun g => ?_)
      rw [if_pos (by omega)]
      exact nx
theorem nextM {b : Nat → Int} {sz p f t : Nat} {k : Int} (tk : TokAt b sz p f t k) {U : VV} (B : BM b sz U) (c3 : U 62 43 = p) : Sm (f_Mo_nextToken U) (fun X => FrMo U X ∧ TM b X f t k) := by
  have s3 := B.2.1
  have fs := tk.1.2.1
  have ts := tk.1.2.2.1
  have pf := tk.1.1
  exact tokM tk B (f - p) FU U p (by omega) (show f - p < 40000 by omega) (by omega) FrMo.rf c3
