/-! the class marks a clause's minutes -/
theorem markL {V0 : VV} {w i : Nat} {mask : Int} {A B : Int} (hw : w < 3) (hi : i < 40) (hA : 0 ≤ A) (hB : B ≤ 4319) (eB : V0 23 i = B) : ∀ (k n : Nat) (V : VV) (t : Int), B + 1 - t ≤ (k : Int) → k < n → A ≤ t → t ≤ B + 1 → (∀ r, r ≠ 24 → V r = V0 r) → (∀ x : Nat, V 24 x = if 4320 * (w : Int) + A ≤ (x : Int) ∧ (x : Int) < 4320 * (w : Int) + t then iorI (V0 24 x) mask else V0 24 x) → Sm (f_Hours_mark_2 n V (w : Int) (i : Int) mask t) (fun W => (∀ r, r ≠ 24 → W r = V0 r) ∧ ∀ x : Nat, W 24 x = if 4320 * (w : Int) + A ≤ (x : Int) ∧ (x : Int) ≤ 4320 * (w : Int) + B then iorI (V0 24 x) mask else V0 24 x) := by
  have fin : ∀ (V : VV) (t : Int), B < t → t ≤ B + 1 → (∀ r, r ≠ 24 → V r = V0 r) → (∀ x : Nat, V 24 x = if 4320 * (w : Int) + A ≤ (x : Int) ∧ (x : Int) < 4320 * (w : Int) + t then iorI (V0 24 x) mask else V0 24 x) → Sm (some V) (fun W => (∀ r, r ≠ 24 → W r = V0 r) ∧ ∀ x : Nat, W 24 x = if 4320 * (w : Int) + A ≤ (x : Int) ∧ (x : Int) ≤ 4320 * (w : Int) + B then iorI (V0 24 x) mask else V0 24 x) := by
    intro V t a b h1 h2
    refine Sm.ok ⟨h1, fun x => ?_⟩
    rw [h2 x]
    by_cases g : 4320 * (w : Int) + A ≤ (x : Int) ∧ (x : Int) < 4320 * (w : Int) + t
    · rw [if_pos g, if_pos (by omega)]
    · rw [if_neg g, if_neg (by omega)]
  intro k
  induction k with
  | zero =>
    intro n V t e e1 h1 h2 h3 h4
    cases n with
    | zero => omega
    | succ n =>
      show Sm (if (atV V 23 40 (i : Int)) < t then some V else _) _
      rw [atV_in (by omega) (by omega), Int.toNat_natCast, h3 23 (by omega), eB, if_pos (by omega)]
      exact fin V t (by omega) h2 h3 h4
  | succ k ih =>
    intro n V t e e1 h1 h2 h3 h4
    cases n with
    | zero => omega
    | succ n =>
      show Sm (if (atV V 23 40 (i : Int)) < t then some V else lt_ (setV V 24 12960 (w32 ((w32 ((w : Int) * 4320)) + t)) (iorI (atV V 24 12960 (w32 ((w32 ((w : Int) * 4320)) + t))) mask)) (fun q4 => f_Hours_mark_2 n q4 (w : Int) (i : Int) mask (w32 (t + 1)))) _
      rw [atV_in (by omega) (by omega), Int.toNat_natCast, h3 23 (by omega), eB]
      by_cases g : B < t
      · rw [if_pos g]
        exact fin V t g h2 h3 h4
      · rw [if_neg g, w32_id (x := (w : Int) * 4320) (by omega) (by omega), w32_id (x := (w : Int) * 4320 + t) (by omega) (by omega), w32_id (x := t + 1) (by omega) (by omega), setV_in (by omega) (by omega), atV_in (by omega) (by omega)]
        unfold lt_
        refine ih n _ (t + 1) (by omega) (by omega) (by omega) (by omega) (fun r hr => by rw [up_na _ _ _ hr]; exact h3 r hr) (fun x => ?_)
        rw [up_ap, if_pos rfl]
        by_cases ex : x = ((w : Int) * 4320 + t).toNat
        · rw [if_pos ex, if_pos (by omega), ← ex, h4 x, if_neg (by omega)]
        · rw [if_neg ex, h4 x]
          by_cases g2 : 4320 * (w : Int) + A ≤ (x : Int) ∧ (x : Int) < 4320 * (w : Int) + t
          · rw [if_pos g2, if_pos (by omega)]
          · rw [if_neg g2, if_neg (by omega)]
theorem wetL {V0 : VV} {w i : Nat} {A B : Int} (hw : w < 3) (hi : i < 40) (hA : 0 ≤ A) (hB : B ≤ 4319) (eB : V0 23 i = B) : ∀ (k n : Nat) (V : VV) (t : Int), B + 1 - t ≤ (k : Int) → k < n → A ≤ t → t ≤ B + 1 → (∀ r, r ≠ 24 → V r = V0 r) → (∀ x : Nat, V 24 x = if 4320 * (w : Int) + A ≤ (x : Int) ∧ (x : Int) < 4320 * (w : Int) + t then iandI (V0 24 x) (-2) else V0 24 x) → Sm (f_Hours_wet_2 n V (w : Int) (i : Int) t) (fun W => (∀ r, r ≠ 24 → W r = V0 r) ∧ ∀ x : Nat, W 24 x = if 4320 * (w : Int) + A ≤ (x : Int) ∧ (x : Int) ≤ 4320 * (w : Int) + B then iandI (V0 24 x) (-2) else V0 24 x) := by
  have fin : ∀ (V : VV) (t : Int), B < t → t ≤ B + 1 → (∀ r, r ≠ 24 → V r = V0 r) → (∀ x : Nat, V 24 x = if 4320 * (w : Int) + A ≤ (x : Int) ∧ (x : Int) < 4320 * (w : Int) + t then iandI (V0 24 x) (-2) else V0 24 x) → Sm (some V) (fun W => (∀ r, r ≠ 24 → W r = V0 r) ∧ ∀ x : Nat, W 24 x = if 4320 * (w : Int) + A ≤ (x : Int) ∧ (x : Int) ≤ 4320 * (w : Int) + B then iandI (V0 24 x) (-2) else V0 24 x) := by
    intro V t a b h1 h2
    refine Sm.ok ⟨h1, fun x => ?_⟩
    rw [h2 x]
    by_cases g : 4320 * (w : Int) + A ≤ (x : Int) ∧ (x : Int) < 4320 * (w : Int) + t
    · rw [if_pos g, if_pos (by omega)]
    · rw [if_neg g, if_neg (by omega)]
  intro k
  induction k with
  | zero =>
    intro n V t e e1 h1 h2 h3 h4
    cases n with
    | zero => omega
    | succ n =>
      show Sm (if (atV V 23 40 (i : Int)) < t then some V else _) _
      rw [atV_in (by omega) (by omega), Int.toNat_natCast, h3 23 (by omega), eB, if_pos (by omega)]
      exact fin V t (by omega) h2 h3 h4
  | succ k ih =>
    intro n V t e e1 h1 h2 h3 h4
    cases n with
    | zero => omega
    | succ n =>
      show Sm (if (atV V 23 40 (i : Int)) < t then some V else lt_ (setV V 24 12960 (w32 ((w32 ((w : Int) * 4320)) + t)) (iandI (atV V 24 12960 (w32 ((w32 ((w : Int) * 4320)) + t))) (-2))) (fun q4 => f_Hours_wet_2 n q4 (w : Int) (i : Int) (w32 (t + 1)))) _
      rw [atV_in (by omega) (by omega), Int.toNat_natCast, h3 23 (by omega), eB]
      by_cases g : B < t
      · rw [if_pos g]
        exact fin V t g h2 h3 h4
      · rw [if_neg g, w32_id (x := (w : Int) * 4320) (by omega) (by omega), w32_id (x := (w : Int) * 4320 + t) (by omega) (by omega), w32_id (x := t + 1) (by omega) (by omega), setV_in (by omega) (by omega), atV_in (by omega) (by omega)]
        unfold lt_
        refine ih n _ (t + 1) (by omega) (by omega) (by omega) (by omega) (fun r hr => by rw [up_na _ _ _ hr]; exact h3 r hr) (fun x => ?_)
        rw [up_ap, if_pos rfl]
        by_cases ex : x = ((w : Int) * 4320 + t).toNat
        · rw [if_pos ex, if_pos (by omega), ← ex, h4 x, if_neg (by omega)]
        · rw [if_neg ex, h4 x]
          by_cases g2 : 4320 * (w : Int) + A ≤ (x : Int) ∧ (x : Int) < 4320 * (w : Int) + t
          · rw [if_pos g2, if_pos (by omega)]
          · rw [if_neg g2, if_neg (by omega)]
theorem mark2 {V : VV} {w i : Nat} {mask : Int} (hw : w < 3) (hi : i < 40) (h : 0 ≤ V 22 i ∧ V 22 i ≤ V 23 i ∧ V 23 i ≤ 4319) : Sm (f_Hours_mark V (w : Int) (i : Int) mask) (fun W => (∀ r, r ≠ 24 → W r = V r) ∧ ∀ x : Nat, W 24 x = if 4320 * (w : Int) + V 22 i ≤ (x : Int) ∧ (x : Int) ≤ 4320 * (w : Int) + V 23 i then iorI (V 24 x) mask else V 24 x) := by
  unfold f_Hours_mark
  rw [atV_in (by omega) (by omega), Int.toNat_natCast]
  exact markL hw hi h.1 h.2.2 rfl 4330 FU V (V 22 i) (by omega) (by decide) (by omega) (by omega) (fun _ _ => rfl) (fun x => by rw [if_neg (by omega)])
theorem wet2 {V : VV} {w i : Nat} (hw : w < 3) (hi : i < 40) (h : 0 ≤ V 22 i ∧ V 22 i ≤ V 23 i ∧ V 23 i ≤ 4319) : Sm (f_Hours_wet V (w : Int) (i : Int)) (fun W => (∀ r, r ≠ 24 → W r = V r) ∧ ∀ x : Nat, W 24 x = if 4320 * (w : Int) + V 22 i ≤ (x : Int) ∧ (x : Int) ≤ 4320 * (w : Int) + V 23 i then iandI (V 24 x) (-2) else V 24 x) := by
  unfold f_Hours_wet
  rw [atV_in (by omega) (by omega), Int.toNat_natCast]
  exact wetL hw hi h.1 h.2.2 rfl 4330 FU V (V 22 i) (by omega) (by decide) (by omega) (by omega) (fun _ _ => rfl) (fun x => by rw [if_neg (by omega)])
