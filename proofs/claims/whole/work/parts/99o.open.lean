/-! opening and shutting: the reference, the bits -/
def cov (V : VV) (i : Nat) (t : Int) : Prop := V 22 i ≤ t ∧ t ≤ V 23 i
def OPC (V : VV) (i : Nat) (w : Int) : Prop := V 19 i = 3 ∧ hld V i w
def RAIN (V : VV) (i : Nat) (w t : Int) : Prop := (V 19 i = 4 ∧ hld V i w) ∧ cov V i t
def OPN (V : VV) (n : Nat) (w t : Int) : Prop := (∀ i : Nat, i < n → ¬ RAIN V i w t) ∧ ((∀ i : Nat, i < n → ¬ OPC V i w) ∨ ∃ i : Nat, i < n ∧ OPC V i w ∧ cov V i t)
def SHC (V : VV) (i : Nat) (w p t : Int) : Prop := ((V 19 i = 2 ∧ hld V i w) ∧ V 21 i = p) ∧ cov V i t
def SHT (V : VV) (n : Nat) (w p t : Int) : Prop := ∃ i : Nat, i < n ∧ SHC V i w p t
def isR (r : Int) (P : Prop) : Prop := (r = 1 ∧ P) ∨ (r = 0 ∧ ¬ P)
theorem shutL {V U : VV} {n : Nat} {w p t : Int} (h : HRW V U n) (hw : 0 ≤ w) : ∀ (k m i : Nat), n = i + k → k < m → (∀ j : Nat, j < i → ¬ SHC V j w p t) → ∃ r, f_Mo_isShut_1 m U w p t (i : Int) = some r ∧ isR r (SHT V n w p t) := by
  obtain ⟨h1, h2, h3, h4⟩ := id h
  intro k
  induction k with
  | zero =>
    intro m i e e1 hj
    cases m with
    | zero => omega
    | succ m =>
      refine ⟨0, ?_, Or.inr ⟨rfl, fun ⟨j, a, b⟩ => hj j (by omega) b⟩⟩
      show (if (i : Int) < (U 62 48) then _ else some (0 : Int)) = some 0
      rw [if_neg (by omega)]
  | succ k ih =>
    intro m i e e1 hj
    cases m with
    | zero => omega
    | succ m =>
      obtain ⟨a1, a2, a3, a4, a5, a6, a7⟩ := h4 i (by omega)
      have i8 : 0 ≤ (i : Int) ∧ (i : Int) < (80 : Int) := by omega
      have nx : ¬ SHC V i w p t → ∃ r, f_Mo_isShut_11 (f_Mo_isShut_1 m) U w p t (i : Int) = some r ∧ isR r (SHT V n w p t) := by
        intro hn
        unfold f_Mo_isShut_11
        rw [w32_id (x := (i : Int) + 1) (by omega) (by omega)]
        exact ih m (i + 1) (by omega) (by omega) (fun j hj2 => by
          by_cases ej : j = i
          · rw [ej]; exact hn
          · exact hj j (by omega))
      have u : f_Mo_isShut_1 (m + 1) U w p t (i : Int) = Option.bind (f_Mo_holds U (i : Int) (2 + 1) w) (fun q2 => if q2 = 0 then f_Mo_isShut_11 (f_Mo_isShut_1 m) U w p t (i : Int) else if (U 83 i) = p then if (f_Mo_isIn U t (U 84 i) (U 85 i)) = 0 then f_Mo_isShut_11 (f_Mo_isShut_1 m) U w p t (i : Int) else some 1 else f_Mo_isShut_11 (f_Mo_isShut_1 m) U w p t (i : Int)) := by
        show (if (i : Int) < (U 62 48) then Option.bind (f_Mo_holds U (i : Int) 3 w) (fun q2 => if q2 = 0 then f_Mo_isShut_11 (f_Mo_isShut_1 m) U w p t (i : Int) else if 0 ≤ (i : Int) ∧ (i : Int) < (80 : Int) then if (U 83 (i : Int).toNat) = p then if 0 ≤ (i : Int) ∧ (i : Int) < (80 : Int) then if 0 ≤ (i : Int) ∧ (i : Int) < (80 : Int) then if (f_Mo_isIn U t (U 84 (i : Int).toNat) (U 85 (i : Int).toNat)) = 0 then f_Mo_isShut_11 (f_Mo_isShut_1 m) U w p t (i : Int) else some 1 else none else none else f_Mo_isShut_11 (f_Mo_isShut_1 m) U w p t (i : Int) else none) else _) = _
        rw [if_pos (by omega), if_pos i8, if_pos i8, if_pos i8, Int.toNat_natCast]
        rfl
      rw [u]
      rcases h.holds (k := 2) (w := w) (i := i) (by omega) (by omega) hw with ⟨y1, y2⟩ | ⟨y1, y2, y3⟩
      · rw [y1, obs, if_pos rfl]
        exact nx (fun x => y2 x.1.1)
      · have b5 := (a5 (by omega)).1
        have b7 := a7 (by omega)
        rw [y1, obs, if_neg (by omega), ← b5, ← b7.1, ← b7.2.1]
        by_cases g : V 21 i = p
        · rw [if_pos g]
          by_cases g2 : V 22 i ≤ t ∧ t ≤ V 23 i
          · rw [if_neg (show ¬ f_Mo_isIn U t (V 22 i) (V 23 i) = 0 by rw [isIn_1 g2.1 g2.2]; omega)]
            exact ⟨1, rfl, Or.inl ⟨rfl, i, by omega, ⟨⟨y2, y3⟩, g⟩, g2⟩⟩
          · rw [if_pos (isIn_0.mpr g2)]
            exact nx (fun x => g2 x.2)
        · rw [if_neg g]
          exact nx (fun x => g x.1.2)
theorem openL {V U : VV} {n : Nat} {w t : Int} (h : HRW V U n) (hw : 0 ≤ w) : ∀ (k m i : Nat) (v3 v4 : Int), n = i + k → k < m → (∀ j : Nat, j < i → ¬ RAIN V j w t) → isR v3 (∃ j : Nat, j < i ∧ OPC V j w) → isR v4 (∃ j : Nat, j < i ∧ OPC V j w ∧ cov V j t) → ∃ r, f_Mo_isOpen_1 m U w t v3 v4 (i : Int) = some r ∧ isR r (OPN V n w t) := by
  obtain ⟨h1, h2, h3, h4⟩ := id h
  intro k
  induction k with
  | zero =>
    intro m i v3 v4 e e1 hj r3 r4
    cases m with
    | zero => omega
    | succ m =>
      have ei : i = n := by omega
      subst ei
      refine ⟨if v4 = 0 then (if v3 = 0 then 1 else 0 : Int) else 1, ?_, ?_⟩
      · show (if (i : Int) < (U 62 48) then _ else some (if v4 = 0 then (if v3 = 0 then 1 else 0 : Int) else 1 : Int)) = _
        rw [if_neg (by omega)]
      · rcases r4 with ⟨x, y⟩ | ⟨x, y⟩
        · rw [x, if_neg (by omega)]
          exact Or.inl ⟨rfl, hj, Or.inr y⟩
        · rw [x, if_pos rfl]
          rcases r3 with ⟨x3, y3⟩ | ⟨x3, y3⟩
          · rw [x3, if_neg (by omega)]
            refine Or.inr ⟨rfl, fun o => ?_⟩
            rcases o.2 with o2 | o2
            · obtain ⟨j, j1, j2⟩ := y3
              exact o2 j j1 j2
            · exact y o2
          · rw [x3, if_pos rfl]
            exact Or.inl ⟨rfl, hj, Or.inl (fun j a b => y3 ⟨j, a, b⟩)⟩
  | succ k ih =>
    intro m i v3 v4 e e1 hj r3 r4
    cases m with
    | zero => omega
    | succ m =>
      obtain ⟨a1, a2, a3, a4, a5, a6, a7⟩ := h4 i (by omega)
      have i8 : 0 ≤ (i : Int) ∧ (i : Int) < (80 : Int) := by omega
      have more : ∀ (P : Nat → Prop) (v : Int), isR v (∃ j : Nat, j < i ∧ P j) → ¬ P i → isR v (∃ j : Nat, j < i + 1 ∧ P j) := by
        intro P v hv hn
        rcases hv with ⟨x, j, j1, j2⟩ | ⟨x, y⟩
        · exact Or.inl ⟨x, j, by omega, j2⟩
        · refine Or.inr ⟨x, fun ⟨j, j1, j2⟩ => ?_⟩
          by_cases ej : j = i
          · exact hn (ej ▸ j2)
          · exact y ⟨j, by omega, j2⟩
      have go : ∀ v3 v4 : Int, ¬ RAIN V i w t → isR v3 (∃ j : Nat, j < i + 1 ∧ OPC V j w) → isR v4 (∃ j : Nat, j < i + 1 ∧ OPC V j w ∧ cov V j t) → ∃ r, f_Mo_isOpen_20 (f_Mo_isOpen_1 m) U w t v3 v4 (i : Int) = some r ∧ isR r (OPN V n w t) := by
        intro v3 v4 hn q3 q4
        unfold f_Mo_isOpen_20
        rw [w32_id (x := (i : Int) + 1) (by omega) (by omega)]
        exact ih m (i + 1) v3 v4 (by omega) (by omega) (fun j hj2 => by
          by_cases ej : j = i
          · rw [ej]; exact hn
          · exact hj j (by omega)) q3 q4
      have nine : ¬ RAIN V i w t → ∃ r, f_Mo_isOpen_9 (f_Mo_isOpen_1 m) U w t v3 v4 (i : Int) = some r ∧ isR r (OPN V n w t) := by
        intro hn
        unfold f_Mo_isOpen_9 f_Mo_isOpen_17 f_Mo_isOpen_19
        rw [if_pos i8, if_pos i8, Int.toNat_natCast, show (4 : Int) = 3 + 1 by omega]
        rcases h.holds (k := 3) (w := w) (i := i) (by omega) (by omega) hw with ⟨y1, y2⟩ | ⟨y1, y2, y3⟩
        · rw [y1, obs, if_pos rfl]
          exact go v3 v4 hn (more (fun j => OPC V j w) v3 r3 y2) (more (fun j => OPC V j w ∧ cov V j t) v4 r4 (fun x => y2 x.1))
        · have b7 := a7 (by omega)
          have o1 : isR 1 (∃ j : Nat, j < i + 1 ∧ OPC V j w) := Or.inl ⟨rfl, i, by omega, y2, y3⟩
          rw [y1, obs, if_neg (by omega), ← b7.1, ← b7.2.1]
          rcases r4 with ⟨x, j, j1, j2⟩ | ⟨x, y⟩
          · rw [if_neg (by omega)]
            exact go 1 1 hn o1 (Or.inl ⟨rfl, j, by omega, j2⟩)
          · rw [if_pos x]
            by_cases g2 : V 22 i ≤ t ∧ t ≤ V 23 i
            · rw [if_neg (show ¬ f_Mo_isIn U t (V 22 i) (V 23 i) = 0 by rw [isIn_1 g2.1 g2.2]; omega)]
              exact go 1 1 hn o1 (Or.inl ⟨rfl, i, by omega, ⟨y2, y3⟩, g2⟩)
            · rw [if_pos (isIn_0.mpr g2)]
              exact go 1 0 hn o1 (more (fun j => OPC V j w ∧ cov V j t) 0 (Or.inr ⟨rfl, y⟩) (fun x => g2 x.2))
      have u : f_Mo_isOpen_1 (m + 1) U w t v3 v4 (i : Int) = Option.bind (f_Mo_holds U (i : Int) (4 + 1) w) (fun q5 => if q5 = 0 then f_Mo_isOpen_9 (f_Mo_isOpen_1 m) U w t v3 v4 (i : Int) else if (f_Mo_isIn U t (U 84 i) (U 85 i)) = 0 then f_Mo_isOpen_9 (f_Mo_isOpen_1 m) U w t v3 v4 (i : Int) else some 0) := by
        show (if (i : Int) < (U 62 48) then Option.bind (f_Mo_holds U (i : Int) 5 w) (fun q5 => if q5 = 0 then f_Mo_isOpen_9 (f_Mo_isOpen_1 m) U w t v3 v4 (i : Int) else if 0 ≤ (i : Int) ∧ (i : Int) < (80 : Int) then if 0 ≤ (i : Int) ∧ (i : Int) < (80 : Int) then if (f_Mo_isIn U t (U 84 (i : Int).toNat) (U 85 (i : Int).toNat)) = 0 then f_Mo_isOpen_9 (f_Mo_isOpen_1 m) U w t v3 v4 (i : Int) else some 0 else none else none) else _) = _
        rw [if_pos (by omega), if_pos i8, if_pos i8, Int.toNat_natCast]
        rfl
      rw [u]
      rcases h.holds (k := 4) (w := w) (i := i) (by omega) (by omega) hw with ⟨y1, y2⟩ | ⟨y1, y2, y3⟩
      · rw [y1, obs, if_pos rfl]
        exact nine (fun x => y2 x.1)
      · have b7 := a7 (by omega)
        rw [y1, obs, if_neg (by omega), ← b7.1, ← b7.2.1]
        by_cases g2 : V 22 i ≤ t ∧ t ≤ V 23 i
        · rw [if_neg (show ¬ f_Mo_isIn U t (V 22 i) (V 23 i) = 0 by rw [isIn_1 g2.1 g2.2]; omega)]
          exact ⟨0, rfl, Or.inr ⟨rfl, fun o => o.1 i (by omega) ⟨⟨y2, y3⟩, g2⟩⟩⟩
        · rw [if_pos (isIn_0.mpr g2)]
          exact nine (fun x => g2 x.2)
/-- a minute's bits -/
def bt (x : Int) : Prop := x = 0 ∨ x = 1
theorem bits_ops {o a b c : Int} (ho : bt o) (ha : bt a) (hb : bt b) (hc : bt c) : iandI (o + 2 * a + 4 * b + 8 * c) 1 = o ∧ iandI (o + 2 * a + 4 * b + 8 * c) 2 = 2 * a ∧ iandI (o + 2 * a + 4 * b + 8 * c) 4 = 4 * b ∧ iandI (o + 2 * a + 4 * b + 8 * c) 8 = 8 * c ∧ iandI (o + 2 * a + 4 * b + 8 * c) (-2) = 2 * a + 4 * b + 8 * c ∧ iorI (o + 2 * a + 4 * b + 8 * c) 1 = 1 + 2 * a + 4 * b + 8 * c ∧ iorI (o + 2 * a + 4 * b + 8 * c) 2 = o + 2 + 4 * b + 8 * c ∧ iorI (o + 2 * a + 4 * b + 8 * c) 4 = o + 2 * a + 4 + 8 * c ∧ iorI (o + 2 * a + 4 * b + 8 * c) 8 = o + 2 * a + 4 * b + 8 := by
  rcases ho with rfl | rfl <;> rcases ha with rfl | rfl <;> rcases hb with rfl | rfl <;> rcases hc with rfl | rfl <;> decide
theorem shutBits {V : VV} : f_Hours_shutBit V 0 = 2 ∧ f_Hours_shutBit V 1 = 4 ∧ f_Hours_shutBit V 2 = 8 := by
  unfold f_Hours_shutBit
  decide
