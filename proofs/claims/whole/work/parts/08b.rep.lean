/-! what the small machine's state is in the real one: its cells lie from the base on, one behind another, as they were made -/
/-- base, addresses of what lies outside, the kinds' numbers and slots, the kinds of rows (0 ints, 1 longs, 2 shorts, 3 booleans) -/
abbrev GP : Type := Nat × (Nat → Nat) × (Nat → ClassId) × (Nat → Nat → Nat) × (Nat → ClassId)
abbrev gD (g : GP) : va_G := (g.2.2.1, g.2.2.2.1)
abbrev gA (g : GP) : Nat → ClassId := g.2.2.2.2
def rv (g : GP) : Nat → Value
  | 0 => .null
  | k + 1 => .ref (g.1 + k)
/-- what lies outside: the value of 1 is nobody's business, it may be null -/
def xv (g : GP) (k : Nat) : Value := if k = 1 ∧ g.2.1 2 = 0 then .null else .ref (g.2.1 k)
theorem xv_ref (g : GP) {k : Nat} (h : k ≠ 1) : xv g k = .ref (g.2.1 k) := if_neg (fun z => h z.1)
theorem xv_or (g : GP) (k : Nat) : xv g k = .null ∨ ∃ t, xv g k = .ref t := by
  unfold xv
  split
  · exact Or.inl rfl
  · exact Or.inr ⟨_, rfl⟩
def vv (g : GP) : AV → Value
  | .inl x => .int (Int32.ofInt x)
  | .inr (.inl x) => .long (Int64.ofInt x)
  | .inr (.inr (.inl r)) => rv g r
  | .inr (.inr (.inr k)) => xv g k
def fv (g : GP) (M : Mm) (id k : Nat) (kd : Nat) : Value := match kd with
  | 3 => rv g (M.2.1 id k)
  | 2 => .long (Int64.ofInt (M.1 id k))
  | _ => .int (Int32.ofInt (M.1 id k))
def fvs (g : GP) (M : Mm) (id : Nat) : Nat → List Nat → List Value
  | _, [] => []
  | k, kd :: l => fv g M id k kd :: fvs g M id (k + 1) l
def ent (g : GP) (M : Mm) (id : Nat) (q : Nat × Nat) : va_E :=
  if q.1 < 100 then .inr (q.1, fvs g M id 0 ((gl FDL q.1).getD []))
  else if q.1 = 101 then .inl (gA g 1, q.2, .inr (.inl (fun i => Int64.ofInt (M.1 id i))))
  else .inl (gA g (q.1 - 100), q.2, .inl (fun i => Int32.ofInt (M.1 id i)))
def wl (g : GP) (M : Mm) : Nat → List (Nat × Nat) → va_W
  | _, [] => []
  | i, q :: l => (g.1 + i, ent g M i q) :: wl g M (i + 1) l
def wld (g : GP) (M : Mm) : va_W := wl g M 0 M.2.2
theorem gl_lt {α : Type} {l : List α} {k : Nat} {a : α} (h : gl l k = some a) : k < l.length := by
  induction l generalizing k with
  | nil => cases h
  | cons b l ih =>
    cases k with
    | zero => exact Nat.zero_lt_succ _
    | succ k => exact Nat.succ_lt_succ (ih h)
theorem gl_get {α : Type} (l : List α) (k : Nat) : gl l k = l[k]? := by
  induction l generalizing k with
  | nil => rfl
  | cons b l ih =>
    cases k with
    | zero => rfl
    | succ k => exact ih k
theorem sl_set {α : Type} (l : List α) (k : Nat) (v : α) : sl l k v = l.set k v := by
  induction l generalizing k with
  | nil => rfl
  | cons b l ih =>
    cases k with
    | zero => rfl
    | succ k => show b :: sl l k v = b :: l.set k v; rw [ih]
theorem wl_get (g : GP) (M : Mm) (l : List (Nat × Nat)) : ∀ (i k : Nat), (wl g M i l)[k]? = (gl l k).map (fun q => (g.1 + (i + k), ent g M (i + k) q)) := by
  induction l with
  | nil => intro i k; rfl
  | cons q l ih =>
    intro i k
    cases k with
    | zero => rfl
    | succ k =>
      show (wl g M (i + 1) l)[k]? = _
      rw [ih, Nat.add_right_comm i 1 k]
      rfl
theorem wld_get (g : GP) (M : Mm) (k : Nat) : (wld g M)[k]? = (gl M.2.2 k).map (fun q => (g.1 + k, ent g M k q)) := by
  unfold wld
  rw [wl_get, Nat.zero_add]
theorem wld_at {g : GP} {M : Mm} {id : Nat} {q : Nat × Nat} (h : gl M.2.2 id = some q) : (wld g M)[id]? = some (g.1 + id, ent g M id q) := by
  rw [wld_get, h]; rfl
theorem fvs_get (g : GP) (M : Mm) (id : Nat) (l : List Nat) : ∀ (k j : Nat), (fvs g M id k l)[j]? = (gl l j).map (fv g M id (k + j)) := by
  induction l with
  | nil => intro k j; rfl
  | cons q l ih =>
    intro k j
    cases j with
    | zero => rfl
    | succ j =>
      show (fvs g M id (k + 1) l)[j]? = _
      rw [ih, Nat.add_right_comm k 1 j]
      rfl
theorem fvs_len (g : GP) (M : Mm) (id : Nat) (l : List Nat) : ∀ k, (fvs g M id k l).length = l.length := by
  induction l with
  | nil => intro k; rfl
  | cons q l ih => intro k; show (fvs g M id (k + 1) l).length + 1 = _; rw [ih]; rfl
theorem fvs_congr (g : GP) {M M2 : Mm} {id : Nat} (hV : ∀ k, M2.1 id k = M.1 id k) (hG : ∀ k, M2.2.1 id k = M.2.1 id k) (l : List Nat) : ∀ k, fvs g M2 id k l = fvs g M id k l := by
  induction l with
  | nil => intro k; rfl
  | cons q l ih =>
    intro k
    show fv g M2 id k q :: fvs g M2 id (k + 1) l = fv g M id k q :: fvs g M id (k + 1) l
    rw [ih]
    congr 1
    unfold fv
    rw [hV, hG]
theorem ent_congr (g : GP) {M M2 : Mm} {id : Nat} (q : Nat × Nat) (hV : ∀ k, M2.1 id k = M.1 id k) (hG : ∀ k, M2.2.1 id k = M.2.1 id k) : ent g M2 id q = ent g M id q := by
  unfold ent
  rw [fvs_congr g hV hG]
  simp only [hV]
theorem wld_set {g : GP} {M M2 : Mm} {id : Nat} {q : Nat × Nat} (hq : gl M.2.2 id = some q) (hK : M2.2.2 = M.2.2) (hV : ∀ i k, i ≠ id → M2.1 i k = M.1 i k) (hG : ∀ i k, i ≠ id → M2.2.1 i k = M.2.1 i k) : wld g M2 = (wld g M).set id (g.1 + id, ent g M2 id q) := by
  apply List.ext_getElem?
  intro k
  rw [wld_get, hK, List.getElem?_set]
  by_cases h : id = k
  · subst h
    have hl : id < (wld g M).length := by
      have := wld_at (g := g) hq
      exact (List.getElem?_eq_some_iff.mp this).1
    rw [if_pos rfl, if_pos hl, hq]; rfl
  · rw [if_neg h, wld_get]
    cases gl M.2.2 k with
    | none => rfl
    | some p => show some (g.1 + k, ent g M2 k p) = some (g.1 + k, ent g M k p); rw [ent_congr g p (fun j => hV k j (fun e => h e.symm)) (fun j => hG k j (fun e => h e.symm))]
theorem gl_app {α : Type} (l : List α) (a : α) (k : Nat) : gl (l ++ [a]) k = if k = l.length then some a else gl l k := by
  rw [gl_get, gl_get, List.getElem?_append]
  by_cases h : k < l.length
  · rw [if_pos h, if_neg (by omega)]
  · rw [if_neg h]
    by_cases h2 : k = l.length
    · rw [if_pos h2, h2, Nat.sub_self]; rfl
    · rw [if_neg h2, List.getElem?_eq_none (by simp; omega), List.getElem?_eq_none (by omega)]
theorem wl_app (g : GP) (M : Mm) (l : List (Nat × Nat)) (q : Nat × Nat) : ∀ i, wl g M i (l ++ [q]) = wl g M i l ++ [(g.1 + (i + l.length), ent g M (i + l.length) q)] := by
  induction l with
  | nil => intro i; rfl
  | cons p l ih =>
    intro i
    show (g.1 + i, ent g M i p) :: wl g M (i + 1) (l ++ [q]) = _
    rw [ih]
    show _ = (g.1 + i, ent g M i p) :: (wl g M (i + 1) l ++ _)
    rw [List.length_cons, Nat.add_right_comm i 1 l.length]
    rfl
theorem wl_congr (g : GP) {M M2 : Mm} (l : List (Nat × Nat)) : ∀ i, (∀ j k, i ≤ j → j < i + l.length → M2.1 j k = M.1 j k) → (∀ j k, i ≤ j → j < i + l.length → M2.2.1 j k = M.2.1 j k) → wl g M2 i l = wl g M i l := by
  induction l with
  | nil => intro i _ _; rfl
  | cons p l ih =>
    intro i hV hG
    show (g.1 + i, ent g M2 i p) :: wl g M2 (i + 1) l = (g.1 + i, ent g M i p) :: wl g M (i + 1) l
    rw [ent_congr g p (fun k => hV i k (Nat.le_refl _) (by simp)) (fun k => hG i k (Nat.le_refl _) (by simp)), ih (i + 1) (fun j k h1 h2 => hV j k (by omega) (by simp; omega)) (fun j k h1 h2 => hG j k (by omega) (by simp; omega))]
theorem wld_push {g : GP} {M M2 : Mm} {q : Nat × Nat} (hK : M2.2.2 = M.2.2 ++ [q]) (hV : ∀ i k, i < M.2.2.length → M2.1 i k = M.1 i k) (hG : ∀ i k, i < M.2.2.length → M2.2.1 i k = M.2.1 i k) : wld g M2 = wld g M ++ [(g.1 + M.2.2.length, ent g M2 M.2.2.length q)] := by
  unfold wld
  rw [hK, wl_app, Nat.zero_add, wl_congr g M.2.2 0 (fun j k _ h => hV j k (by omega)) (fun j k _ h => hG j k (by omega))]
/-- the numbers are in their ranges, the kinds are known -/
def wfV : AV → Prop
  | .inl x => inI x
  | .inr (.inl x) => inJ x
  | _ => True
def cellL (q : Nat × Nat) (k : Nat) : Prop := q.1 = 101 ∨ (q.1 < 100 ∧ fk q.1 k = some 2)
def wfM (M : Mm) : Prop := ∀ (id : Nat) (q : Nat × Nat), gl M.2.2 id = some q → ((q.1 < 13 ∨ (100 ≤ q.1 ∧ q.1 ≤ 103)) ∧ q.2 ≤ 1000000) ∧ ∀ k, (cellL q k → inJ (M.1 id k)) ∧ (¬ cellL q k → inI (M.1 id k))
def wfS (S : List AV) : Prop := ∀ v ∈ S, wfV v
def wfL (L : List (Option AV)) : Prop := ∀ (i : Nat) (v : AV), gl L i = some (some v) → wfV v
theorem wfS_c {v : AV} {S : List AV} (h : wfS (v :: S)) : wfV v ∧ wfS S := ⟨h v List.mem_cons_self, fun w hw => h w (List.mem_cons_of_mem _ hw)⟩
theorem wfS_i {v : AV} {S : List AV} (h1 : wfV v) (h2 : wfS S) : wfS (v :: S) := fun w hw => by
  rcases List.mem_cons.mp hw with rfl | hw
  · exact h1
  · exact h2 w hw
/-- the locals -/
def lrel (g : GP) (L : List (Option AV)) (ls : Array Slot) : Prop := ls.size = L.length ∧ lv_wf ls ∧ ∀ (i : Nat) (v : AV), gl L i = some (some v) → ls[i]? = some (.val (vv g v))
def enL (g : GP) : Nat → List (Option AV) → List (Nat × Value)
  | _, [] => []
  | i, none :: l => enL g (i + 1) l
  | i, some v :: l => (i, vv g v) :: enL g (i + 1) l
theorem enL_mem (g : GP) (L : List (Option AV)) : ∀ (i : Nat) (q : Nat × Value), q ∈ enL g i L ↔ ∃ (k : Nat) (v : AV), gl L k = some (some v) ∧ q = (i + k, vv g v) := by
  induction L with
  | nil => intro i q; constructor
           · intro h; cases h
           · rintro ⟨k, v, h, -⟩; cases h
  | cons a L ih =>
    intro i q
    cases a with
    | none =>
      show q ∈ enL g (i + 1) L ↔ _
      rw [ih]
      constructor
      · rintro ⟨k, v, h, rfl⟩; exact ⟨k + 1, v, h, by rw [Nat.add_right_comm]; rfl⟩
      · rintro ⟨k, v, h, rfl⟩
        cases k with
        | zero => cases h
        | succ k => exact ⟨k, v, h, by rw [Nat.add_right_comm]; rfl⟩
    | some w =>
      show q ∈ (i, vv g w) :: enL g (i + 1) L ↔ _
      rw [List.mem_cons, ih]
      constructor
      · rintro (rfl | ⟨k, v, h, rfl⟩)
        · exact ⟨0, w, rfl, rfl⟩
        · exact ⟨k + 1, v, h, by rw [Nat.add_right_comm]; rfl⟩
      · rintro ⟨k, v, h, rfl⟩
        cases k with
        | zero => left; cases h; rfl
        | succ k => right; exact ⟨k, v, h, by rw [Nat.add_right_comm]; rfl⟩
theorem lrel_has {g : GP} {L : List (Option AV)} {ls : Array Slot} (h : lrel g L ls) : lv_has ls L.length (enL g 0 L) := by
  refine ⟨h.1, h.2.1, fun q hq => ?_⟩
  obtain ⟨k, v, h1, rfl⟩ := (enL_mem g L 0 q).mp hq
  rw [Nat.zero_add]
  exact h.2.2 k v h1
theorem vv_cat (g : GP) (v : AV) : (vv g v).category = if isL v then 2 else 1 := by
  rcases v with x | x | r | k
  · rfl
  · rfl
  · cases r <;> rfl
  · show (xv g k).category = 1
    rcases xv_or g k with h | ⟨t, h⟩ <;> rw [h] <;> rfl
theorem st1_rel {g : GP} {L L2 : List (Option AV)} {k : Nat} {v : AV} (h : st1 L k v = some L2) (hv : isL v = false) {ls2 : Array Slot} (hl : lv_has ls2 L.length ((k, vv g v) :: (enL g 0 L).filter (fun q => !(q.1 == k) && !(q.1 + 1 == k && q.2.category == 2)))) (hk : k < L.length) : lrel g L2 ls2 := by
  have e : L2 = sl L k (some v) ∧ ∀ w, gl L (k - 1) = some (some w) → isL w = true → k = 0 := by
    cases k with
    | zero => cases h; exact ⟨rfl, fun _ _ _ => rfl⟩
    | succ j =>
      unfold st1 at h
      dsimp only at h
      cases hj : isLo (gl L j) with
      | true => rw [hj] at h; cases h
      | false =>
        rw [hj] at h; cases h
        refine ⟨rfl, fun w h1 h2 => ?_⟩
        rw [Nat.add_sub_cancel] at h1
        rw [h1] at hj
        have : isL w = false := hj
        rw [h2] at this; cases this
  obtain ⟨rfl, hlong⟩ := e
  refine ⟨by rw [hl.1, sl_set, List.length_set], hl.2.1, fun i w hi => ?_⟩
  rw [sl_set, gl_get, List.getElem?_set] at hi
  by_cases hik : k = i
  · subst hik
    rw [if_pos rfl, if_pos hk] at hi
    cases hi
    exact hl.2.2 _ List.mem_cons_self
  · rw [if_neg hik, ← gl_get] at hi
    refine hl.2.2 (i, vv g w) (List.mem_cons_of_mem _ (List.mem_filter.mpr ⟨(enL_mem g L 0 _).mpr ⟨i, w, hi, by rw [Nat.zero_add]⟩, ?_⟩))
    have h1 : (i == k) = false := by simp; omega
    have h2 : (i + 1 == k && (vv g w).category == 2) = false := by
      by_cases h3 : i + 1 = k
      · subst h3
        rw [Nat.add_sub_cancel] at hlong
        have : isL w = false := by
          cases hw : isL w with
          | false => rfl
          | true => exact absurd (hlong w hi hw) (by omega)
        rw [vv_cat, this]; simp
      · have : (i + 1 == k) = false := by simp; omega
        rw [this]; rfl
    simp [h1, h2]
theorem st2_rel {g : GP} {L L2 : List (Option AV)} {k : Nat} {v : AV} (h : st2 L k v = some L2) {ls2 : Array Slot} (hl : lv_has ls2 L.length ((k, vv g v) :: (enL g 0 L).filter (fun q => !(q.1 == k) && (!(q.1 == k + 1) && !(q.1 + 1 == k && q.2.category == 2))))) (hk : k + 1 < L.length) : lrel g L2 ls2 := by
  have e : L2 = sl (sl L k (some v)) (k + 1) none ∧ ∀ w, gl L (k - 1) = some (some w) → isL w = true → k = 0 := by
    cases k with
    | zero => cases h; exact ⟨rfl, fun _ _ _ => rfl⟩
    | succ j =>
      unfold st2 at h
      dsimp only at h
      cases hj : isLo (gl L j) with
      | true => rw [hj] at h; cases h
      | false =>
        rw [hj] at h; cases h
        refine ⟨rfl, fun w h1 h2 => ?_⟩
        rw [Nat.add_sub_cancel] at h1
        rw [h1] at hj
        have : isL w = false := hj
        rw [h2] at this; cases this
  obtain ⟨rfl, hlong⟩ := e
  refine ⟨by rw [hl.1, sl_set, sl_set, List.length_set, List.length_set], hl.2.1, fun i w hi => ?_⟩
  rw [sl_set, sl_set, gl_get, List.getElem?_set] at hi
  by_cases hik1 : k + 1 = i
  · rw [if_pos hik1] at hi
    split at hi <;> cases hi
  · rw [if_neg hik1, List.getElem?_set] at hi
    by_cases hik : k = i
    · subst hik
      rw [if_pos rfl, if_pos (by omega)] at hi
      cases hi
      exact hl.2.2 _ List.mem_cons_self
    · rw [if_neg hik, ← gl_get] at hi
      refine hl.2.2 (i, vv g w) (List.mem_cons_of_mem _ (List.mem_filter.mpr ⟨(enL_mem g L 0 _).mpr ⟨i, w, hi, by rw [Nat.zero_add]⟩, ?_⟩))
      have h1 : (i == k) = false := by simp; omega
      have h1b : (i == k + 1) = false := by simp; omega
      have h2 : (i + 1 == k && (vv g w).category == 2) = false := by
        by_cases h3 : i + 1 = k
        · subst h3
          rw [Nat.add_sub_cancel] at hlong
          have : isL w = false := by
            cases hw : isL w with
            | false => rfl
            | true => exact absurd (hlong w hi hw) (by omega)
          rw [vv_cat, this]; simp
        · have : (i + 1 == k) = false := by simp; omega
          rw [this]; rfl
      simp [h1, h1b, h2]
