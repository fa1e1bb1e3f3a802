/-! the law, some blocks at a time -/
theorem gl_lt0 {α : Type} {l : List α} {k : Nat} {a : α} (h : gl l k = some a) : k < l.length := by
  induction l generalizing k with
  | nil => cases h
  | cons b l ih =>
    cases k with
    | zero => exact Nat.zero_lt_succ _
    | succ k => exact Nat.succ_lt_succ (ih h)
theorem chl_0 : ∀ b, 0 ≤ b → b < 30 → chkAt 241 b = true := by
  intro b h1 h2
  have h : (List.range 30).all (fun k => chkAt 241 (0 + k)) = true := by decide +kernel
  have h3 := List.all_eq_true.mp h (b - 0) (List.mem_range.mpr (by omega))
  rwa [show 0 + (b - 0) = b by omega] at h3
theorem chl_30 : ∀ b, 30 ≤ b → b < 60 → chkAt 241 b = true := by
  intro b h1 h2
  have h : (List.range 30).all (fun k => chkAt 241 (30 + k)) = true := by decide +kernel
  have h3 := List.all_eq_true.mp h (b - 30) (List.mem_range.mpr (by omega))
  rwa [show 30 + (b - 30) = b by omega] at h3
theorem chl_60 : ∀ b, 60 ≤ b → b < 90 → chkAt 241 b = true := by
  intro b h1 h2
  have h : (List.range 30).all (fun k => chkAt 241 (60 + k)) = true := by decide +kernel
  have h3 := List.all_eq_true.mp h (b - 60) (List.mem_range.mpr (by omega))
  rwa [show 60 + (b - 60) = b by omega] at h3
theorem chl_90 : ∀ b, 90 ≤ b → b < 120 → chkAt 241 b = true := by
  intro b h1 h2
  have h : (List.range 30).all (fun k => chkAt 241 (90 + k)) = true := by decide +kernel
  have h3 := List.all_eq_true.mp h (b - 90) (List.mem_range.mpr (by omega))
  rwa [show 90 + (b - 90) = b by omega] at h3
theorem chl_120 : ∀ b, 120 ≤ b → b < 150 → chkAt 241 b = true := by
  intro b h1 h2
  have h : (List.range 30).all (fun k => chkAt 241 (120 + k)) = true := by decide +kernel
  have h3 := List.all_eq_true.mp h (b - 120) (List.mem_range.mpr (by omega))
  rwa [show 120 + (b - 120) = b by omega] at h3
theorem chl_150 : ∀ b, 150 ≤ b → b < 180 → chkAt 241 b = true := by
  intro b h1 h2
  have h : (List.range 30).all (fun k => chkAt 241 (150 + k)) = true := by decide +kernel
  have h3 := List.all_eq_true.mp h (b - 150) (List.mem_range.mpr (by omega))
  rwa [show 150 + (b - 150) = b by omega] at h3
theorem chl_180 : ∀ b, 180 ≤ b → b < 210 → chkAt 241 b = true := by
  intro b h1 h2
  have h : (List.range 30).all (fun k => chkAt 241 (180 + k)) = true := by decide +kernel
  have h3 := List.all_eq_true.mp h (b - 180) (List.mem_range.mpr (by omega))
  rwa [show 180 + (b - 180) = b by omega] at h3
theorem chl_210 : ∀ b, 210 ≤ b → b < 240 → chkAt 241 b = true := by
  intro b h1 h2
  have h : (List.range 30).all (fun k => chkAt 241 (210 + k)) = true := by decide +kernel
  have h3 := List.all_eq_true.mp h (b - 210) (List.mem_range.mpr (by omega))
  rwa [show 210 + (b - 210) = b by omega] at h3
theorem chl_240 : ∀ b, 240 ≤ b → b < 270 → chkAt 241 b = true := by
  intro b h1 h2
  have h : (List.range 30).all (fun k => chkAt 241 (240 + k)) = true := by decide +kernel
  have h3 := List.all_eq_true.mp h (b - 240) (List.mem_range.mpr (by omega))
  rwa [show 240 + (b - 240) = b by omega] at h3
theorem chl_270 : ∀ b, 270 ≤ b → b < 272 → chkAt 241 b = true := by
  intro b h1 h2
  have h : (List.range 2).all (fun k => chkAt 241 (270 + k)) = true := by decide +kernel
  have h3 := List.all_eq_true.mp h (b - 270) (List.mem_range.mpr (by omega))
  rwa [show 270 + (b - 270) = b by omega] at h3
theorem chl_all (b : Nat) (h : b < 272) : chkAt 241 b = true := by
  rcases Nat.lt_or_ge b 30 with h30 | h30
  · exact chl_0 b (by omega) h30
  rcases Nat.lt_or_ge b 60 with h60 | h60
  · exact chl_30 b (by omega) h60
  rcases Nat.lt_or_ge b 90 with h90 | h90
  · exact chl_60 b (by omega) h90
  rcases Nat.lt_or_ge b 120 with h120 | h120
  · exact chl_90 b (by omega) h120
  rcases Nat.lt_or_ge b 150 with h150 | h150
  · exact chl_120 b (by omega) h150
  rcases Nat.lt_or_ge b 180 with h180 | h180
  · exact chl_150 b (by omega) h180
  rcases Nat.lt_or_ge b 210 with h210 | h210
  · exact chl_180 b (by omega) h210
  rcases Nat.lt_or_ge b 240 with h240 | h240
  · exact chl_210 b (by omega) h240
  rcases Nat.lt_or_ge b 270 with h270 | h270
  · exact chl_240 b (by omega) h270
  exact chl_270 b (by omega) h
theorem chkBs_at (o y : Nat) (pcs : List Nat) : ∀ (ps : List Nat) (qs : List Blk) (b : Nat) (q : Blk), chkBs o y pcs ps qs = true → gl qs b = some q → ∃ pc, gl ps b = some pc ∧ chkB o y pcs pc q = true := by
  intro ps
  induction ps with
  | nil => intro qs b q h hb; cases qs with
    | nil => cases hb
    | cons _ _ => cases h
  | cons p ps ih =>
    intro qs b q h hb
    cases qs with
    | nil => cases h
    | cons r qs =>
      have h2 : (chkB o y pcs p r && chkBs o y pcs ps qs) = true := h
      rw [Bool.and_eq_true] at h2
      cases b with
      | zero => cases hb; exact ⟨p, rfl, h2.1⟩
      | succ b => exact ih qs b q h2.2 hb
set_option maxRecDepth 100000 in
theorem chk_at {y b : Nat} {q : Blk} (hy : y < 242) (hb : blkOf y b = some q) : ∃ pc, gl (pcs y) b = some pc ∧ chkB (yo y) y (pcs y) pc q = true := by
  rcases Nat.lt_or_ge y 241 with h | h
  · have h1 := chk_all y h
    unfold chkM at h1
    rw [Bool.and_eq_true] at h1
    have h2 : blkOf y b = gl ((gl PG y).getD []) b := by
      unfold blkOf
      cases gl PG y <;> rfl
    rw [h2] at hb
    exact chkBs_at _ _ _ _ _ _ _ h1.2 hb
  · have : y = 241 := by omega
    subst this
    have hl : b < 272 := by
      have h4 : b < mb_Lw_law.length := gl_lt0 (l := mb_Lw_law) hb
      have h5 : mb_Lw_law.length = 272 := by decide +kernel
      omega
    have h1 := chl_all b hl
    unfold chkAt at h1
    rw [hb] at h1
    cases hp : gl (pcs 241) b with
    | none => rw [hp] at h1; cases h1
    | some pc => rw [hp] at h1; exact ⟨pc, rfl, h1⟩
theorem chk_head {y : Nat} (hy : y < 242) : (pcs y).headD 9 = 0 := by
  rcases Nat.lt_or_ge y 241 with h | h
  · have h1 := chk_all y h
    unfold chkM at h1
    rw [Bool.and_eq_true] at h1
    exact Nat.eq_of_beq_eq_true h1.1
  · have : y = 241 := by omega
    subst this
    rfl
