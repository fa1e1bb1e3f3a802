/-! each method's blocks are its bytecode -/
theorem chk_151 : ∀ y, 151 ≤ y → y < 157 → chkM y = true := by
  intro y h1 h2
  have h : (List.range 6).all (fun k => chkM (151 + k)) = true := by decide +kernel
  have h3 := List.all_eq_true.mp h (y - 151) (List.mem_range.mpr (by omega))
  rwa [show 151 + (y - 151) = y by omega] at h3
theorem chk_157 : ∀ y, 157 ≤ y → y < 162 → chkM y = true := by
  intro y h1 h2
  have h : (List.range 5).all (fun k => chkM (157 + k)) = true := by decide +kernel
  have h3 := List.all_eq_true.mp h (y - 157) (List.mem_range.mpr (by omega))
  rwa [show 157 + (y - 157) = y by omega] at h3
theorem chk_162 : ∀ y, 162 ≤ y → y < 166 → chkM y = true := by
  intro y h1 h2
  have h : (List.range 4).all (fun k => chkM (162 + k)) = true := by decide +kernel
  have h3 := List.all_eq_true.mp h (y - 162) (List.mem_range.mpr (by omega))
  rwa [show 162 + (y - 162) = y by omega] at h3
theorem chk_166 : ∀ y, 166 ≤ y → y < 173 → chkM y = true := by
  intro y h1 h2
  have h : (List.range 7).all (fun k => chkM (166 + k)) = true := by decide +kernel
  have h3 := List.all_eq_true.mp h (y - 166) (List.mem_range.mpr (by omega))
  rwa [show 166 + (y - 166) = y by omega] at h3
theorem chk_173 : ∀ y, 173 ≤ y → y < 178 → chkM y = true := by
  intro y h1 h2
  have h : (List.range 5).all (fun k => chkM (173 + k)) = true := by decide +kernel
  have h3 := List.all_eq_true.mp h (y - 173) (List.mem_range.mpr (by omega))
  rwa [show 173 + (y - 173) = y by omega] at h3
theorem chk_178 : ∀ y, 178 ≤ y → y < 181 → chkM y = true := by
  intro y h1 h2
  have h : (List.range 3).all (fun k => chkM (178 + k)) = true := by decide +kernel
  have h3 := List.all_eq_true.mp h (y - 178) (List.mem_range.mpr (by omega))
  rwa [show 178 + (y - 178) = y by omega] at h3
theorem chk_181 : ∀ y, 181 ≤ y → y < 188 → chkM y = true := by
  intro y h1 h2
  have h : (List.range 7).all (fun k => chkM (181 + k)) = true := by decide +kernel
  have h3 := List.all_eq_true.mp h (y - 181) (List.mem_range.mpr (by omega))
  rwa [show 181 + (y - 181) = y by omega] at h3
theorem chk_188 : ∀ y, 188 ≤ y → y < 194 → chkM y = true := by
  intro y h1 h2
  have h : (List.range 6).all (fun k => chkM (188 + k)) = true := by decide +kernel
  have h3 := List.all_eq_true.mp h (y - 188) (List.mem_range.mpr (by omega))
  rwa [show 188 + (y - 188) = y by omega] at h3
theorem chk_194 : ∀ y, 194 ≤ y → y < 197 → chkM y = true := by
  intro y h1 h2
  have h : (List.range 3).all (fun k => chkM (194 + k)) = true := by decide +kernel
  have h3 := List.all_eq_true.mp h (y - 194) (List.mem_range.mpr (by omega))
  rwa [show 194 + (y - 194) = y by omega] at h3
theorem chk_197 : ∀ y, 197 ≤ y → y < 200 → chkM y = true := by
  intro y h1 h2
  have h : (List.range 3).all (fun k => chkM (197 + k)) = true := by decide +kernel
  have h3 := List.all_eq_true.mp h (y - 197) (List.mem_range.mpr (by omega))
  rwa [show 197 + (y - 197) = y by omega] at h3
theorem chk_200 : ∀ y, 200 ≤ y → y < 203 → chkM y = true := by
  intro y h1 h2
  have h : (List.range 3).all (fun k => chkM (200 + k)) = true := by decide +kernel
  have h3 := List.all_eq_true.mp h (y - 200) (List.mem_range.mpr (by omega))
  rwa [show 200 + (y - 200) = y by omega] at h3
theorem chk_203 : ∀ y, 203 ≤ y → y < 207 → chkM y = true := by
  intro y h1 h2
  have h : (List.range 4).all (fun k => chkM (203 + k)) = true := by decide +kernel
  have h3 := List.all_eq_true.mp h (y - 203) (List.mem_range.mpr (by omega))
  rwa [show 203 + (y - 203) = y by omega] at h3
