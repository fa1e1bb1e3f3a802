/-! each method's blocks are its bytecode -/
theorem chk_88 : ∀ y, 88 ≤ y → y < 96 → chkM y = true := by
  intro y h1 h2
  have h : (List.range 8).all (fun k => chkM (88 + k)) = true := by decide +kernel
  have h3 := List.all_eq_true.mp h (y - 88) (List.mem_range.mpr (by omega))
  rwa [show 88 + (y - 88) = y by omega] at h3
theorem chk_96 : ∀ y, 96 ≤ y → y < 102 → chkM y = true := by
  intro y h1 h2
  have h : (List.range 6).all (fun k => chkM (96 + k)) = true := by decide +kernel
  have h3 := List.all_eq_true.mp h (y - 96) (List.mem_range.mpr (by omega))
  rwa [show 96 + (y - 96) = y by omega] at h3
theorem chk_102 : ∀ y, 102 ≤ y → y < 109 → chkM y = true := by
  intro y h1 h2
  have h : (List.range 7).all (fun k => chkM (102 + k)) = true := by decide +kernel
  have h3 := List.all_eq_true.mp h (y - 102) (List.mem_range.mpr (by omega))
  rwa [show 102 + (y - 102) = y by omega] at h3
theorem chk_109 : ∀ y, 109 ≤ y → y < 114 → chkM y = true := by
  intro y h1 h2
  have h : (List.range 5).all (fun k => chkM (109 + k)) = true := by decide +kernel
  have h3 := List.all_eq_true.mp h (y - 109) (List.mem_range.mpr (by omega))
  rwa [show 109 + (y - 109) = y by omega] at h3
theorem chk_114 : ∀ y, 114 ≤ y → y < 118 → chkM y = true := by
  intro y h1 h2
  have h : (List.range 4).all (fun k => chkM (114 + k)) = true := by decide +kernel
  have h3 := List.all_eq_true.mp h (y - 114) (List.mem_range.mpr (by omega))
  rwa [show 114 + (y - 114) = y by omega] at h3
theorem chk_118 : ∀ y, 118 ≤ y → y < 122 → chkM y = true := by
  intro y h1 h2
  have h : (List.range 4).all (fun k => chkM (118 + k)) = true := by decide +kernel
  have h3 := List.all_eq_true.mp h (y - 118) (List.mem_range.mpr (by omega))
  rwa [show 118 + (y - 118) = y by omega] at h3
theorem chk_122 : ∀ y, 122 ≤ y → y < 129 → chkM y = true := by
  intro y h1 h2
  have h : (List.range 7).all (fun k => chkM (122 + k)) = true := by decide +kernel
  have h3 := List.all_eq_true.mp h (y - 122) (List.mem_range.mpr (by omega))
  rwa [show 122 + (y - 122) = y by omega] at h3
theorem chk_129 : ∀ y, 129 ≤ y → y < 134 → chkM y = true := by
  intro y h1 h2
  have h : (List.range 5).all (fun k => chkM (129 + k)) = true := by decide +kernel
  have h3 := List.all_eq_true.mp h (y - 129) (List.mem_range.mpr (by omega))
  rwa [show 129 + (y - 129) = y by omega] at h3
theorem chk_134 : ∀ y, 134 ≤ y → y < 141 → chkM y = true := by
  intro y h1 h2
  have h : (List.range 7).all (fun k => chkM (134 + k)) = true := by decide +kernel
  have h3 := List.all_eq_true.mp h (y - 134) (List.mem_range.mpr (by omega))
  rwa [show 134 + (y - 134) = y by omega] at h3
theorem chk_141 : ∀ y, 141 ≤ y → y < 148 → chkM y = true := by
  intro y h1 h2
  have h : (List.range 7).all (fun k => chkM (141 + k)) = true := by decide +kernel
  have h3 := List.all_eq_true.mp h (y - 141) (List.mem_range.mpr (by omega))
  rwa [show 141 + (y - 141) = y by omega] at h3
theorem chk_148 : ∀ y, 148 ≤ y → y < 150 → chkM y = true := by
  intro y h1 h2
  have h : (List.range 2).all (fun k => chkM (148 + k)) = true := by decide +kernel
  have h3 := List.all_eq_true.mp h (y - 148) (List.mem_range.mpr (by omega))
  rwa [show 148 + (y - 148) = y by omega] at h3
theorem chk_150 : ∀ y, 150 ≤ y → y < 151 → chkM y = true := by
  intro y h1 h2
  have h : (List.range 1).all (fun k => chkM (150 + k)) = true := by decide +kernel
  have h3 := List.all_eq_true.mp h (y - 150) (List.mem_range.mpr (by omega))
  rwa [show 150 + (y - 150) = y by omega] at h3
