/-! each method's blocks are its bytecode -/
theorem chk_0 : ∀ y, 0 ≤ y → y < 5 → chkM y = true := by
  intro y h1 h2
  have h : (List.range 5).all (fun k => chkM (0 + k)) = true := by decide +kernel
  have h3 := List.all_eq_true.mp h (y - 0) (List.mem_range.mpr (by omega))
  rwa [show 0 + (y - 0) = y by omega] at h3
theorem chk_5 : ∀ y, 5 ≤ y → y < 13 → chkM y = true := by
  intro y h1 h2
  have h : (List.range 8).all (fun k => chkM (5 + k)) = true := by decide +kernel
  have h3 := List.all_eq_true.mp h (y - 5) (List.mem_range.mpr (by omega))
  rwa [show 5 + (y - 5) = y by omega] at h3
theorem chk_13 : ∀ y, 13 ≤ y → y < 20 → chkM y = true := by
  intro y h1 h2
  have h : (List.range 7).all (fun k => chkM (13 + k)) = true := by decide +kernel
  have h3 := List.all_eq_true.mp h (y - 13) (List.mem_range.mpr (by omega))
  rwa [show 13 + (y - 13) = y by omega] at h3
theorem chk_20 : ∀ y, 20 ≤ y → y < 29 → chkM y = true := by
  intro y h1 h2
  have h : (List.range 9).all (fun k => chkM (20 + k)) = true := by decide +kernel
  have h3 := List.all_eq_true.mp h (y - 20) (List.mem_range.mpr (by omega))
  rwa [show 20 + (y - 20) = y by omega] at h3
theorem chk_29 : ∀ y, 29 ≤ y → y < 38 → chkM y = true := by
  intro y h1 h2
  have h : (List.range 9).all (fun k => chkM (29 + k)) = true := by decide +kernel
  have h3 := List.all_eq_true.mp h (y - 29) (List.mem_range.mpr (by omega))
  rwa [show 29 + (y - 29) = y by omega] at h3
theorem chk_38 : ∀ y, 38 ≤ y → y < 46 → chkM y = true := by
  intro y h1 h2
  have h : (List.range 8).all (fun k => chkM (38 + k)) = true := by decide +kernel
  have h3 := List.all_eq_true.mp h (y - 38) (List.mem_range.mpr (by omega))
  rwa [show 38 + (y - 38) = y by omega] at h3
theorem chk_46 : ∀ y, 46 ≤ y → y < 52 → chkM y = true := by
  intro y h1 h2
  have h : (List.range 6).all (fun k => chkM (46 + k)) = true := by decide +kernel
  have h3 := List.all_eq_true.mp h (y - 46) (List.mem_range.mpr (by omega))
  rwa [show 46 + (y - 46) = y by omega] at h3
theorem chk_52 : ∀ y, 52 ≤ y → y < 57 → chkM y = true := by
  intro y h1 h2
  have h : (List.range 5).all (fun k => chkM (52 + k)) = true := by decide +kernel
  have h3 := List.all_eq_true.mp h (y - 52) (List.mem_range.mpr (by omega))
  rwa [show 52 + (y - 52) = y by omega] at h3
theorem chk_57 : ∀ y, 57 ≤ y → y < 66 → chkM y = true := by
  intro y h1 h2
  have h : (List.range 9).all (fun k => chkM (57 + k)) = true := by decide +kernel
  have h3 := List.all_eq_true.mp h (y - 57) (List.mem_range.mpr (by omega))
  rwa [show 57 + (y - 57) = y by omega] at h3
theorem chk_66 : ∀ y, 66 ≤ y → y < 76 → chkM y = true := by
  intro y h1 h2
  have h : (List.range 10).all (fun k => chkM (66 + k)) = true := by decide +kernel
  have h3 := List.all_eq_true.mp h (y - 66) (List.mem_range.mpr (by omega))
  rwa [show 66 + (y - 66) = y by omega] at h3
theorem chk_76 : ∀ y, 76 ≤ y → y < 82 → chkM y = true := by
  intro y h1 h2
  have h : (List.range 6).all (fun k => chkM (76 + k)) = true := by decide +kernel
  have h3 := List.all_eq_true.mp h (y - 76) (List.mem_range.mpr (by omega))
  rwa [show 76 + (y - 76) = y by omega] at h3
theorem chk_82 : ∀ y, 82 ≤ y → y < 88 → chkM y = true := by
  intro y h1 h2
  have h : (List.range 6).all (fun k => chkM (82 + k)) = true := by decide +kernel
  have h3 := List.all_eq_true.mp h (y - 82) (List.mem_range.mpr (by omega))
  rwa [show 82 + (y - 82) = y by omega] at h3
