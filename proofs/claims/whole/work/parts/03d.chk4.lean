/-! each method's blocks are its bytecode -/
theorem chk_207 : ∀ y, 207 ≤ y → y < 208 → chkM y = true := by
  intro y h1 h2
  have h : (List.range 1).all (fun k => chkM (207 + k)) = true := by decide +kernel
  have h3 := List.all_eq_true.mp h (y - 207) (List.mem_range.mpr (by omega))
  rwa [show 207 + (y - 207) = y by omega] at h3
theorem chk_208 : ∀ y, 208 ≤ y → y < 210 → chkM y = true := by
  intro y h1 h2
  have h : (List.range 2).all (fun k => chkM (208 + k)) = true := by decide +kernel
  have h3 := List.all_eq_true.mp h (y - 208) (List.mem_range.mpr (by omega))
  rwa [show 208 + (y - 208) = y by omega] at h3
theorem chk_210 : ∀ y, 210 ≤ y → y < 215 → chkM y = true := by
  intro y h1 h2
  have h : (List.range 5).all (fun k => chkM (210 + k)) = true := by decide +kernel
  have h3 := List.all_eq_true.mp h (y - 210) (List.mem_range.mpr (by omega))
  rwa [show 210 + (y - 210) = y by omega] at h3
theorem chk_215 : ∀ y, 215 ≤ y → y < 218 → chkM y = true := by
  intro y h1 h2
  have h : (List.range 3).all (fun k => chkM (215 + k)) = true := by decide +kernel
  have h3 := List.all_eq_true.mp h (y - 215) (List.mem_range.mpr (by omega))
  rwa [show 215 + (y - 215) = y by omega] at h3
theorem chk_218 : ∀ y, 218 ≤ y → y < 222 → chkM y = true := by
  intro y h1 h2
  have h : (List.range 4).all (fun k => chkM (218 + k)) = true := by decide +kernel
  have h3 := List.all_eq_true.mp h (y - 218) (List.mem_range.mpr (by omega))
  rwa [show 218 + (y - 218) = y by omega] at h3
theorem chk_222 : ∀ y, 222 ≤ y → y < 225 → chkM y = true := by
  intro y h1 h2
  have h : (List.range 3).all (fun k => chkM (222 + k)) = true := by decide +kernel
  have h3 := List.all_eq_true.mp h (y - 222) (List.mem_range.mpr (by omega))
  rwa [show 222 + (y - 222) = y by omega] at h3
theorem chk_225 : ∀ y, 225 ≤ y → y < 229 → chkM y = true := by
  intro y h1 h2
  have h : (List.range 4).all (fun k => chkM (225 + k)) = true := by decide +kernel
  have h3 := List.all_eq_true.mp h (y - 225) (List.mem_range.mpr (by omega))
  rwa [show 225 + (y - 225) = y by omega] at h3
theorem chk_229 : ∀ y, 229 ≤ y → y < 234 → chkM y = true := by
  intro y h1 h2
  have h : (List.range 5).all (fun k => chkM (229 + k)) = true := by decide +kernel
  have h3 := List.all_eq_true.mp h (y - 229) (List.mem_range.mpr (by omega))
  rwa [show 229 + (y - 229) = y by omega] at h3
theorem chk_234 : ∀ y, 234 ≤ y → y < 238 → chkM y = true := by
  intro y h1 h2
  have h : (List.range 4).all (fun k => chkM (234 + k)) = true := by decide +kernel
  have h3 := List.all_eq_true.mp h (y - 234) (List.mem_range.mpr (by omega))
  rwa [show 234 + (y - 234) = y by omega] at h3
theorem chk_238 : ∀ y, 238 ≤ y → y < 241 → chkM y = true := by
  intro y h1 h2
  have h : (List.range 3).all (fun k => chkM (238 + k)) = true := by decide +kernel
  have h3 := List.all_eq_true.mp h (y - 238) (List.mem_range.mpr (by omega))
  rwa [show 238 + (y - 238) = y by omega] at h3
theorem chk_all (y : Nat) (h : y < 241) : chkM y = true := by
  rcases Nat.lt_or_ge y 5 with h5 | h5
  · exact chk_0 y (by omega) h5
  rcases Nat.lt_or_ge y 13 with h13 | h13
  · exact chk_5 y (by omega) h13
  rcases Nat.lt_or_ge y 20 with h20 | h20
  · exact chk_13 y (by omega) h20
  rcases Nat.lt_or_ge y 29 with h29 | h29
  · exact chk_20 y (by omega) h29
  rcases Nat.lt_or_ge y 38 with h38 | h38
  · exact chk_29 y (by omega) h38
  rcases Nat.lt_or_ge y 46 with h46 | h46
  · exact chk_38 y (by omega) h46
  rcases Nat.lt_or_ge y 52 with h52 | h52
  · exact chk_46 y (by omega) h52
  rcases Nat.lt_or_ge y 57 with h57 | h57
  · exact chk_52 y (by omega) h57
  rcases Nat.lt_or_ge y 66 with h66 | h66
  · exact chk_57 y (by omega) h66
  rcases Nat.lt_or_ge y 76 with h76 | h76
  · exact chk_66 y (by omega) h76
  rcases Nat.lt_or_ge y 82 with h82 | h82
  · exact chk_76 y (by omega) h82
  rcases Nat.lt_or_ge y 88 with h88 | h88
  · exact chk_82 y (by omega) h88
  rcases Nat.lt_or_ge y 96 with h96 | h96
  · exact chk_88 y (by omega) h96
  rcases Nat.lt_or_ge y 102 with h102 | h102
  · exact chk_96 y (by omega) h102
  rcases Nat.lt_or_ge y 109 with h109 | h109
  · exact chk_102 y (by omega) h109
  rcases Nat.lt_or_ge y 114 with h114 | h114
  · exact chk_109 y (by omega) h114
  rcases Nat.lt_or_ge y 118 with h118 | h118
  · exact chk_114 y (by omega) h118
  rcases Nat.lt_or_ge y 122 with h122 | h122
  · exact chk_118 y (by omega) h122
  rcases Nat.lt_or_ge y 129 with h129 | h129
  · exact chk_122 y (by omega) h129
  rcases Nat.lt_or_ge y 134 with h134 | h134
  · exact chk_129 y (by omega) h134
  rcases Nat.lt_or_ge y 141 with h141 | h141
  · exact chk_134 y (by omega) h141
  rcases Nat.lt_or_ge y 148 with h148 | h148
  · exact chk_141 y (by omega) h148
  rcases Nat.lt_or_ge y 150 with h150 | h150
  · exact chk_148 y (by omega) h150
  rcases Nat.lt_or_ge y 151 with h151 | h151
  · exact chk_150 y (by omega) h151
  rcases Nat.lt_or_ge y 157 with h157 | h157
  · exact chk_151 y (by omega) h157
  rcases Nat.lt_or_ge y 162 with h162 | h162
  · exact chk_157 y (by omega) h162
  rcases Nat.lt_or_ge y 166 with h166 | h166
  · exact chk_162 y (by omega) h166
  rcases Nat.lt_or_ge y 173 with h173 | h173
  · exact chk_166 y (by omega) h173
  rcases Nat.lt_or_ge y 178 with h178 | h178
  · exact chk_173 y (by omega) h178
  rcases Nat.lt_or_ge y 181 with h181 | h181
  · exact chk_178 y (by omega) h181
  rcases Nat.lt_or_ge y 188 with h188 | h188
  · exact chk_181 y (by omega) h188
  rcases Nat.lt_or_ge y 194 with h194 | h194
  · exact chk_188 y (by omega) h194
  rcases Nat.lt_or_ge y 197 with h197 | h197
  · exact chk_194 y (by omega) h197
  rcases Nat.lt_or_ge y 200 with h200 | h200
  · exact chk_197 y (by omega) h200
  rcases Nat.lt_or_ge y 203 with h203 | h203
  · exact chk_200 y (by omega) h203
  rcases Nat.lt_or_ge y 207 with h207 | h207
  · exact chk_203 y (by omega) h207
  rcases Nat.lt_or_ge y 208 with h208 | h208
  · exact chk_207 y (by omega) h208
  rcases Nat.lt_or_ge y 210 with h210 | h210
  · exact chk_208 y (by omega) h210
  rcases Nat.lt_or_ge y 215 with h215 | h215
  · exact chk_210 y (by omega) h215
  rcases Nat.lt_or_ge y 218 with h218 | h218
  · exact chk_215 y (by omega) h218
  rcases Nat.lt_or_ge y 222 with h222 | h222
  · exact chk_218 y (by omega) h222
  rcases Nat.lt_or_ge y 225 with h225 | h225
  · exact chk_222 y (by omega) h225
  rcases Nat.lt_or_ge y 229 with h229 | h229
  · exact chk_225 y (by omega) h229
  rcases Nat.lt_or_ge y 234 with h234 | h234
  · exact chk_229 y (by omega) h234
  rcases Nat.lt_or_ge y 238 with h238 | h238
  · exact chk_234 y (by omega) h238
  exact chk_238 y (by omega) h
