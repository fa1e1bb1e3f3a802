set_option maxRecDepth 200000 in
theorem ycd_0 : ∀ y, 0 ≤ y → y < 12 → tables_1[((gl YP y).getD (0, 0, 0)).1]? = some (Cond.code (yn y) (yc y) (ml y) (yr y)) := by
  intro y h1 h2
  have h : y = 0 ∨ y = 1 ∨ y = 2 ∨ y = 3 ∨ y = 4 ∨ y = 5 ∨ y = 6 ∨ y = 7 ∨ y = 8 ∨ y = 9 ∨ y = 10 ∨ y = 11 := by omega
  rcases h with rfl | rfl | rfl | rfl | rfl | rfl | rfl | rfl | rfl | rfl | rfl | rfl <;> rfl
set_option maxRecDepth 200000 in
theorem ycd_12 : ∀ y, 12 ≤ y → y < 24 → tables_1[((gl YP y).getD (0, 0, 0)).1]? = some (Cond.code (yn y) (yc y) (ml y) (yr y)) := by
  intro y h1 h2
  have h : y = 12 ∨ y = 13 ∨ y = 14 ∨ y = 15 ∨ y = 16 ∨ y = 17 ∨ y = 18 ∨ y = 19 ∨ y = 20 ∨ y = 21 ∨ y = 22 ∨ y = 23 := by omega
  rcases h with rfl | rfl | rfl | rfl | rfl | rfl | rfl | rfl | rfl | rfl | rfl | rfl <;> rfl
set_option maxRecDepth 200000 in
theorem ycd_24 : ∀ y, 24 ≤ y → y < 36 → tables_1[((gl YP y).getD (0, 0, 0)).1]? = some (Cond.code (yn y) (yc y) (ml y) (yr y)) := by
  intro y h1 h2
  have h : y = 24 ∨ y = 25 ∨ y = 26 ∨ y = 27 ∨ y = 28 ∨ y = 29 ∨ y = 30 ∨ y = 31 ∨ y = 32 ∨ y = 33 ∨ y = 34 ∨ y = 35 := by omega
  rcases h with rfl | rfl | rfl | rfl | rfl | rfl | rfl | rfl | rfl | rfl | rfl | rfl <;> rfl
set_option maxRecDepth 200000 in
theorem ycd_36 : ∀ y, 36 ≤ y → y < 48 → tables_1[((gl YP y).getD (0, 0, 0)).1]? = some (Cond.code (yn y) (yc y) (ml y) (yr y)) := by
  intro y h1 h2
  have h : y = 36 ∨ y = 37 ∨ y = 38 ∨ y = 39 ∨ y = 40 ∨ y = 41 ∨ y = 42 ∨ y = 43 ∨ y = 44 ∨ y = 45 ∨ y = 46 ∨ y = 47 := by omega
  rcases h with rfl | rfl | rfl | rfl | rfl | rfl | rfl | rfl | rfl | rfl | rfl | rfl <;> rfl
set_option maxRecDepth 200000 in
theorem ycd_48 : ∀ y, 48 ≤ y → y < 60 → tables_1[((gl YP y).getD (0, 0, 0)).1]? = some (Cond.code (yn y) (yc y) (ml y) (yr y)) := by
  intro y h1 h2
  have h : y = 48 ∨ y = 49 ∨ y = 50 ∨ y = 51 ∨ y = 52 ∨ y = 53 ∨ y = 54 ∨ y = 55 ∨ y = 56 ∨ y = 57 ∨ y = 58 ∨ y = 59 := by omega
  rcases h with rfl | rfl | rfl | rfl | rfl | rfl | rfl | rfl | rfl | rfl | rfl | rfl <;> rfl
set_option maxRecDepth 200000 in
theorem ycd_60 : ∀ y, 60 ≤ y → y < 72 → tables_1[((gl YP y).getD (0, 0, 0)).1]? = some (Cond.code (yn y) (yc y) (ml y) (yr y)) := by
  intro y h1 h2
  have h : y = 60 ∨ y = 61 ∨ y = 62 ∨ y = 63 ∨ y = 64 ∨ y = 65 ∨ y = 66 ∨ y = 67 ∨ y = 68 ∨ y = 69 ∨ y = 70 ∨ y = 71 := by omega
  rcases h with rfl | rfl | rfl | rfl | rfl | rfl | rfl | rfl | rfl | rfl | rfl | rfl <;> rfl
set_option maxRecDepth 200000 in
theorem ycd_72 : ∀ y, 72 ≤ y → y < 84 → tables_1[((gl YP y).getD (0, 0, 0)).1]? = some (Cond.code (yn y) (yc y) (ml y) (yr y)) := by
  intro y h1 h2
  have h : y = 72 ∨ y = 73 ∨ y = 74 ∨ y = 75 ∨ y = 76 ∨ y = 77 ∨ y = 78 ∨ y = 79 ∨ y = 80 ∨ y = 81 ∨ y = 82 ∨ y = 83 := by omega
  rcases h with rfl | rfl | rfl | rfl | rfl | rfl | rfl | rfl | rfl | rfl | rfl | rfl <;> rfl
set_option maxRecDepth 200000 in
theorem ycd_84 : ∀ y, 84 ≤ y → y < 96 → tables_1[((gl YP y).getD (0, 0, 0)).1]? = some (Cond.code (yn y) (yc y) (ml y) (yr y)) := by
  intro y h1 h2
  have h : y = 84 ∨ y = 85 ∨ y = 86 ∨ y = 87 ∨ y = 88 ∨ y = 89 ∨ y = 90 ∨ y = 91 ∨ y = 92 ∨ y = 93 ∨ y = 94 ∨ y = 95 := by omega
  rcases h with rfl | rfl | rfl | rfl | rfl | rfl | rfl | rfl | rfl | rfl | rfl | rfl <;> rfl
set_option maxRecDepth 200000 in
theorem ycd_96 : ∀ y, 96 ≤ y → y < 108 → tables_1[((gl YP y).getD (0, 0, 0)).1]? = some (Cond.code (yn y) (yc y) (ml y) (yr y)) := by
  intro y h1 h2
  have h : y = 96 ∨ y = 97 ∨ y = 98 ∨ y = 99 ∨ y = 100 ∨ y = 101 ∨ y = 102 ∨ y = 103 ∨ y = 104 ∨ y = 105 ∨ y = 106 ∨ y = 107 := by omega
  rcases h with rfl | rfl | rfl | rfl | rfl | rfl | rfl | rfl | rfl | rfl | rfl | rfl <;> rfl
set_option maxRecDepth 200000 in
theorem ycd_108 : ∀ y, 108 ≤ y → y < 120 → tables_1[((gl YP y).getD (0, 0, 0)).1]? = some (Cond.code (yn y) (yc y) (ml y) (yr y)) := by
  intro y h1 h2
  have h : y = 108 ∨ y = 109 ∨ y = 110 ∨ y = 111 ∨ y = 112 ∨ y = 113 ∨ y = 114 ∨ y = 115 ∨ y = 116 ∨ y = 117 ∨ y = 118 ∨ y = 119 := by omega
  rcases h with rfl | rfl | rfl | rfl | rfl | rfl | rfl | rfl | rfl | rfl | rfl | rfl <;> rfl
set_option maxRecDepth 200000 in
theorem ycd_120 : ∀ y, 120 ≤ y → y < 132 → tables_1[((gl YP y).getD (0, 0, 0)).1]? = some (Cond.code (yn y) (yc y) (ml y) (yr y)) := by
  intro y h1 h2
  have h : y = 120 ∨ y = 121 ∨ y = 122 ∨ y = 123 ∨ y = 124 ∨ y = 125 ∨ y = 126 ∨ y = 127 ∨ y = 128 ∨ y = 129 ∨ y = 130 ∨ y = 131 := by omega
  rcases h with rfl | rfl | rfl | rfl | rfl | rfl | rfl | rfl | rfl | rfl | rfl | rfl <;> rfl
set_option maxRecDepth 200000 in
theorem ycd_132 : ∀ y, 132 ≤ y → y < 144 → tables_1[((gl YP y).getD (0, 0, 0)).1]? = some (Cond.code (yn y) (yc y) (ml y) (yr y)) := by
  intro y h1 h2
  have h : y = 132 ∨ y = 133 ∨ y = 134 ∨ y = 135 ∨ y = 136 ∨ y = 137 ∨ y = 138 ∨ y = 139 ∨ y = 140 ∨ y = 141 ∨ y = 142 ∨ y = 143 := by omega
  rcases h with rfl | rfl | rfl | rfl | rfl | rfl | rfl | rfl | rfl | rfl | rfl | rfl <;> rfl
set_option maxRecDepth 200000 in
theorem ycd_144 : ∀ y, 144 ≤ y → y < 156 → tables_1[((gl YP y).getD (0, 0, 0)).1]? = some (Cond.code (yn y) (yc y) (ml y) (yr y)) := by
  intro y h1 h2
  have h : y = 144 ∨ y = 145 ∨ y = 146 ∨ y = 147 ∨ y = 148 ∨ y = 149 ∨ y = 150 ∨ y = 151 ∨ y = 152 ∨ y = 153 ∨ y = 154 ∨ y = 155 := by omega
  rcases h with rfl | rfl | rfl | rfl | rfl | rfl | rfl | rfl | rfl | rfl | rfl | rfl <;> rfl
set_option maxRecDepth 200000 in
theorem ycd_156 : ∀ y, 156 ≤ y → y < 168 → tables_1[((gl YP y).getD (0, 0, 0)).1]? = some (Cond.code (yn y) (yc y) (ml y) (yr y)) := by
  intro y h1 h2
  have h : y = 156 ∨ y = 157 ∨ y = 158 ∨ y = 159 ∨ y = 160 ∨ y = 161 ∨ y = 162 ∨ y = 163 ∨ y = 164 ∨ y = 165 ∨ y = 166 ∨ y = 167 := by omega
  rcases h with rfl | rfl | rfl | rfl | rfl | rfl | rfl | rfl | rfl | rfl | rfl | rfl <;> rfl
set_option maxRecDepth 200000 in
theorem ycd_168 : ∀ y, 168 ≤ y → y < 180 → tables_1[((gl YP y).getD (0, 0, 0)).1]? = some (Cond.code (yn y) (yc y) (ml y) (yr y)) := by
  intro y h1 h2
  have h : y = 168 ∨ y = 169 ∨ y = 170 ∨ y = 171 ∨ y = 172 ∨ y = 173 ∨ y = 174 ∨ y = 175 ∨ y = 176 ∨ y = 177 ∨ y = 178 ∨ y = 179 := by omega
  rcases h with rfl | rfl | rfl | rfl | rfl | rfl | rfl | rfl | rfl | rfl | rfl | rfl <;> rfl
set_option maxRecDepth 200000 in
theorem ycd_180 : ∀ y, 180 ≤ y → y < 192 → tables_1[((gl YP y).getD (0, 0, 0)).1]? = some (Cond.code (yn y) (yc y) (ml y) (yr y)) := by
  intro y h1 h2
  have h : y = 180 ∨ y = 181 ∨ y = 182 ∨ y = 183 ∨ y = 184 ∨ y = 185 ∨ y = 186 ∨ y = 187 ∨ y = 188 ∨ y = 189 ∨ y = 190 ∨ y = 191 := by omega
  rcases h with rfl | rfl | rfl | rfl | rfl | rfl | rfl | rfl | rfl | rfl | rfl | rfl <;> rfl
set_option maxRecDepth 200000 in
theorem ycd_192 : ∀ y, 192 ≤ y → y < 204 → tables_1[((gl YP y).getD (0, 0, 0)).1]? = some (Cond.code (yn y) (yc y) (ml y) (yr y)) := by
  intro y h1 h2
  have h : y = 192 ∨ y = 193 ∨ y = 194 ∨ y = 195 ∨ y = 196 ∨ y = 197 ∨ y = 198 ∨ y = 199 ∨ y = 200 ∨ y = 201 ∨ y = 202 ∨ y = 203 := by omega
  rcases h with rfl | rfl | rfl | rfl | rfl | rfl | rfl | rfl | rfl | rfl | rfl | rfl <;> rfl
set_option maxRecDepth 200000 in
theorem ycd_204 : ∀ y, 204 ≤ y → y < 216 → tables_1[((gl YP y).getD (0, 0, 0)).1]? = some (Cond.code (yn y) (yc y) (ml y) (yr y)) := by
  intro y h1 h2
  have h : y = 204 ∨ y = 205 ∨ y = 206 ∨ y = 207 ∨ y = 208 ∨ y = 209 ∨ y = 210 ∨ y = 211 ∨ y = 212 ∨ y = 213 ∨ y = 214 ∨ y = 215 := by omega
  rcases h with rfl | rfl | rfl | rfl | rfl | rfl | rfl | rfl | rfl | rfl | rfl | rfl <;> rfl
set_option maxRecDepth 200000 in
theorem ycd_216 : ∀ y, 216 ≤ y → y < 228 → tables_1[((gl YP y).getD (0, 0, 0)).1]? = some (Cond.code (yn y) (yc y) (ml y) (yr y)) := by
  intro y h1 h2
  have h : y = 216 ∨ y = 217 ∨ y = 218 ∨ y = 219 ∨ y = 220 ∨ y = 221 ∨ y = 222 ∨ y = 223 ∨ y = 224 ∨ y = 225 ∨ y = 226 ∨ y = 227 := by omega
  rcases h with rfl | rfl | rfl | rfl | rfl | rfl | rfl | rfl | rfl | rfl | rfl | rfl <;> rfl
set_option maxRecDepth 200000 in
theorem ycd_228 : ∀ y, 228 ≤ y → y < 240 → tables_1[((gl YP y).getD (0, 0, 0)).1]? = some (Cond.code (yn y) (yc y) (ml y) (yr y)) := by
  intro y h1 h2
  have h : y = 228 ∨ y = 229 ∨ y = 230 ∨ y = 231 ∨ y = 232 ∨ y = 233 ∨ y = 234 ∨ y = 235 ∨ y = 236 ∨ y = 237 ∨ y = 238 ∨ y = 239 := by omega
  rcases h with rfl | rfl | rfl | rfl | rfl | rfl | rfl | rfl | rfl | rfl | rfl | rfl <;> rfl
set_option maxRecDepth 200000 in
theorem ycd_240 : ∀ y, 240 ≤ y → y < 241 → tables_1[((gl YP y).getD (0, 0, 0)).1]? = some (Cond.code (yn y) (yc y) (ml y) (yr y)) := by
  intro y h1 h2
  have h : y = 240 := by omega
  rcases h with rfl <;> rfl
theorem ycd (y : Nat) (h : y < 241) : tables_1[((gl YP y).getD (0, 0, 0)).1]? = some (Cond.code (yn y) (yc y) (ml y) (yr y)) := by
  rcases Nat.lt_or_ge y 12 with h12 | h12
  · exact ycd_0 y (by omega) h12
  rcases Nat.lt_or_ge y 24 with h24 | h24
  · exact ycd_12 y (by omega) h24
  rcases Nat.lt_or_ge y 36 with h36 | h36
  · exact ycd_24 y (by omega) h36
  rcases Nat.lt_or_ge y 48 with h48 | h48
  · exact ycd_36 y (by omega) h48
  rcases Nat.lt_or_ge y 60 with h60 | h60
  · exact ycd_48 y (by omega) h60
  rcases Nat.lt_or_ge y 72 with h72 | h72
  · exact ycd_60 y (by omega) h72
  rcases Nat.lt_or_ge y 84 with h84 | h84
  · exact ycd_72 y (by omega) h84
  rcases Nat.lt_or_ge y 96 with h96 | h96
  · exact ycd_84 y (by omega) h96
  rcases Nat.lt_or_ge y 108 with h108 | h108
  · exact ycd_96 y (by omega) h108
  rcases Nat.lt_or_ge y 120 with h120 | h120
  · exact ycd_108 y (by omega) h120
  rcases Nat.lt_or_ge y 132 with h132 | h132
  · exact ycd_120 y (by omega) h132
  rcases Nat.lt_or_ge y 144 with h144 | h144
  · exact ycd_132 y (by omega) h144
  rcases Nat.lt_or_ge y 156 with h156 | h156
  · exact ycd_144 y (by omega) h156
  rcases Nat.lt_or_ge y 168 with h168 | h168
  · exact ycd_156 y (by omega) h168
  rcases Nat.lt_or_ge y 180 with h180 | h180
  · exact ycd_168 y (by omega) h180
  rcases Nat.lt_or_ge y 192 with h192 | h192
  · exact ycd_180 y (by omega) h192
  rcases Nat.lt_or_ge y 204 with h204 | h204
  · exact ycd_192 y (by omega) h204
  rcases Nat.lt_or_ge y 216 with h216 | h216
  · exact ycd_204 y (by omega) h216
  rcases Nat.lt_or_ge y 228 with h228 | h228
  · exact ycd_216 y (by omega) h228
  rcases Nat.lt_or_ge y 240 with h240 | h240
  · exact ycd_228 y (by omega) h240
  exact ycd_240 y (by omega) h
