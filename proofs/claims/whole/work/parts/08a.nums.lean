/-! whole numbers and the machine's ints and longs -/
def inI (x : Int) : Prop := -2147483648 ≤ x ∧ x < 2147483648
def inJ (x : Int) : Prop := -9223372036854775808 ≤ x ∧ x < 9223372036854775808
theorem w32_in (x : Int) : inI (w32 x) := by unfold inI w32; omega
theorem w64_in (x : Int) : inJ (w64 x) := by unfold inJ w64; omega
theorem w16_in (x : Int) : inI (w16 x) := by unfold inI w16; omega
theorem w32_bmod (x : Int) : w32 x = x.bmod 4294967296 := by
  unfold w32 Int.bmod; simp only; split <;> omega
theorem w64_bmod (x : Int) : w64 x = x.bmod 18446744073709551616 := by
  unfold w64 Int.bmod; simp only; split <;> omega
theorem w16_bmod (x : Int) : w16 x = x.bmod 65536 := by
  unfold w16 Int.bmod; simp only; split <;> omega
theorem i_toInt {x : Int} (h : inI x) : (Int32.ofInt x).toInt = x := Int32.toInt_ofInt_of_le h.1 h.2
theorem j_toInt {x : Int} (h : inJ x) : (Int64.ofInt x).toInt = x := by
  rw [Int64.toInt_ofInt]
  show x.bmod 18446744073709551616 = x
  rw [← w64_bmod]; obtain ⟨h1, h2⟩ := h; unfold w64; omega
theorem i_in (x : Int32) : inI x.toInt := ⟨x.le_toInt, x.toInt_lt⟩
theorem j_in (x : Int64) : inJ x.toInt := ⟨x.le_toInt, x.toInt_lt⟩
theorem i_w32 (x : Int) : Int32.ofInt (w32 x) = Int32.ofInt x := by
  apply Int32.toInt_inj.mp
  rw [i_toInt (w32_in x), Int32.toInt_ofInt, w32_bmod]
theorem j_w64 (x : Int) : Int64.ofInt (w64 x) = Int64.ofInt x := by
  apply Int64.toInt_inj.mp
  rw [j_toInt (w64_in x), Int64.toInt_ofInt, w64_bmod]
theorem i_lt {x y : Int} (hx : inI x) (hy : inI y) : Int32.ofInt x < Int32.ofInt y ↔ x < y := by
  rw [Int32.lt_iff_toInt_lt, i_toInt hx, i_toInt hy]
theorem i_le {x y : Int} (hx : inI x) (hy : inI y) : Int32.ofInt x ≤ Int32.ofInt y ↔ x ≤ y := by
  rw [Int32.le_iff_toInt_le, i_toInt hx, i_toInt hy]
theorem i_eq {x y : Int} (hx : inI x) (hy : inI y) : Int32.ofInt x = Int32.ofInt y ↔ x = y :=
  ⟨fun h => by rw [← i_toInt hx, ← i_toInt hy, h], fun h => by rw [h]⟩
theorem j_lt {x y : Int} (hx : inJ x) (hy : inJ y) : Int64.ofInt x < Int64.ofInt y ↔ x < y := by
  rw [Int64.lt_iff_toInt_lt, j_toInt hx, j_toInt hy]
theorem j_eq {x y : Int} (hx : inJ x) (hy : inJ y) : Int64.ofInt x = Int64.ofInt y ↔ x = y :=
  ⟨fun h => by rw [← j_toInt hx, ← j_toInt hy, h], fun h => by rw [h]⟩
theorem in0 : inI 0 := by unfold inI; omega
theorem i_0 : (0 : Int32) = Int32.ofInt 0 := rfl
theorem i_ofNat (n : Nat) : Int32.ofNat n = Int32.ofInt (n : Int) := Int32.ofInt_eq_ofNat.symm
theorem tdiv_in {x y : Int} (hx : inI x) : -2147483648 ≤ x.tdiv y ∧ x.tdiv y ≤ 2147483648 := by
  have h : (x.tdiv y).natAbs ≤ x.natAbs := by rw [Int.natAbs_tdiv]; exact Nat.div_le_self _ _
  obtain ⟨h1, h2⟩ := hx
  omega
theorem i_div {x y : Int} (hx : inI x) (hy : inI y) : Int32.ofInt x / Int32.ofInt y = Int32.ofInt (w32 (x.tdiv y)) := by
  apply Int32.toInt_inj.mp
  rw [Int32.toInt_div, i_toInt hx, i_toInt hy, i_toInt (w32_in _), w32_bmod]
theorem j_div {x y : Int} (hx : inJ x) (hy : inJ y) : Int64.ofInt x / Int64.ofInt y = Int64.ofInt (w64 (x.tdiv y)) := by
  apply Int64.toInt_inj.mp
  rw [Int64.toInt_div, j_toInt hx, j_toInt hy, j_toInt (w64_in _), w64_bmod]
theorem i_rem {x y : Int} (hx : inI x) (hy : inI y) : Int32.ofInt x - Int32.ofInt x / Int32.ofInt y * Int32.ofInt y = Int32.ofInt (x.tmod y) := by
  rw [i_div hx hy, i_w32, ← Int32.ofInt_mul, ← Int32.ofInt_sub]
  congr 1
  rw [Int.tmod_def, Int.mul_comm]
theorem tmod_in {x y : Int} (hx : inI x) : inI (x.tmod y) := by
  have h : (x.tmod y).natAbs ≤ x.natAbs := by rw [Int.natAbs_tmod]; exact Nat.mod_le _ _
  have h2 : 0 ≤ x → 0 ≤ x.tmod y := fun h => Int.tmod_nonneg _ h
  obtain ⟨h1, h3⟩ := hx
  refine ⟨by omega, ?_⟩
  rcases (show x < 0 ∨ 0 ≤ x by omega) with q | q
  · have : x.tmod y ≤ 0 := by
      have := Int.tmod_nonneg y (a := -x) (by omega)
      rw [Int.neg_tmod] at this; omega
    omega
  · omega
theorem i_i16 (x : Int) : (Int32.ofInt x).toInt16.toInt32 = Int32.ofInt (w16 x) := by
  apply Int32.toInt_inj.mp
  rw [i_toInt (w16_in x), Int32.toInt16_ofInt, Int16.toInt_toInt32, Int16.toInt_ofInt, w16_bmod]
theorem i_c16 {x : Int} : ((Int32.ofInt x).toUInt32 % 65536).toInt32 = Int32.ofInt (x % 65536) := by
  have e := pk_char (Int32.ofInt x)
  rw [e]
  show Int32.ofNat _ = _
  rw [i_ofNat]
  congr 1
  have h1 : (Int32.ofInt x).toBitVec.toNat = (x % 4294967296).toNat := by
    show (BitVec.ofInt 32 x).toNat = _
    rw [BitVec.toNat_ofInt]; rfl
  rw [h1]
  omega
theorem i_toJ {x : Int} (h : inI x) : (Int32.ofInt x).toInt64 = Int64.ofInt x := by
  apply Int64.toInt_inj.mp
  rw [Int32.toInt_toInt64, i_toInt h, j_toInt ⟨by have := h.1; omega, by have := h.2; omega⟩]
theorem j_toI (x : Int) : (Int64.ofInt x).toInt32 = Int32.ofInt (w32 x) := by
  rw [Int64.toInt32_ofInt, i_w32]
theorem i_cl {x : Int} (h : inI x) : (Int32.ofInt x).toNatClampNeg = x.toNat := Int32.toNatClampNeg_ofInt_of_le h.1 h.2
theorem vpin {x : Int} {n : Nat} (h : inI x) (h0 : 0 ≤ x) (h1 : x < (n : Int)) : vp_in (Int32.ofInt x) n := by
  rw [vp_in_iff, i_toInt h]; exact ⟨h0, h1⟩
theorem i_cmp {x y : Int} (hx : inJ x) (hy : inJ y) : lg_cmp (Int64.ofInt x) (Int64.ofInt y) = Int32.ofInt (lcmpI x y) := by
  have h1 : (Int64.ofInt x > Int64.ofInt y) ↔ y < x := j_lt hy hx
  have h2 := j_eq hx hy
  unfold lg_cmp lcmpI
  by_cases a : y < x
  · rw [if_pos (h1.mpr a), if_neg (by omega), if_neg (by omega)]; rfl
  · rw [if_neg (fun q => a (h1.mp q))]
    by_cases b : x = y
    · rw [if_pos (h2.mpr b), if_neg (by omega), if_pos b]; rfl
    · rw [if_neg (fun q => b (h2.mp q)), if_pos (by omega)]; rfl
