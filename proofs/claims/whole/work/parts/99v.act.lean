/-! what an operator of a rate gives -/
def clipV (x : Int) : Int := max (-1000000000) (min 1000000000 x)
theorem clipV_bd (x : Int) : -1000000000 ≤ clipV x ∧ clipV x ≤ 1000000000 := by unfold clipV; omega
theorem clipM {U : VV} {x : Int} : f_Mo_clip U x = clipV x := by
  have l1 : 0 < lcmpI x 1000000000 ↔ 1000000000 < x := by
    unfold lcmpI
    split
    · exact ⟨fun h => by omega, fun h => by omega⟩
    · split
      · exact ⟨fun h => by omega, fun h => by omega⟩
      · exact ⟨fun _ => by omega, fun _ => by omega⟩
  have l2 : lcmpI x (-1000000000) < 0 ↔ x < -1000000000 := by
    unfold lcmpI
    split
    · exact ⟨fun _ => by omega, fun _ => by omega⟩
    · split
      · exact ⟨fun h => by omega, fun h => by omega⟩
      · exact ⟨fun h => by omega, fun h => by omega⟩
  unfold f_Mo_clip clipV
  by_cases a : 0 < lcmpI x 1000000000
  · rw [if_pos a]; have := l1.mp a; omega
  · rw [if_neg a]
    by_cases b : lcmpI x (-1000000000) < 0
    · rw [if_pos b]; have := l2.mp b; omega
    · rw [if_neg b]
      have h1 : ¬ 1000000000 < x := fun y => a (l1.mpr y)
      have h2 : ¬ x < -1000000000 := fun y => b (l2.mpr y)
      omega
theorem heldC {V : VV} {x : Int} : f_Rate_held V x = clipV x := rfl
theorem w64_id {x : Int} (h : -9223372036854775808 ≤ x) (h2 : x ≤ 9223372036854775807) : w64 x = x := by unfold w64; omega
theorem mulB_bd {a b : Int} (ha : -1000000000 ≤ a ∧ a ≤ 1000000000) (hb : -1000000000 ≤ b ∧ b ≤ 1000000000) : -1000000000000000000 ≤ a * b ∧ a * b ≤ 1000000000000000000 := by
  have h1 : a.natAbs ≤ 1000000000 := by omega
  have h2 : b.natAbs ≤ 1000000000 := by omega
  have h3 := Nat.mul_le_mul h1 h2
  have h4 := Int.natAbs_mul a b
  rw [← h4] at h3
  generalize a * b = c at *
  omega
theorem tdiv_bd {a b : Int} (ha : -1000000000 ≤ a ∧ a ≤ 1000000000) : -1000000000 ≤ Int.tdiv a b ∧ Int.tdiv a b ≤ 1000000000 := by
  have h1 : (Int.tdiv a b).natAbs ≤ a.natAbs := by
    rw [Int.natAbs_tdiv]
    exact Nat.div_le_self _ _
  generalize Int.tdiv a b = c at *
  omega
def opV (c a b : Int) : Int := if c = 3 then clipV (a + b) else if c = 4 then clipV (a - b) else if c = 5 then clipV (a * b) else if c = 6 then (if b = 0 then 0 else Int.tdiv a b) else if c = 7 then min a b else max a b
theorem actM {U : VV} {c a b : Int} (ha : -1000000000 ≤ a ∧ a ≤ 1000000000) (hb : -1000000000 ≤ b ∧ b ≤ 1000000000) : f_Mo_act U c a b = some (opV c a b) ∧ -1000000000 ≤ opV c a b ∧ opV c a b ≤ 1000000000 := by
  have m := mulB_bd ha hb
  have d := tdiv_bd (b := b) ha
  unfold f_Mo_act opV
  simp only [clipM, lcmp0]
  rw [w64_id (x := a + b) (by omega) (by omega), w64_id (x := a - b) (by omega) (by omega), w64_id (x := a * b) (by omega) (by omega), w64_id (x := Int.tdiv a b) (by omega) (by omega)]
  have l : lcmpI a b < 0 ↔ a < b := by
    unfold lcmpI
    split
    · exact ⟨fun _ => by omega, fun _ => by omega⟩
    · split
      · exact ⟨fun h => by omega, fun h => by omega⟩
      · exact ⟨fun h => by omega, fun h => by omega⟩
  have l2 : 0 < lcmpI a b ↔ b < a := by
    unfold lcmpI
    split
    · exact ⟨fun h => by omega, fun h => by omega⟩
    · split
      · exact ⟨fun h => by omega, fun h => by omega⟩
      · exact ⟨fun _ => by omega, fun _ => by omega⟩
  simp only [l, l2]
  by_cases c3 : c = 3
  · rw [if_pos c3, if_pos c3]; exact ⟨rfl, clipV_bd _⟩
  · rw [if_neg c3, if_neg c3]
    by_cases c4 : c = 4
    · rw [if_pos c4, if_pos c4]; exact ⟨rfl, clipV_bd _⟩
    · rw [if_neg c4, if_neg c4]
      by_cases c5 : c = 5
      · rw [if_pos c5, if_pos c5]; exact ⟨rfl, clipV_bd _⟩
      · rw [if_neg c5, if_neg c5]
        by_cases c6 : c = 6
        · rw [if_pos c6, if_pos c6]
          by_cases z : b = 0
          · rw [if_pos z, if_pos z]; exact ⟨rfl, by omega, by omega⟩
          · rw [if_neg z, if_neg z, if_neg z]
            refine ⟨congrArg some ?_, d⟩
            unfold clipV
            omega
        · rw [if_neg c6, if_neg c6]
          by_cases c7 : c = 7
          · rw [if_pos c7, if_pos c7]
            refine ⟨congrArg some ?_, by omega, by omega⟩
            split <;> omega
          · rw [if_neg c7, if_neg c7]
            refine ⟨congrArg some ?_, by omega, by omega⟩
            split <;> omega
