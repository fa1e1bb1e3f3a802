/-! the words of a rate -/
theorem AT.anyw {o ob on : Nat} {b : Nat → Int} {sz : Nat} {V U : VV} (a : AT o ob on b sz V U) {j : Nat} (hj : j < 13) : f_Tape_isWord o ob on j V = some (if U 62 45 = 2 ∧ U 62 47 = tv (wf j) 0 (wn j) then 1 else 0) := by
  obtain ⟨h0, p, f, t, k, h1, h2, h3, h4, ⟨d3, d4, d5, d6, d7⟩⟩ := a
  rw [wordC h1 h2 h4 hj]
  by_cases g : k = 1
  · have e45 : U 62 45 = 2 := by rw [d5, if_neg (by omega), if_pos g]
    have e47 : U 62 47 = wx b f t := d7 g
    rw [e47]
    by_cases g2 : wx b f t = tv (wf j) 0 (wn j)
    · rw [if_pos ⟨g, g2⟩, if_pos ⟨e45, g2⟩]
    · rw [if_neg (fun x => g2 x.2), if_neg (fun x => g2 x.2)]
  · have e45 : U 62 45 ≠ 2 := by
      rcases tok_k h1 with h | h | h | h
      · rw [d5, if_pos h]; omega
      · exact absurd h g
      · rw [d5, if_neg (by omega), if_neg g, if_pos h]; omega
      · rw [d5, if_neg (by omega), if_neg g, if_neg (by omega)]
        split <;> omega
    rw [if_neg (fun x => g x.1), if_neg (fun x => e45 x.1)]
theorem rate_words : tv (wf 7) 0 (wn 7) = 7170414 ∧ tv (wf 8) 0 (wn 8) = 7168376 ∧ tv (wf 9) 0 (wn 9) = 116 ∧ tv (wf 10) 0 (wn 10) = 100 ∧ tv (wf 11) 0 (wn 11) = 106 ∧ tv (wf 12) 0 (wn 12) = 109 := by decide
theorem rate_wordsM {U : VV} : f_Mo_add U 109 105 110 = 7170414 ∧ f_Mo_add U 109 97 120 = 7168376 := by
  unfold f_Mo_add
  decide
theorem lcmp0 {x y : Int} : lcmpI x y = 0 ↔ x = y := by
  unfold lcmpI
  split
  · exact ⟨fun h => by omega, fun h => by omega⟩
  · split
    · next h => exact ⟨fun _ => h, fun _ => rfl⟩
    · next h => exact ⟨fun h2 => by omega, fun h2 => absurd h2 h⟩
theorem letterM {U : VV} : (f_Mo_letterOf U = 0 ∧ U 62 47 = 116) ∨ (f_Mo_letterOf U = 1 ∧ U 62 47 = 100) ∨ (f_Mo_letterOf U = 2 ∧ U 62 47 = 106) ∨ (f_Mo_letterOf U = 3 ∧ U 62 47 = 109) ∨ (f_Mo_letterOf U = -1 ∧ U 62 47 ≠ 116 ∧ U 62 47 ≠ 100 ∧ U 62 47 ≠ 106 ∧ U 62 47 ≠ 109) := by
  unfold f_Mo_letterOf
  simp only [lcmp0]
  by_cases a : U 62 47 = 116
  · rw [if_pos a]; exact Or.inl ⟨rfl, a⟩
  · rw [if_neg a]
    by_cases b : U 62 47 = 100
    · rw [if_pos b]; exact Or.inr (Or.inl ⟨rfl, b⟩)
    · rw [if_neg b]
      by_cases c : U 62 47 = 106
      · rw [if_pos c]; exact Or.inr (Or.inr (Or.inl ⟨rfl, c⟩))
      · rw [if_neg c]
        by_cases d : U 62 47 = 109
        · rw [if_pos d]; exact Or.inr (Or.inr (Or.inr (Or.inl ⟨rfl, d⟩)))
        · rw [if_neg d]; exact Or.inr (Or.inr (Or.inr (Or.inr ⟨rfl, a, b, c, d⟩)))
