/-- what the walks must give in the end -/
theorem law_run (X : Xs) (hX : XOK X) : ∃ (n d : Nat) (M2 : Mm), d ≤ 1300 ∧ run X n d NM 0 ([some (.inr (.inr (.inr 0))), none, none, none], [], (fun _ _ => 0, fun _ _ => 0, [])) = some (M2, some (.inl 1)) ∧ M2.2.2.length ≤ 600000 ∧ ksz M2.2.2 ≤ 7302250 := sorry
