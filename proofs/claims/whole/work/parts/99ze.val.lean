/-! values of code with operators pending -/
def ngs : Nat → Int → Int
  | 0, v => v
  | u + 1, v => -(ngs u v)
theorem ngs_s (u : Nat) (v : Int) : ngs u (-v) = ngs (u + 1) v := by
  induction u with
  | zero => rfl
  | succ u ih =>
    show -(ngs u (-v)) = -(ngs (u + 1) v)
    rw [ih]
theorem ngs_bd {v : Int} (h : -1000000000 ≤ v ∧ v ≤ 1000000000) : ∀ u, -1000000000 ≤ ngs u v ∧ ngs u v ≤ 1000000000 := by
  intro u
  induction u with
  | zero => exact h
  | succ u ih => show -1000000000 ≤ -(ngs u v) ∧ -(ngs u v) ≤ 1000000000; omega
theorem runC_neg {lt : Int → Int} : ∀ (u : Nat) (v : Int) (s : List Int), runC lt (List.replicate u (2, 0)) (v :: s) = some (ngs u v :: s) := by
  intro u
  induction u with
  | zero => intro v s; rfl
  | succ u ih =>
    intro v s
    show runC lt ((2, 0) :: List.replicate u (2, 0)) (v :: s) = _
    unfold runC
    rw [if_neg (by omega), if_neg (by omega), if_pos rfl]
    show runC lt (List.replicate u (2, 0)) (-v :: s) = _
    rw [ih, ngs_s]
def opm (ops : List Int) : List (Int × Int) := ops.map (fun a => (a, 0))
def VAL (lt : Int → Int) (seg : List (Int × Int)) (ops : List Int) (v : Int) : Prop := ∀ s : List Int, runC lt (seg ++ opm ops) s = some (v :: s)
theorem VAL.set {lt : Int → Int} {seg : List (Int × Int)} {ops : List Int} {v : Int} (h : VAL lt seg ops v) : VAL lt (seg ++ opm ops) [] v := fun s => by
  show runC lt (seg ++ opm ops ++ opm []) s = _
  rw [show opm [] = [] from rfl, List.append_nil]
  exact h s
theorem opm_app (p q : List Int) : opm (p ++ q) = opm p ++ opm q := List.map_append
theorem VAL.op {lt : Int → Int} {seg seg2 : List (Int × Int)} {ops2 : List Int} {v v2 c : Int} (h : VAL lt seg [] v) (h2 : VAL lt seg2 ops2 v2) (hc : 3 ≤ c) : VAL lt (seg ++ seg2) (ops2 ++ [c]) (opV c v v2) := by
  intro s
  have a := h s
  rw [show opm [] = [] from rfl, List.append_nil] at a
  rw [opm_app, List.append_assoc, ← List.append_assoc seg2, runC_app, a, obs, runC_app, h2 (v :: s), obs]
  show runC lt ((c, 0) :: []) (v2 :: v :: s) = _
  unfold runC
  rw [if_neg (by omega), if_neg (by omega), if_neg (by omega)]
  rfl
theorem opV_bd {c a b : Int} (ha : -1000000000 ≤ a ∧ a ≤ 1000000000) (hb : -1000000000 ≤ b ∧ b ≤ 1000000000) : -1000000000 ≤ opV c a b ∧ opV c a b ≤ 1000000000 := (actM (U := fun _ _ => 0) ha hb).2
