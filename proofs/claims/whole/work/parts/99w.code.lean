/-! a rate's code, run on a list -/
def runC (lt : Int → Int) : List (Int × Int) → List Int → Option (List Int)
  | [], s => some s
  | (c, x) :: r, s => if c = 0 then runC lt r (x :: s) else if c = 1 then runC lt r (lt x :: s) else if c = 2 then (match s with
    | a :: s' => runC lt r (-a :: s')
    | [] => none) else (match s with
    | b :: a :: s' => runC lt r (opV c a b :: s')
    | _ => none)
theorem runC_app {lt : Int → Int} : ∀ (p q : List (Int × Int)) (s : List Int), runC lt (p ++ q) s = Option.bind (runC lt p s) (runC lt q) := by
  intro p
  induction p with
  | nil => intro q s; rfl
  | cons h r ih =>
    intro q s
    obtain ⟨c, x⟩ := h
    show runC lt ((c, x) :: (r ++ q)) s = _
    unfold runC
    by_cases c0 : c = 0
    · rw [if_pos c0, if_pos c0]; exact ih q _
    · rw [if_neg c0, if_neg c0]
      by_cases c1 : c = 1
      · rw [if_pos c1, if_pos c1]; exact ih q _
      · rw [if_neg c1, if_neg c1]
        by_cases c2 : c = 2
        · rw [if_pos c2, if_pos c2]
          cases s with
          | nil => rfl
          | cons a s' => exact ih q _
        · rw [if_neg c2, if_neg c2]
          cases s with
          | nil => rfl
          | cons b s1 =>
            cases s1 with
            | nil => rfl
            | cons a s' => exact ih q _
