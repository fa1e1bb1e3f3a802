/-! contracts written by hand: texts, and the loads' rows that grow -/
def lenW (j : Nat) : Int := ((gl SBY j).getD []).length
def chrO (j : Nat) (i : Int) : Option Int := if 0 ≤ i ∧ i < lenW j then some ((gl ((gl SBY j).getD []) i.toNat).getD 0) else none
theorem w_strlen {X : Xs} {d j : Nat} {V : VV} {h : HP} {q : Int} (hj : j < 13) (e : lenW j = q) : Ok X (d + 3) 60 0 ([some (.inr (.inr (.inr (10 + j))))], [], mm V h) (fun M r => M = mm V h ∧ r = some (.inl q)) := sorry
theorem w_strchar {X : Xs} {d j : Nat} {V : VV} {h : HP} {i q : Int} (hj : j < 13) (e : chrO j i = some q) : Ok X (d + 5) 62 0 ([some (.inr (.inr (.inr (10 + j)))), some (.inl i)], [], mm V h) (fun M r => M = mm V h ∧ r = some (.inl q) ∧ (0 ≤ q ∧ q < 128)) := sorry
/-- the rows of loads, copied into longer ones -/
def growV (V : VV) (h h2 : HP) : VV := fun a b => if a = h2.2.1 then (if b < ordN h then V h.2.1 b else 0) else if a = h2.1 then (if b < rowN h then V h.1 b else 0) else V a b
def noteV (V : VV) (h : HP) (l f x : Int) : VV := setV V h.1 (rowN h) (w32 (w32 (l * 9) + f)) x
def addV (V : VV) (h : HP) (l j t k p m : Int) : VV := noteV (noteV (noteV (noteV (noteV (noteV (noteV (noteV (noteV V h l 0 j) h l 1 t) h l 2 k) h l 3 p) h l 4 m) h l 5 (-1)) h l 6 (-1)) h l 7 (-1)) h l 8 0
def f_Loads_add (V : VV) (h : HP) (j t k p m : Int) : (VV × HP) × Int :=
  if 17280 ≤ V 28 3 then ((V, h), -1)
  else if V 28 3 < (ordN h : Int) then ((addV (up V 28 3 (w32 (V 28 3 + 1))) h (V 28 3) j t k p m, h), V 28 3)
  else ((addV (up (growV V h (hg (h.2.2.length / 2 + 1))) 28 3 (w32 (V 28 3 + 1))) (hg (h.2.2.length / 2 + 1)) (V 28 3) j t k p m, hg (h.2.2.length / 2 + 1)), V 28 3)
theorem s_Loads_add {X : Xs} {d : Nat} {V : VV} {h : HP} {j t k p m : Int} {q : (VV × HP) × Int} (hh : HOK h) (e : f_Loads_add V h j t k p m = q) : Ok X (d + 4) 112 0 ([some (.inr (.inr (.inl 29))), some (.inl j), some (.inl t), some (.inl k), some (.inl p), some (.inl m), none], [], mm V h) (fun M r => M = mm q.1.1 q.1.2 ∧ HOK q.1.2 ∧ r = some (.inl q.2)) := sorry
