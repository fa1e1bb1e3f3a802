theorem pay21 {c : Int} {h : HP} {N : Int} {V X : VV} {v3 s tot t d : Int} {j : Nat} {K : VV → HP → Int → Int → Int → Int → Option ((VV × HP) × Int)} {K' : VV → Int → Int → Int → Int → Option (VV × Int)} (p : PST c h N V X) (hj : (j : Int) < N) (hd : -1000000000 ≤ d ∧ d ≤ 1000000000) (k : ∀ W Z tot', PST c h N W Z → Two (K W h v3 s tot' (w32 (t + 1))) (K' Z v3 s tot' (w32 (t + 1))) (PQ c h)) : Two (f_Br_pay_21 K V h v3 s tot t (j : Int) d) (f_Mo_pay_19 K' X v3 s t (j : Int) tot (X 70 j) d) (PQ c h) := by
  have la := p.1
  have nj := p.2.1
  have nb := la.2.2.1.2.1
  obtain ⟨t1, t2, t3⟩ := p.2.2.2.2.2 j hj
  unfold f_Br_pay_21 f_Mo_pay_19
  rw [atV_in (by omega) (by omega), Int.toNat_natCast, t1]
  refine Two.bind2 (cold2 la (by omega)) (fun q z hq => ?_)
  obtain ⟨q1, q2, q3⟩ := hq
  have p2 := p.kc q3
  obtain ⟨m1, m2⟩ := missC p2.1 (j := j) (by rw [p2.2.1]; exact hj)
  have m3 := missM p2.1 (j := j) (by rw [p2.2.1]; exact hj)
  rw [m1, m3, obs, obs, q1]
  refine Two.bind2 (tellL p2.2.2.2.2.1.2.2.2.2.2.2.2.2.1 (v1 := X 70 j) (v2 := d) (v3 := (if z = 0 then 0 else 1 : Int)) (v4 := misS q.1 j) (fun v hv => ?_)) (fun a b hab => ?_)
  · have : (if z = 0 then 0 else 1 : Int) = 0 ∨ (if z = 0 then 0 else 1 : Int) = 1 := by split <;> omega
    rcases hv with rfl | rfl | rfl | rfl <;> omega
  · obtain ⟨a1, a2, a3, a4, -⟩ := hab
    rw [a4]
    exact k a.1 b.1 _ (p2.tell a1 a2 a3)
