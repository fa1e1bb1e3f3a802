/-! a token on both sides -/
def AT (o ob on : Nat) (b : Nat → Int) (sz : Nat) (V U : VV) : Prop := (V o 4 = 0 → V o 5 = -1) ∧ ∃ (p f t : Nat) (k : Int), TokAt b sz p f t k ∧ BY o ob on b sz V ∧ BM b sz U ∧ TC o b V f t k ∧ TM b U f t k
theorem tok_k {b : Nat → Int} {sz p f t : Nat} {k : Int} (tk : TokAt b sz p f t k) : k = 0 ∨ k = 1 ∨ k = 2 ∨ k = 3 := by
  rcases tk.2 with ⟨-, -, x⟩ | ⟨-, -, ⟨x, -⟩ | ⟨x, -⟩ | ⟨x, -⟩⟩ <;> omega
theorem AT.fr {o ob on : Nat} {b : Nat → Int} {sz : Nat} {V U W X : VV} (a : AT o ob on b sz V U) (w : ∀ c, c ≤ 3 ∨ 4 ≤ c → W o c = V o c) (wb : W ob = V ob) (u : ∀ c, c = 40 ∨ (43 ≤ c ∧ c ≤ 47) → X 62 c = U 62 c) (u80 : X 80 = U 80) : AT o ob on b sz W X := by
  obtain ⟨h0, p, f, t, k, h1, h2, h3, h4, h5⟩ := a
  refine ⟨by rw [w 4 (by omega), w 5 (by omega)]; exact h0, p, f, t, k, h1, ?_, ?_, ?_, ?_⟩
  · unfold BY; rw [w 1 (by omega), wb]; exact h2
  · unfold BM; rw [u 40 (by omega), u80]; exact h3
  · unfold TC; rw [w 6 (by omega), w 7 (by omega), w 2 (by omega), w 3 (by omega)]; exact h4
  · unfold TM; rw [u 43 (by omega), u 44 (by omega), u 45 (by omega), u 46 (by omega), u 47 (by omega)]; exact h5
theorem AT.next {o ob on : Nat} {b : Nat → Int} {sz : Nat} {V U : VV} (a : AT o ob on b sz V U) : Two (f_Tape_next o ob on V) (f_Mo_nextToken U) (fun W X => AT o ob on b sz W X ∧ FrT o V W ∧ FrMo U X) := by
  obtain ⟨h0, p, f, t, k, h1, h2, h3, h4, h5⟩ := a
  obtain ⟨f2, t2, k2, tk⟩ := tokEx b (p := t) (sz := sz) h1.1.2.2.1
  obtain ⟨W, eW, w1, w2⟩ := tokC tk h2 h4.2.1
  obtain ⟨X, eX, x1, x2⟩ := nextM tk h3 h5.1
  exact ⟨W, X, eW, eX, ⟨by rw [w1.2 4 (by omega) (by omega) (by omega) (by omega), w1.2 5 (by omega) (by omega) (by omega) (by omega)]; exact h0, t, f2, t2, k2, tk, h2.fr w1, h3.fr x1, w2, x2⟩, w1, x1⟩
theorem AT.place {o ob on : Nat} {b : Nat → Int} {sz : Nat} {V U : VV} (a : AT o ob on b sz V U) : V o 6 = U 62 44 := by
  obtain ⟨h0, p, f, t, k, h1, h2, h3, h4, h5⟩ := a
  rw [h4.1, h5.2.1]
theorem AT.end_ {o ob on : Nat} {b : Nat → Int} {sz : Nat} {V U : VV} (a : AT o ob on b sz V U) : V o 2 = 0 ↔ U 62 45 = 0 := by
  obtain ⟨h0, p, f, t, k, h1, h2, h3, ⟨c6, c7, c2, c3⟩, ⟨d3, d4, d5, d6, d7⟩⟩ := a
  rw [c2, d5]
  rcases tok_k h1 with h | h | h | h
  · rw [if_pos h]; exact ⟨fun _ => rfl, fun _ => h⟩
  · rw [if_neg (by omega), if_pos h]; omega
  · rw [if_neg (by omega), if_neg (by omega), if_pos h]; omega
  · rw [if_neg (by omega), if_neg (by omega), if_neg (by omega)]
    split <;> omega
theorem AT.num {o ob on : Nat} {b : Nat → Int} {sz : Nat} {V U : VV} (a : AT o ob on b sz V U) : (V o 2 = 2 ↔ U 62 45 = 1) ∧ (V o 2 = 2 → V o 3 = min 100000 (U 62 46) ∧ 0 ≤ U 62 46 ∧ U 62 46 ≤ 1000008) := by
  obtain ⟨h0, p, f, t, k, h1, h2, h3, ⟨c6, c7, c2, c3⟩, ⟨d3, d4, d5, d6, d7⟩⟩ := a
  rw [c2, d5]
  rcases tok_k h1 with h | h | h | h
  · rw [if_pos h]; exact ⟨by omega, by omega⟩
  · rw [if_neg (by omega), if_pos h]; exact ⟨by omega, by omega⟩
  · rw [if_neg (by omega), if_neg (by omega), if_pos h]
    refine ⟨by omega, fun _ => ?_⟩
    have dg : ∀ i, f ≤ i → i < t → dig (b i) := by
      rcases h1.2 with ⟨-, -, x⟩ | ⟨-, -, ⟨x, -⟩ | ⟨-, -, x, -⟩ | ⟨x, -⟩⟩
      · omega
      · omega
      · exact x
      · omega
    have bd := nv_bd (b := b) (f := f) (t - f) (fun i x y => dg i x (by omega))
    rw [c3, if_pos h, d6 h]
    exact ⟨rfl, bd⟩
  · rw [if_neg (by omega), if_neg (by omega), if_neg (by omega)]
    refine ⟨?_, by omega⟩
    split <;> omega
theorem AT.sign {o ob on : Nat} {b : Nat → Int} {sz : Nat} {V U : VV} (a : AT o ob on b sz V U) {x : Int} (hx : 10 ≤ x ∧ x ≤ 254) : f_Tape_isSign o ob on V x = if U 62 45 = x then 1 else 0 := by
  obtain ⟨h0, p, f, t, k, h1, h2, h3, ⟨c6, c7, c2, c3⟩, ⟨d3, d4, d5, d6, d7⟩⟩ := a
  unfold f_Tape_isSign
  rw [c2, d5]
  rcases tok_k h1 with h | h | h | h
  · rw [if_pos h, if_neg (by omega), if_neg (by omega)]
  · rw [if_neg (by omega), if_neg (show ¬ k = 0 by omega), if_pos h, if_neg (by omega)]
  · rw [if_neg (by omega), if_neg (show ¬ k = 0 by omega), if_neg (show ¬ k = 1 by omega), if_pos h, if_neg (by omega)]
  · rw [if_pos h, c3, if_neg (show ¬ k = 2 by omega), if_pos h, if_neg (show ¬ k = 0 by omega), if_neg (show ¬ k = 1 by omega), if_neg (show ¬ k = 2 by omega)]
    by_cases g : b f < 10
    · rw [if_pos g, if_neg (by omega), if_neg (by omega)]
    · rw [if_neg g]
theorem AT.word {o ob on : Nat} {b : Nat → Int} {sz : Nat} {V U : VV} (a : AT o ob on b sz V U) : ∀ j : Nat, j < 7 → f_Tape_isWord o ob on j V = some (if f_Mo_wordOf U = (j : Int) + 1 then 1 else 0) := by
  obtain ⟨h0, p, f, t, k, h1, h2, h3, h4, h5⟩ := a
  intro j hj
  rw [wordC h1 h2 h4 (by omega), wdM h5 (tok_k h1)]
  unfold wd
  have e0 : tv (wf 0) 0 (wn 0) = 512970878052 := by decide
  have e1 : tv (wf 1) 0 (wn 1) = 1751217516 := by decide
  have e2 : tv (wf 2) 0 (wn 2) = 1936225652 := by decide
  have e3 : tv (wf 3) 0 (wn 3) = 1869636974 := by decide
  have e4 : tv (wf 4) 0 (wn 4) = 1918986606 := by decide
  have e5 : tv (wf 5) 0 (wn 5) = 1718775661 := by decide
  have e6 : tv (wf 6) 0 (wn 6) = 29807 := by decide
  generalize wx b f t = x
  by_cases hk : k = 1
  · simp only [hk, true_and, if_true]
    have : j = 0 ∨ j = 1 ∨ j = 2 ∨ j = 3 ∨ j = 4 ∨ j = 5 ∨ j = 6 := by omega
    rcases this with rfl | rfl | rfl | rfl | rfl | rfl | rfl
    · rw [e0]; congr 1; split <;> split <;> first | rfl | omega | (exfalso; split at * <;> omega) | skip
      all_goals (repeat' (split at *)) <;> omega
    · rw [e1]; congr 1; (repeat' split) <;> omega
    · rw [e2]; congr 1; (repeat' split) <;> omega
    · rw [e3]; congr 1; (repeat' split) <;> omega
    · rw [e4]; congr 1; (repeat' split) <;> omega
    · rw [e5]; congr 1; (repeat' split) <;> omega
    · rw [e6]; congr 1; (repeat' split) <;> omega
  · rw [if_neg (fun h => hk h.1), if_neg hk, if_neg (by omega)]
theorem AT.w7 {U : VV} : 0 ≤ f_Mo_wordOf U ∧ f_Mo_wordOf U ≤ 7 := by
  unfold f_Mo_wordOf
  (repeat' split) <;> omega
/-- the class has failed -/
def DEAD (o : Nat) (c f : Int) (V : VV) : Prop := V o 4 = c ∧ c ≠ 0 ∧ V o 5 = f
def CF (o : Nat) (V W : VV) : Prop := (∀ i, i ≠ o → W i = V i) ∧ W o 1 = V o 1
def MF2 (U X : VV) : Prop := (∀ i, i ≠ 62 → X i = U i) ∧ ∀ c, ¬ (43 ≤ c ∧ c ≤ 47) → c ≠ 57 → X 62 c = U 62 c
theorem CF.rf {o : Nat} {V : VV} : CF o V V := ⟨fun _ _ => rfl, rfl⟩
theorem CF.tr {o : Nat} {V W X : VV} (h : CF o V W) (h2 : CF o W X) : CF o V X := ⟨fun i a => (h2.1 i a).trans (h.1 i a), h2.2.trans h.2⟩
theorem MF2.rf {U : VV} : MF2 U U := ⟨fun _ _ => rfl, fun _ _ _ => rfl⟩
theorem MF2.tr {U X Y : VV} (h : MF2 U X) (h2 : MF2 X Y) : MF2 U Y := ⟨fun i a => (h2.1 i a).trans (h.1 i a), fun c a d => (h2.2 c a d).trans (h.2 c a d)⟩
theorem FrT.cf {o : Nat} {V W : VV} (h : FrT o V W) : CF o V W := ⟨h.1, h.2 1 (by omega) (by omega) (by omega) (by omega)⟩
theorem FrMo.mf2 {U X : VV} (h : FrMo U X) : MF2 U X := ⟨h.1, fun c a _ => h.2 c a⟩
theorem failS {o ob on : Nat} {V : VV} {c : Int} (h : V o 4 = 0) : f_Tape_fail o ob on V c = up (up V o 4 c) o 5 (V o 6) := by
  unfold f_Tape_fail
  rw [if_pos h]
theorem failD {o ob on : Nat} {V : VV} {c : Int} (h : V o 4 ≠ 0) : f_Tape_fail o ob on V c = V := by
  unfold f_Tape_fail
  rw [if_neg h]
theorem AT.fail {o ob on : Nat} {b : Nat → Int} {sz : Nat} {V U : VV} (a : AT o ob on b sz V U) (h : V o 4 = 0) {c : Int} (hc : c ≠ 0) : DEAD o c (U 62 44) (f_Tape_fail o ob on V c) ∧ CF o V (f_Tape_fail o ob on V c) := by
  rw [failS h]
  refine ⟨⟨by rw [up_nf _ _ (by omega), up_eq], hc, by rw [up_eq]; exact a.place⟩, fun i hi => by rw [up_na _ _ _ hi, up_na _ _ _ hi], by rw [up_nf _ _ (by omega), up_nf _ _ (by omega)]⟩
theorem sound1 {o ob on : Nat} {V : VV} (h : V o 4 = 0) : f_Tape_isSound o ob on V = 1 := by
  unfold f_Tape_isSound; rw [if_pos h]
theorem sound0 {o ob on : Nat} {V : VV} (h : V o 4 ≠ 0) : f_Tape_isSound o ob on V = 0 := by
  unfold f_Tape_isSound; rw [if_neg h]
/-- nothing is passed any more -/
theorem numD {o ob on : Nat} {V : VV} {lo hi : Int} (h : V o 4 ≠ 0) : f_Tape_passNumber o ob on V lo hi = some (V, lo) := by
  unfold f_Tape_passNumber f_Tape_passNumber_6 lt_
  dsimp only
  rw [failD h, failD h, sound0 h, if_pos rfl]
  split
  · split <;> rfl
  · rfl
theorem wordD {o ob on j : Nat} {V : VV} (h : V o 4 ≠ 0) : f_Tape_passWord o ob on j V = some V := by
  unfold f_Tape_passWord f_Tape_passWord_6 lt_
  rw [sound0 h, if_pos rfl, failD h]
theorem signD {o ob on : Nat} {V : VV} {x : Int} (h : V o 4 ≠ 0) : f_Tape_passSign o ob on V x = some V := by
  unfold f_Tape_passSign f_Tape_passSign_6 lt_
  rw [sound0 h, if_pos rfl, failD h]
theorem numStep {o ob on : Nat} {b : Nat → Int} {sz : Nat} {V U : VV} (a : AT o ob on b sz V U) (h : V o 4 = 0) {lo hi : Int} (hb : 0 ≤ lo ∧ hi < 100000) : Two (f_Tape_passNumber o ob on V lo hi) (f_Mo_take U lo hi) (fun q z => CF o V q.1 ∧ MF2 U z.1 ∧ ((z.2 = 0 ∧ AT o ob on b sz q.1 z.1 ∧ q.1 o 4 = 0 ∧ q.2 = z.1 62 57 ∧ lo ≤ q.2 ∧ q.2 ≤ hi) ∨ (z.2 ≠ 0 ∧ DEAD o z.2 (z.1 62 44) q.1))) := by
  obtain ⟨n1, n2⟩ := a.num
  unfold f_Tape_passNumber f_Mo_take f_Tape_passNumber_6 lt_
  dsimp only
  by_cases g : V o 2 = 2
  · obtain ⟨n3, n4, n5⟩ := n2 g
    rw [if_pos g, if_pos (n1.mp g)]
    by_cases r : lo ≤ U 62 46 ∧ U 62 46 ≤ hi
    · have e : V o 3 = U 62 46 := by omega
      rw [e, if_neg (show ¬ isFromV (U 62 46) lo hi = 0 by rw [isFromV_1 r.1 r.2]; omega), if_neg (show ¬ f_Mo_isIn U (U 62 46) lo hi = 0 by rw [isIn_1 r.1 r.2]; omega), sound1 h, if_neg (by omega)]
      have a2 : AT o ob on b sz V (up U 62 57 (U 62 46)) := a.fr (fun _ _ => rfl) rfl (fun c hc => up_nf _ _ (by omega)) (up_na _ _ _ (by omega))
      refine Two.bind2 a2.next (fun W X hW => ?_)
      obtain ⟨w1, w2, w3⟩ := hW
      have e57 : X 62 57 = U 62 46 := by rw [w3.2 57 (by omega), up_eq]
      have m1 : MF2 U X := ⟨fun i hi => by rw [w3.1 i hi, up_na _ _ _ hi], fun c hc h57 => by rw [w3.2 c hc, up_nf _ _ h57]⟩
      have m4 : W o 4 = 0 := by rw [w2.2 4 (by omega) (by omega) (by omega) (by omega)]; exact h
      exact Two.ok ⟨w2.cf, m1, Or.inl ⟨rfl, w1, m4, e57.symm, r.1, r.2⟩⟩
    · obtain ⟨d1, d2⟩ := a.fail h (c := 2) (by omega)
      rw [if_pos (isFromV_0.mpr (by omega)), if_pos (isIn_0.mpr r), sound0 (V := f_Tape_fail o ob on V 2) (by rw [d1.1]; omega), if_pos rfl]
      exact Two.ok ⟨d2, MF2.rf, Or.inr ⟨(by dsimp only; omega), d1⟩⟩
  · obtain ⟨d1, d2⟩ := a.fail h (c := 1) (by omega)
    rw [if_neg g, if_neg (fun x => g (n1.mpr x)), sound0 (V := f_Tape_fail o ob on V 1) (by rw [d1.1]; omega), if_pos rfl]
    exact Two.ok ⟨d2, MF2.rf, Or.inr ⟨(by dsimp only; omega), d1⟩⟩
theorem wordStep {o ob on : Nat} {b : Nat → Int} {sz : Nat} {V U : VV} (a : AT o ob on b sz V U) (h : V o 4 = 0) {j : Nat} (hj : j < 7) {r : Int} (hr : r = (j : Int) + 1) : Two (f_Tape_passWord o ob on j V) (f_Mo_need U r) (fun W z => CF o V W ∧ MF2 U z.1 ∧ z.1 62 57 = U 62 57 ∧ ((z.2 = 0 ∧ AT o ob on b sz W z.1 ∧ W o 4 = 0) ∨ (z.2 ≠ 0 ∧ DEAD o z.2 (z.1 62 44) W))) := by
  subst hr
  unfold f_Tape_passWord f_Mo_need f_Tape_passWord_6 lt_
  rw [sound1 h, if_neg (by omega), a.word j hj, obs]
  by_cases g : f_Mo_wordOf U = (j : Int) + 1
  · rw [if_pos g, if_pos g, if_neg (by omega)]
    refine Two.bind2 a.next (fun W X hW => ?_)
    obtain ⟨w1, w2, w3⟩ := hW
    exact Two.ok ⟨w2.cf, w3.mf2, w3.2 57 (by omega), Or.inl ⟨rfl, w1, by rw [w2.2 4 (by omega) (by omega) (by omega) (by omega)]; exact h⟩⟩
  · obtain ⟨d1, d2⟩ := a.fail h (c := 1) (by omega)
    rw [if_neg g, if_neg g, if_pos rfl]
    exact Two.ok ⟨d2, MF2.rf, rfl, Or.inr ⟨(by dsimp only; omega), d1⟩⟩
