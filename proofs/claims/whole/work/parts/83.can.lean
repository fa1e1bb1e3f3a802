/-! can it be paved at all? -/
theorem mk1 {V : VV} {kd : Int} (hp : 0 ≤ V 10 4 ∧ V 10 4 ≤ 3) : ∀ (k n : Nat) (p : Nat), V 10 4 - (p : Int) ≤ (k : Int) → k < n → (p : Int) ≤ V 10 4 → (∀ i : Nat, i < p → V 11 i ≠ kd) → Sm (f_Plants_make_1 n V kd (p : Int)) (fun q => (q = 1 ∧ ∃ i : Nat, (i : Int) < V 10 4 ∧ V 11 i = kd) ∨ (q = 0 ∧ ∀ i : Nat, (i : Int) < V 10 4 → V 11 i ≠ kd)) := by
  intro k
  induction k with
  | zero =>
    intro n p e1 e2 e3 q
    cases n with
    | zero => omega
    | succ n =>
      show Sm (if (p : Int) < V 10 4 then _ else some 0) _
      exact Sm.neg (by omega) (Sm.ok (Or.inr ⟨rfl, fun i hi => q i (by omega)⟩))
  | succ k ih =>
    intro n p e1 e2 e3 q
    cases n with
    | zero => omega
    | succ n =>
      show Sm (if (p : Int) < V 10 4 then if (atV V 11 3 (p : Int)) = kd then some 1 else f_Plants_make_1 n V kd (w32 ((p : Int) + 1)) else some 0) _
      refine Sm.ite (fun g => ?_) (fun g => Sm.ok (Or.inr ⟨rfl, fun i hi => q i (by omega)⟩))
      rw [atV_in (by omega) (by omega), Int.toNat_natCast, w32_id (by omega) (by omega), show (p : Int) + 1 = ((p + 1 : Nat) : Int) by omega]
      refine Sm.ite (fun z => Sm.ok (Or.inl ⟨rfl, p, g, z⟩)) (fun z => ih n (p + 1) (by omega) (by omega) (by omega) (fun i hi => ?_))
      by_cases e : i = p
      · subst e; exact z
      · exact q i (by omega)
theorem can5 {V : VV} (hp : 0 ≤ V 10 4 ∧ V 10 4 ≤ 3) (hl : 0 ≤ V 1 9 ∧ V 1 9 ≤ 3) : ∀ (k n : Nat) (l : Nat), V 1 9 - (l : Int) ≤ (k : Int) → k < n → (l : Int) ≤ V 1 9 → (∀ i : Nat, i < l → ∃ p : Nat, (p : Int) < V 10 4 ∧ V 11 p = V 7 i) → Sm (f_Br_canBePaved_5 n V (l : Int)) (fun q => (q = 1 ∧ KIN V) ∨ (q = 0 ∧ ¬ KIN V)) := by
  intro k
  induction k with
  | zero =>
    intro n l e1 e2 e3 q
    cases n with
    | zero => omega
    | succ n =>
      show Sm (if (l : Int) < V 1 9 then _ else some 1) _
      exact Sm.neg (by omega) (Sm.ok (Or.inl ⟨rfl, fun i hi => q i (by omega)⟩))
  | succ k ih =>
    intro n l e1 e2 e3 q
    cases n with
    | zero => omega
    | succ n =>
      show Sm (if (l : Int) < V 1 9 then Option.bind (f_Plants_make V (atV V 7 3 (l : Int))) (fun q3 => if q3 = 0 then some 0 else f_Br_canBePaved_5 n V (w32 ((l : Int) + 1))) else some 1) _
      refine Sm.ite (fun g => ?_) (fun g => Sm.ok (Or.inl ⟨rfl, fun i hi => q i (by omega)⟩))
      rw [atV_in (by omega) (by omega), Int.toNat_natCast, w32_id (by omega) (by omega), show (l : Int) + 1 = ((l + 1 : Nat) : Int) by omega]
      refine Sm.bind (mk1 (kd := V 7 l) hp 3 FU 0 (by omega) (by decide) (by omega) (fun i hi => by omega)) (fun x _ hx => ?_)
      rcases hx with ⟨rfl, hx⟩ | ⟨rfl, hx⟩
      · rw [if_neg (by omega)]
        refine ih n (l + 1) (by omega) (by omega) (by omega) (fun i hi => ?_)
        by_cases e : i = l
        · subst e; exact hx
        · exact q i (by omega)
      · rw [if_pos rfl]
        refine Sm.ok (Or.inr ⟨rfl, fun kin => ?_⟩)
        obtain ⟨p, p1, p2⟩ := kin l g
        exact hx p p1 p2
theorem canC {V : VV} (d : DR V) (hp : 0 ≤ V 10 4 ∧ V 10 4 ≤ 3) : Sm (f_Br_canBePaved V) (fun q => (q = 1 ∧ 0 < nJ V ∧ KIN V) ∨ (q = 0 ∧ ¬ (0 < nJ V ∧ KIN V))) := by
  have nb := d.1.nJb
  unfold f_Br_canBePaved
  rw [d.1.jobs]
  refine Sm.ite (fun g => Sm.ok (Or.inr ⟨rfl, fun z => ?_⟩)) (fun g => Sm.ite (fun g2 => Sm.ok (Or.inr ⟨rfl, fun z => by omega⟩)) (fun g2 => ?_))
  · have := (cost_neg d).mp g
    have e : nJ V = 0 := by unfold nJ; rw [this, Int.zero_mul]
    omega
  · refine (can5 hp d.1.2.1 3 FU 0 (by have := d.1.2.1; omega) (by decide) (by have := d.1.2.1; omega) (fun i hi => by omega)).imp (fun q hq => ?_)
    rcases hq with ⟨a, b⟩ | ⟨a, b⟩
    · exact Or.inl ⟨a, by omega, b⟩
    · exact Or.inr ⟨a, fun z => b z.2⟩
theorem hp3 {V U : VV} {k1 : VV → Int → Option Int} {Q : Int → Prop} (hp : 0 ≤ V 10 4 ∧ V 10 4 ≤ 3) (e17 : U 62 17 = V 10 4) (e11 : ∀ p : Nat, (p : Int) < V 10 4 → U 71 p = V 11 p) {l : Nat} (hl : l < 3) (e7 : U 66 l = V 7 l) (K1 : (∃ p : Nat, (p : Int) < V 10 4 ∧ V 11 p = V 7 l) → Sm (k1 U ((l : Int) + 1)) Q) (K0 : (∀ p : Nat, (p : Int) < V 10 4 → V 11 p ≠ V 7 l) → Sm (some 0) Q) : ∀ (k n : Nat) (s : Int) (p : Nat), V 10 4 - (p : Int) ≤ (k : Int) → k < n → (p : Int) ≤ V 10 4 → ((s = 0 ∧ ∀ i : Nat, i < p → V 11 i ≠ V 7 l) ∨ (s ≠ 0 ∧ ∃ p : Nat, (p : Int) < V 10 4 ∧ V 11 p = V 7 l)) → Sm (f_Mo_hasPlants_3 k1 n U (l : Int) s (p : Int)) Q := by
  have fin : ∀ (s : Int) (p : Nat), ¬ (p : Int) < V 10 4 → ((s = 0 ∧ ∀ i : Nat, i < p → V 11 i ≠ V 7 l) ∨ (s ≠ 0 ∧ ∃ p : Nat, (p : Int) < V 10 4 ∧ V 11 p = V 7 l)) → Sm (if s = 0 then some 0 else k1 U (w32 ((l : Int) + 1))) Q := by
    intro s p h1 h2
    rw [w32_id (by omega) (by omega)]
    rcases h2 with ⟨a, b⟩ | ⟨a, b⟩
    · exact Sm.pos a (K0 (fun i hi => b i (by omega)))
    · exact Sm.neg a (K1 b)
  intro k
  induction k with
  | zero =>
    intro n s p e1 e2 e3 q
    cases n with
    | zero => omega
    | succ n =>
      show Sm (if (p : Int) < U 62 17 then _ else _) _
      exact Sm.neg (by omega) (fin s p (by omega) q)
  | succ k ih =>
    intro n s p e1 e2 e3 q
    cases n with
    | zero => omega
    | succ n =>
      have nx : ∀ t : Int, ((t = 0 ∧ ∀ i : Nat, i < p + 1 → V 11 i ≠ V 7 l) ∨ (t ≠ 0 ∧ ∃ p : Nat, (p : Int) < V 10 4 ∧ V 11 p = V 7 l)) → (p : Int) < V 10 4 → Sm (f_Mo_hasPlants_3 k1 n U (l : Int) t (w32 ((p : Int) + 1))) Q := by
        intro t ht g
        rw [w32_id (by omega) (by omega), show (p : Int) + 1 = ((p + 1 : Nat) : Int) by omega]
        exact ih n t (p + 1) (by omega) (by omega) (by omega) ht
      show Sm (if (p : Int) < U 62 17 then if s = 0 then if 0 ≤ (p : Int) ∧ (p : Int) < (3 : Int) then if 0 ≤ (l : Int) ∧ (l : Int) < (3 : Int) then if (U 71 ((p : Int)).toNat) = (U 66 ((l : Int)).toNat) then f_Mo_hasPlants_3 k1 n U (l : Int) 1 (w32 ((p : Int) + 1)) else f_Mo_hasPlants_3 k1 n U (l : Int) 0 (w32 ((p : Int) + 1)) else none else none else f_Mo_hasPlants_3 k1 n U (l : Int) 1 (w32 ((p : Int) + 1)) else if s = 0 then some 0 else k1 U (w32 ((l : Int) + 1))) _
      refine Sm.ite (fun g => ?_) (fun g => fin s p (by omega) q)
      have g' : (p : Int) < V 10 4 := by omega
      rw [Int.toNat_natCast, Int.toNat_natCast, e11 p g', e7]
      refine Sm.ite (fun s0 => Sm.pos (by omega) (Sm.pos (by omega) (Sm.ite (fun z => nx 1 (Or.inr ⟨by omega, p, g', z⟩) g') (fun z => nx 0 (Or.inl ⟨rfl, fun i hi => ?_⟩) g')))) (fun s0 => nx 1 (Or.inr ⟨by omega, ?_⟩) g')
      · rcases q with ⟨-, b⟩ | ⟨a, -⟩
        · by_cases e : i = p
          · subst e; exact z
          · exact b i (by omega)
        · exact absurd s0 a
      · rcases q with ⟨a, -⟩ | ⟨-, b⟩
        · exact absurd a s0
        · exact b
theorem hp1 {V U : VV} (hp : 0 ≤ V 10 4 ∧ V 10 4 ≤ 3) (hl : 0 ≤ V 1 9 ∧ V 1 9 ≤ 3) (e17 : U 62 17 = V 10 4) (e8 : U 62 8 = V 1 9) (e11 : ∀ p : Nat, (p : Int) < V 10 4 → U 71 p = V 11 p) (e7 : ∀ l : Nat, (l : Int) < V 1 9 → U 66 l = V 7 l) : ∀ (k n : Nat) (l : Nat), V 1 9 - (l : Int) ≤ (k : Int) → k < n → (l : Int) ≤ V 1 9 → (∀ i : Nat, i < l → ∃ p : Nat, (p : Int) < V 10 4 ∧ V 11 p = V 7 i) → Sm (f_Mo_hasPlants_1 n U (l : Int)) (fun q => (q = 1 ∧ KIN V) ∨ (q = 0 ∧ ¬ KIN V)) := by
  intro k
  induction k with
  | zero =>
    intro n l e1 e2 e3 q
    cases n with
    | zero => omega
    | succ n =>
      show Sm (if (l : Int) < U 62 8 then _ else some 1) _
      exact Sm.neg (by omega) (Sm.ok (Or.inl ⟨rfl, fun i hi => q i (by omega)⟩))
  | succ k ih =>
    intro n l e1 e2 e3 q
    cases n with
    | zero => omega
    | succ n =>
      show Sm (if (l : Int) < U 62 8 then f_Mo_hasPlants_3 (f_Mo_hasPlants_1 n) FU U (l : Int) 0 0 else some 1) _
      refine Sm.ite (fun g => ?_) (fun g => Sm.ok (Or.inl ⟨rfl, fun i hi => q i (by omega)⟩))
      refine hp3 (l := l) hp e17 e11 (by omega) (e7 l (by omega)) (fun h => ?_) (fun h => Sm.ok (Or.inr ⟨rfl, fun kin => ?_⟩)) 3 FU 0 0 (by omega) (by decide) (by omega) (Or.inl ⟨rfl, fun i hi => by omega⟩)
      · rw [show (l : Int) + 1 = ((l + 1 : Nat) : Int) by omega]
        refine ih n (l + 1) (by omega) (by omega) (by omega) (fun i hi => ?_)
        by_cases e : i = l
        · subst e; exact h
        · exact q i (by omega)
      · obtain ⟨p, p1, p2⟩ := kin l (by omega)
        exact h p p1 p2
theorem hasPl {V U : VV} (s : SETR V U) : Sm (f_Mo_hasPlants U) (fun q => (q = 1 ∧ KIN V) ∨ (q = 0 ∧ ¬ KIN V)) := by
  obtain ⟨s1, s2, s3, -⟩ := s
  obtain ⟨a1, a2, a3, a4, a5⟩ := s3
  exact hp1 a2 s1.1.2.1 a1 s2.2.1 (fun p hp => (a5 p hp).1.1) (fun l hl => (s2.2.2.2.2.2.2.2.2 l hl).2) 3 FU 0 (by have := s1.1.2.1; omega) (by decide) (by have := s1.1.2.1; omega) (fun i hi => by omega)
