/-! reading on: what both sides give back -/
def ltV (V : VV) (x : Int) : Int := if x = 0 then V 25 1 else if x = 1 then V 25 2 else if x = 2 then V 25 3 else V 25 4
def GC (l : List (Int × Int)) : Prop := ∀ e, e ∈ l → (0 ≤ e.1 ∧ e.1 ≤ 8) ∧ (e.1 = 0 → 0 ≤ e.2 ∧ e.2 ≤ 9999)
theorem GC.app {p q : List (Int × Int)} (h : GC p) (h2 : GC q) : GC (p ++ q) := fun e he => by
  rcases List.mem_append.mp he with x | x
  · exact h e x
  · exact h2 e x
theorem GC.nil : GC [] := fun e he => by cases he
theorem GC.one {c x : Int} (h : 0 ≤ c ∧ c ≤ 8) (h2 : c = 0 → 0 ≤ x ∧ x ≤ 9999) : GC [(c, x)] := fun e he => by
  have : e = (c, x) := List.mem_singleton.mp he
  subst this
  exact ⟨h, h2⟩
theorem GC.rep (u : Nat) : GC (List.replicate u ((2 : Int), (0 : Int))) := fun e he => by
  have : e = ((2 : Int), (0 : Int)) := List.eq_of_mem_replicate he
  subst this
  exact ⟨⟨by decide, by decide⟩, fun h => absurd h (by decide)⟩
theorem GC.opm {ops : List Int} (h : ∀ a, a ∈ ops → 3 ≤ a ∧ a ≤ 8) : GC (opm ops) := fun e he => by
  obtain ⟨a, ha, rfl⟩ := List.mem_map.mp he
  have := h a ha
  exact ⟨⟨by dsimp only; omega, by dsimp only; omega⟩, fun x => by dsimp only at x; omega⟩
def VB (bd : Prop) (lt : Int → Int) (seg : List (Int × Int)) (ops : List Int) (v : Int) : Prop := GC seg ∧ (∀ a, a ∈ ops → 3 ≤ a ∧ a ≤ 8) ∧ (bd → VAL lt seg ops v ∧ -1000000000 ≤ v ∧ v ≤ 1000000000)
theorem VB.neg {bd : Prop} {lt : Int → Int} {seg : List (Int × Int)} {v : Int} (h : VB bd lt seg [] v) (u : Nat) : VB bd lt (seg ++ List.replicate u (2, 0)) [] (ngs u v) := by
  refine ⟨h.1.app (GC.rep u), h.2.1, fun hb => ?_⟩
  obtain ⟨a, l, m⟩ := h.2.2 hb
  refine ⟨fun s => ?_, ngs_bd ⟨l, m⟩ u⟩
  have e := a s
  rw [show opm [] = [] from rfl, List.append_nil] at e ⊢
  rw [runC_app, e, obs]
  exact runC_neg u v s
theorem VB.set {bd : Prop} {lt : Int → Int} {seg : List (Int × Int)} {ops : List Int} {v : Int} (h : VB bd lt seg ops v) : VB bd lt (seg ++ opm ops) [] v := ⟨h.1.app (GC.opm h.2.1), fun a ha => (by cases ha), fun hb => ⟨(h.2.2 hb).1.set, (h.2.2 hb).2⟩⟩
theorem VB.op {bd : Prop} {lt : Int → Int} {seg seg2 : List (Int × Int)} {ops2 : List Int} {v v2 c : Int} (h : VB bd lt seg [] v) (h2 : VB bd lt seg2 ops2 v2) (hc : 3 ≤ c ∧ c ≤ 8) : VB bd lt (seg ++ seg2) (ops2 ++ [c]) (opV c v v2) := by
  refine ⟨h.1.app h2.1, fun a ha => ?_, fun hb => ?_⟩
  · rcases List.mem_append.mp ha with x | x
    · exact h2.2.1 a x
    · have : a = c := List.mem_singleton.mp x
      omega
  · obtain ⟨a, l⟩ := h.2.2 hb
    obtain ⟨a2, l2⟩ := h2.2.2 hb
    exact ⟨a.op a2 hc.1, opV_bd l l2⟩
theorem ngs_abs (u : Nat) (v : Int) : (ngs u v).natAbs = v.natAbs := by
  induction u with
  | zero => rfl
  | succ u ih => show (-(ngs u v)).natAbs = _; rw [Int.natAbs_neg]; exact ih
abbrev KF := VV × Int → Option (VV × Int)
abbrev QF := VV × Int → VV × Int → Prop
/-- where a reading stands -/
def RSE (o ob on : Nat) (b : Nat → Int) (sz : Nat) (V0 U0 V X : VV) (L : List (Int × Int)) (p : List Int) (d want : Int) (n : Nat) : Prop := RST o ob on b sz V X L p d want ∧ CF o V0 V ∧ FX U0 X ∧ (sz : Int) + 2 ≤ n + V o 6
def DK (o : Nat) (V0 U0 : VV) (Q : QF) (F : KF) : Prop := ∀ (W Y : VV) (v c : Int), DEAD o c (Y 62 44) W → CF o V0 W → FX U0 Y → Two (F (W, v)) (some (Y, c)) Q
def AK1 (o ob on : Nat) (b : Nat → Int) (sz : Nat) (bd : Prop) (lt : Int → Int) (V0 U0 : VV) (Q : QF) (pos : Int) (L : List (Int × Int)) (rest : List Int) (d : Int) (u : Nat) (F : KF) : Prop := ∀ (W Y : VV) (seg : List (Int × Int)) (v : Int) (n : Nat), RSE o ob on b sz V0 U0 W Y (L ++ seg) rest d 1 n → VB bd lt seg [] (ngs u v) → pos < W o 6 → Two (F (W, v)) (f_Mo_readRate_1 n Y) Q
def AKn (o ob on : Nat) (b : Nat → Int) (sz : Nat) (bd : Prop) (lt : Int → Int) (V0 U0 : VV) (Q : QF) (lo : Int) (pos : Int) (L : List (Int × Int)) (rest : List Int) (d : Int) (F : KF) : Prop := ∀ (W Y : VV) (seg : List (Int × Int)) (ops : List Int) (v : Int) (n : Nat), RSE o ob on b sz V0 U0 W Y (L ++ seg) (ops ++ rest) d 1 n → (∀ a, a ∈ ops → lo ≤ a) → VB bd lt seg ops v → pos < W o 6 → (Y 62 45 ≠ 42 ∧ Y 62 45 ≠ 47) → (lo = 3 → Y 62 45 ≠ 43 ∧ Y 62 45 ≠ 45) → Two (F (W, v)) (f_Mo_readRate_1 n Y) Q
def OneP (o ob on : Nat) (b : Nat → Int) (sz : Nat) (bd : Prop) (lt : Int → Int) (V0 U0 : VV) (Q : QF) (C : VV → Int → Option (VV × Int)) (M : Int) : Prop := ∀ (F : KF) (V X : VV) (L : List (Int × Int)) (u : Nat) (rest : List Int) (d : Int) (n : Nat), M ≤ d → d ≤ 8 → (u : Int) ≤ d → (rest = [] ∨ ∃ a p, rest = a :: p ∧ a ≠ 2) → RSE o ob on b sz V0 U0 V X L (List.replicate u 2 ++ rest) d 0 n → DK o V0 U0 Q F → AK1 o ob on b sz bd lt V0 U0 Q (V o 6) L rest (d - u) u F → Two (Option.bind (C V d) F) (f_Mo_readRate_1 n X) Q
def RTOP (lo : Int) (rest : List Int) : Prop := rest = [] ∨ ∃ a p, rest = a :: p ∧ (20 ≤ a ∨ (a < lo ∧ 3 ≤ a))
def ManyP (o ob on : Nat) (b : Nat → Int) (sz : Nat) (bd : Prop) (lt : Int → Int) (V0 U0 : VV) (Q : QF) (lo : Int) (C : VV → Int → Option (VV × Int)) (M : Int) : Prop := ∀ (F : KF) (V X : VV) (L : List (Int × Int)) (rest : List Int) (d : Int) (n : Nat), M ≤ d → 0 ≤ d → d ≤ 8 → RTOP lo rest → RSE o ob on b sz V0 U0 V X L rest d 0 n → DK o V0 U0 Q F → AKn o ob on b sz bd lt V0 U0 Q lo (V o 6) L rest d F → Two (Option.bind (C V d) F) (f_Mo_readRate_1 n X) Q
theorem RTOP.n2 {lo : Int} {rest : List Int} (h : RTOP lo rest) : rest = [] ∨ ∃ a p, rest = a :: p ∧ a ≠ 2 := by
  rcases h with h | ⟨a, p, e, h⟩
  · exact Or.inl h
  · exact Or.inr ⟨a, p, e, by omega⟩
theorem RTOP.st {lo : Int} {rest : List Int} (h : RTOP lo rest) : rest = [] ∨ ∃ a p, rest = a :: p ∧ (20 ≤ a ∨ a < lo) := by
  rcases h with h | ⟨a, p, e, h⟩
  · exact Or.inl h
  · exact Or.inr ⟨a, p, e, by omega⟩
theorem FX.w {U X : VV} (h : FX U X) {k : Nat} {x : Int} (hk : 108 ≤ k ∧ k ≤ 111) : FX U (up X 62 k x) := ⟨fun r a b c d => by rw [up_na _ _ _ a]; exact h.1 r a b c d, fun c a d => by rw [up_nf _ _ (by omega)]; exact h.2.1 c a d, fun c hc => by rw [up_na _ _ _ (by omega), up_na _ _ _ (by omega)]; exact h.2.2 c hc⟩
theorem EM.w {U : VV} {L : List (Int × Int)} (e : EM U L) {k : Nat} {x : Int} (hk : k ≠ 108) : EM (up U 62 k x) L := e.cg (up_nf _ _ (by omega)) (up_na _ _ _ (by omega)) (up_na _ _ _ (by omega))
theorem FX.at {o ob on : Nat} {b : Nat → Int} {sz : Nat} {V U X : VV} (a : AT o ob on b sz V U) (f : ∀ r, r ≠ 62 → r ≠ 118 → r ≠ 119 → r ≠ 120 → X r = U r) (g : ∀ c, ¬ (108 ≤ c ∧ c ≤ 111) → X 62 c = U 62 c) : AT o ob on b sz V X := a.fr (fun _ _ => rfl) rfl (fun c hc => g c (by omega)) (f 80 (by omega) (by omega) (by omega) (by omega))
theorem RSE.n2 {o ob on : Nat} {b : Nat → Int} {sz : Nat} {V0 U0 V X : VV} {L : List (Int × Int)} {p : List Int} {d want : Int} {n : Nat} (r : RSE o ob on b sz V0 U0 V X L p d want n) : ∃ m, n = m + 1 := by
  have := r.1.1.pos
  have := r.2.2.2
  cases n with
  | zero => omega
  | succ m => exact ⟨m, rfl⟩
theorem RSE.len {o ob on : Nat} {b : Nat → Int} {sz : Nat} {V0 U0 V X : VV} {L : List (Int × Int)} {p : List Int} {d want : Int} {n : Nat} (r : RSE o ob on b sz V0 U0 V X L p d want n) : L.length + p.length ≤ 100 := by
  have h1 := r.1.1.pos
  have h2 := r.1.2.2.2.2.2.2
  omega
