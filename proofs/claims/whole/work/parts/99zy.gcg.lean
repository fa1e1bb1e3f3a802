/-! what holds between two calls hangs on the class's cells of the one, the reference's of the other -/
theorem G.cg {c : Int} {V U W U2 : VV} {h : HP} (g : G c V h U) (w : ∀ i, (i ≤ 61 ∨ 123 ≤ i) → W i = V i) (u : ∀ i, 62 ≤ i → i ≤ 122 → U2 i = U i) : G c W h U2 := by
  have tp := g.2.2.2.2.2.1
  have g2 : G (c + 1) W h U2 := g.inn (W := W) (U2 := U2) (fun i hi => w i (by omega)) (by rw [w 0 (by omega)]) (by rw [w 18 (by omega)]) (by rw [w 18 (by omega)]) (by rw [w 26 (by omega)]) (fun k hk => by rw [u 62 (by omega) (by omega)]) (fun i hi => u i (by omega) (by omega)) (fun i a b k hk => by rw [u i (by omega) (by omega)]) (fun k hk => by rw [u 118 (by omega) (by omega), u 119 (by omega) (by omega)]; exact ⟨rfl, rfl⟩) (by
    unfold TAPS
    rw [w 16 (by omega), w 17 (by omega), u 62 (by omega) (by omega), u 80 (by omega) (by omega)]
    exact tp) (by
    rw [w 0 (by omega), u 62 (by omega) (by omega)]
    exact g.2.2.2.2.2.2.1)
  exact ⟨g2.1, by rw [w 46 (by omega)]; exact g.2.1, g2.2.2⟩
theorem G.hok {c : Int} {V U : VV} {h : HP} (g : G c V h U) : HOK h := g.1.1.1
/-- one call of the law, the two sides one after the other in one memory -/
def STEP (c : Int) (h : HP) (A : Option (VV × Int)) (B : VV → Option (VV × Int)) : Prop := ∃ q z, A = some q ∧ B q.1 = some z ∧ q.2 = z.2 ∧ G (c + 1) z.1 h z.1
theorem step3 {c : Int} {V : VV} {h : HP} {A : Option (VV × Int)} {B : VV → Option (VV × Int)} (g : G c V h V) (T : ∀ U, G c V h U → CA3 c h A (B U)) (frA : ∀ q, A = some q → ∀ i, 62 ≤ i → i ≤ 122 → q.1 i = V i) (frB : ∀ U z, B U = some z → ∀ i, (i ≤ 61 ∨ 123 ≤ i) → z.1 i = U i) : STEP c h A B := by
  obtain ⟨q, z, eq, ez, -, -⟩ := T V g
  have g2 : G c V h q.1 := g.cg (fun _ _ => rfl) (frA q eq)
  obtain ⟨q', z', eq', ez', e, g3⟩ := T q.1 g2
  rw [eq] at eq'
  cases eq'
  exact ⟨q, z', eq, ez', e, g3.cg (frB q.1 z' ez') (fun _ _ _ => rfl)⟩
def STEPH (c : Int) (A : Option ((VV × HP) × Int)) (B : VV → Option (VV × Int)) : Prop := ∃ q z, A = some q ∧ B q.1.1 = some z ∧ q.2 = z.2 ∧ G (c + 1) z.1 q.1.2 z.1
theorem stepH {c : Int} {V : VV} {h : HP} {A : Option ((VV × HP) × Int)} {B : VV → Option (VV × Int)} (g : G c V h V) (T : ∀ U, G c V h U → CA c A (B U)) (frA : ∀ q, A = some q → ∀ i, 62 ≤ i → i ≤ 122 → q.1.1 i = V i) (frB : ∀ U z, B U = some z → ∀ i, (i ≤ 61 ∨ 123 ≤ i) → z.1 i = U i) : STEPH c A B := by
  obtain ⟨q, z, eq, ez, -, -⟩ := T V g
  have g2 : G c V h q.1.1 := g.cg (fun _ _ => rfl) (frA q eq)
  obtain ⟨q', z', eq', ez', e, g3⟩ := T q.1.1 g2
  rw [eq] at eq'
  cases eq'
  exact ⟨q, z', eq, ez', e, g3.cg (frB q.1.1 z' ez') (fun _ _ _ => rfl)⟩
theorem step2 {c : Int} {V : VV} {h : HP} {A : VV × Int} {B : VV → VV × Int} (g : G c V h V) (T : ∀ U, G c V h U → CA2 c h A (B U)) (frA : ∀ i, 62 ≤ i → i ≤ 122 → A.1 i = V i) (frB : ∀ U i, (i ≤ 61 ∨ 123 ≤ i) → (B U).1 i = U i) : A.2 = (B A.1).2 ∧ G (c + 1) (B A.1).1 h (B A.1).1 := by
  have g2 : G c V h A.1 := g.cg (fun _ _ => rfl) frA
  obtain ⟨e, g3⟩ := T A.1 g2
  exact ⟨e, g3.cg (frB A.1) (fun _ _ _ => rfl)⟩
def STEP0 (c : Int) (V : VV) (h : HP) (A : Option Int) (B : VV → Option (VV × Int)) : Prop := ∃ q z, A = some q ∧ B V = some z ∧ q = z.2 ∧ G (c + 1) z.1 h z.1
theorem step0 {c : Int} {V : VV} {h : HP} {A : Option Int} {B : VV → Option (VV × Int)} (g : G c V h V) (T : CA0 c V h A (B V)) (frB : ∀ U z, B U = some z → ∀ i, (i ≤ 61 ∨ 123 ≤ i) → z.1 i = U i) : STEP0 c V h A B := by
  obtain ⟨q, z, eq, ez, e, g3⟩ := T
  exact ⟨q, z, eq, ez, e, g3.cg (frB V z ez) (fun _ _ _ => rfl)⟩
