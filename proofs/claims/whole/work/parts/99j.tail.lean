/-! the end of a clause -/
theorem obb {α β γ : Type} {a : Option α} {f : α → Option β} {g : β → Option γ} : Option.bind (Option.bind a f) g = Option.bind a (fun x => Option.bind (f x) g) := by cases a <;> rfl
theorem ob_ite {α β : Type} {c : Prop} [Decidable c] {x y : Option α} {g : α → Option β} : Option.bind (if c then x else y) g = if c then Option.bind x g else Option.bind y g := by split <;> rfl
theorem setV_na {V : VV} {id n : Nat} {i x : Int} {j : Nat} (h : j ≠ id) : setV V id n i x j = V j := by
  unfold setV
  split
  · exact up_na _ _ _ h
  · rfl
def FHc (v2 : Int) (V0 V : VV) : Prop := (∀ i, i ≠ 16 → i ≠ 18 → ¬ (v2 ≠ 0 ∧ 19 ≤ i ∧ i ≤ 23) → V i = V0 i) ∧ V 16 1 = V0 16 1 ∧ ∀ c, c ≠ 8 → c ≠ 9 → V 18 c = V0 18 c
def FHm (U0 U : VV) : Prop := (∀ i, i ≠ 62 → ¬ (81 ≤ i ∧ i ≤ 85) → U i = U0 i) ∧ (∀ c, ¬ (43 ≤ c ∧ c ≤ 47) → c ≠ 50 → c ≠ 51 → c ≠ 57 → U 62 c = U0 62 c) ∧ ∀ i, 81 ≤ i → i ≤ 85 → ∀ k, k < 40 → U i k = U0 i k
theorem FHc.cf {v2 : Int} {V0 V W : VV} (h : FHc v2 V0 V) (c : CF 16 V W) : FHc v2 V0 W := ⟨fun i a d e => (c.1 i a).trans (h.1 i a d e), c.2.trans h.2.1, fun k a d => by rw [c.1 18 (by omega)]; exact h.2.2 k a d⟩
theorem FHm.mf2 {U0 U X : VV} (h : FHm U0 U) (m : MF2 U X) : FHm U0 X := ⟨fun i a d => (m.1 i a).trans (h.1 i a d), fun c a d e f => (m.2 c a f).trans (h.2.1 c a d e f), fun i a d k hk => by rw [m.1 i (by omega)]; exact h.2.2 i a d k hk⟩
theorem FHm.row {U0 U : VV} {i k : Nat} {x : Int} (h : FHm U0 U) (hi : 81 ≤ i ∧ i ≤ 85) (hk : 40 ≤ k) : FHm U0 (up U i k x) := by
  refine ⟨fun j a d => by rw [up_na _ _ _ (by omega)]; exact h.1 j a d, fun c a d e f => by rw [up_na _ _ _ (by omega)]; exact h.2.1 c a d e f, fun j a d m hm => ?_⟩
  rw [up_ap]
  split
  · rw [if_neg (by omega)]; exact h.2.2 j a d m hm
  · exact h.2.2 j a d m hm
theorem FHm.c62 {U0 U : VV} {c : Nat} {x : Int} (h : FHm U0 U) (hc : c = 50 ∨ c = 51 ∨ c = 57) : FHm U0 (up U 62 c x) := ⟨fun j a d => by rw [up_na _ _ _ a]; exact h.1 j a d, fun d a e f g => by rw [up_nf _ _ (by omega)]; exact h.2.1 d a e f g, fun j a d m hm => by rw [up_na _ _ _ (by omega)]; exact h.2.2 j a d m hm⟩
/-- what a clause says -/
def VALP (k p4 p5 p6 : Int) (X : VV) (m : Nat) : Prop := X 81 (40 + m) = k + 1 ∧ ((k = 1 ∨ k = 2) → p4 = X 83 (40 + m) ∧ 0 ≤ p4 ∧ p4 ≤ 2) ∧ (k = 1 → p5 = X 85 (40 + m) ∧ p6 = X 84 (40 + m) ∧ 0 ≤ p5 ∧ p5 ≤ 4319 ∧ 1 ≤ p6 ∧ p6 ≤ 120) ∧ ((k = 2 ∨ k = 3 ∨ k = 4) → p5 = X 84 (40 + m) ∧ p6 = X 85 (40 + m) ∧ 0 ≤ p5 ∧ p5 ≤ p6 ∧ p6 ≤ 4319)
def ROWR (V X : VV) (i : Nat) : Prop := (0 ≤ V 19 i ∧ V 19 i ≤ 4) ∧ VALP (V 19 i) (V 21 i) (V 22 i) (V 23 i) X i ∧ (1 ≤ V 19 i → V 20 i = X 82 (40 + i)) ∧ -1 ≤ X 82 (40 + i) ∧ X 82 (40 + i) ≤ 2
theorem VALP.fr {k p4 p5 p6 : Int} {X Y : VV} {m : Nat} (h : VALP k p4 p5 p6 X m) (e : ∀ i, i = 81 ∨ i = 83 ∨ i = 84 ∨ i = 85 → Y i (40 + m) = X i (40 + m)) : VALP k p4 p5 p6 Y m := by
  unfold VALP
  rw [e 81 (by omega), e 83 (by omega), e 84 (by omega), e 85 (by omega)]
  exact h
theorem ROWR.fr {V X W Y : VV} {i : Nat} (h : ROWR V X i) (w : ∀ r, 19 ≤ r → r ≤ 23 → W r i = V r i) (e : ∀ r, 81 ≤ r → r ≤ 85 → Y r (40 + i) = X r (40 + i)) : ROWR W Y i := by
  unfold ROWR VALP at *
  rw [w 19 (by omega) (by omega), w 20 (by omega) (by omega), w 21 (by omega) (by omega), w 22 (by omega) (by omega), w 23 (by omega) (by omega), e 81 (by omega) (by omega), e 82 (by omega) (by omega), e 83 (by omega) (by omega), e 84 (by omega) (by omega), e 85 (by omega) (by omega)]
  exact h
def INVH (v2 : Int) (b : Nat → Int) (sz : Nat) (V0 U0 V U : VV) (m : Nat) : Prop := AT 16 17 400 b sz V U ∧ V 16 4 = 0 ∧ (V 18 8 = m ∧ U 62 50 = m ∧ m ≤ 40) ∧ (V 18 9 = U 62 51 ∧ 0 ≤ V 18 9 ∧ V 18 9 ≤ 3) ∧ FHc v2 V0 V ∧ FHm U0 U ∧ (v2 ≠ 0 → ∀ i : Nat, i < m → ROWR V U i)
def DPost (v2 : Int) (V0 U0 : VV) (W : VV) (z : VV × Int) : Prop := z.2 ≠ 0 ∧ DEAD 16 z.2 (z.1 62 44) W ∧ FHc v2 V0 W ∧ FHm U0 z.1
def CPost (v2 : Int) (b : Nat → Int) (sz : Nat) (V0 U0 : VV) (m : Nat) (W : VV) (z : VV × Int) : Prop := (z.2 = 0 ∧ INVH v2 b sz V0 U0 W z.1 (m + 1)) ∨ DPost v2 V0 U0 W z
theorem cInl {v2 : Int} {b : Nat → Int} {sz : Nat} {V0 U0 W Y : VV} {m : Nat} (h : INVH v2 b sz V0 U0 W Y (m + 1)) : CPost v2 b sz V0 U0 m W (Y, 0) := Or.inl ⟨rfl, h⟩
theorem cInr {v2 : Int} {b : Nat → Int} {sz : Nat} {V0 U0 W Y : VV} {m : Nat} {c : Int} (c0 : c ≠ 0) (d : DEAD 16 c (Y 62 44) W) (fh : FHc v2 V0 W) (fm : FHm U0 Y) : CPost v2 b sz V0 U0 m W (Y, c) := Or.inr ⟨c0, d, fh, fm⟩
theorem dead_row {X : VV} {i k : Nat} {x : Int} (hi : i ≠ 62) : up X i k x 62 44 = X 62 44 := by rw [up_na _ _ _ (fun e => hi e.symm)]
def rest26 (V : VV) (v2 : Int) (v3 : Int) (v4 : Int) (v5 : Int) (v6 : Int) : Option VV := if v2 = 0 then f_Hours_passClause_33 V v3 else lt_ (setV V 19 40 (V 18 8) v3) (fun q3 => lt_ (setV q3 20 40 (q3 18 8) (w32 ((q3 18 9) - 1))) (fun q4 => lt_ (setV q4 21 40 (q4 18 8) v4) (fun q5 => lt_ (setV q5 22 40 (q5 18 8) v5) (fun q6 => lt_ (setV q6 23 40 (q6 18 8) v6) (fun q7 => f_Hours_passClause_33 q7 v3)))))
theorem p26_eq {V : VV} {v2 v3 v4 v5 v6 : Int} : f_Hours_passClause_26 V v2 v3 v4 v5 v6 = Option.bind (f_Tape_passSign 16 17 400 V 59) (fun q1 => rest26 q1 v2 v3 v4 v5 v6) := rfl
theorem restD (V : VV) (v2 v3 v4 v5 v6 : Int) : Sm (rest26 V v2 v3 v4 v5 v6) (fun W => (∀ i, i ≠ 18 → ¬ (v2 ≠ 0 ∧ 19 ≤ i ∧ i ≤ 23) → W i = V i) ∧ ∀ c, c ≠ 8 → c ≠ 9 → W 18 c = V 18 c) := by
  unfold rest26 f_Hours_passClause_33
  refine Sm.ite (fun g => ?_) (fun g => ?_)
  · exact Sm.ok ⟨fun i a _ => by rw [up_na _ _ _ a, up_na _ _ _ a], fun c a d => by rw [up_nf _ _ d, up_nf _ _ a]⟩
  · refine Sm.lt0 (Sm.lt0 (Sm.lt0 (Sm.lt0 (Sm.lt0 ?_))))
    refine Sm.ok ⟨fun i a d => ?_, fun c a d => ?_⟩
    · have : ¬ (19 ≤ i ∧ i ≤ 23) := fun x => d ⟨g, x⟩
      rw [up_na _ _ _ a, up_na _ _ _ a, setV_na (by omega), setV_na (by omega), setV_na (by omega), setV_na (by omega), setV_na (by omega)]
    · rw [up_nf _ _ d, up_nf _ _ a, setV_na (by omega), setV_na (by omega), setV_na (by omega), setV_na (by omega), setV_na (by omega)]
theorem FHc.rest {v2 : Int} {V0 V W : VV} (h : FHc v2 V0 V) (r : (∀ i, i ≠ 18 → ¬ (v2 ≠ 0 ∧ 19 ≤ i ∧ i ≤ 23) → W i = V i) ∧ ∀ c, c ≠ 8 → c ≠ 9 → W 18 c = V 18 c) : FHc v2 V0 W := ⟨fun i a d e => (r.1 i d e).trans (h.1 i a d e), by rw [r.1 16 (by omega) (by omega)]; exact h.2.1, fun c a d => (r.2 c a d).trans (h.2.2 c a d)⟩
theorem tail0 {v2 : Int} {b : Nat → Int} {sz : Nat} {V0 U0 V X : VV} {m : Nat} {c k p4 p5 p6 : Int} (d : DEAD 16 c (X 62 44) V) (fh : FHc v2 V0 V) (fm : FHm U0 X) (hm : m < 40) : Two (f_Hours_passClause_26 V v2 k p4 p5 p6) (f_Mo_clause_20 X (40 + (m : Int)) c) (CPost v2 b sz V0 U0 m) := by
  obtain ⟨d1, d2, d3⟩ := d
  rw [p26_eq, signD (by rw [d1]; exact d2), obs]
  unfold f_Mo_clause_20
  rw [if_pos (by omega), if_neg d2, show (40 + (m : Int)).toNat = 40 + m by omega]
  obtain ⟨W, eW, r⟩ := restD V v2 k p4 p5 p6
  rw [eW]
  have r16 := r.1 16 (by omega) (by omega)
  refine Two.ok (cInr d2 ⟨by rw [r16]; exact d1, d2, ?_⟩ (fh.rest r) (fm.row (by omega) (by omega)))
  rw [r16, d3, dead_row (by omega)]
theorem tail1 {v2 : Int} {b : Nat → Int} {sz : Nat} {V0 U0 V X : VV} {m : Nat} {w k p4 p5 p6 : Int} (a : AT 16 17 400 b sz V X) (h : V 16 4 = 0) (m1 : V 18 8 = m) (m2 : X 62 50 = m) (hm : m < 40) (w1 : V 18 9 = w) (w2 : X 62 51 = w + (if k = 0 then 1 else 0)) (w3 : 0 ≤ w ∧ w ≤ 3 ∧ X 62 51 ≤ 3) (fh : FHc v2 V0 V) (fm : FHm U0 X) (vp : VALP k p4 p5 p6 X m) (hk : 0 ≤ k ∧ k ≤ 4) (rw_ : v2 ≠ 0 → ∀ i : Nat, i < m → ROWR V X i) : Two (f_Hours_passClause_26 V v2 k p4 p5 p6) (f_Mo_clause_20 X (40 + (m : Int)) 0) (CPost v2 b sz V0 U0 m) := by
  rw [p26_eq]
  unfold f_Mo_clause_20
  rw [if_pos (by omega), if_pos rfl, show (40 + (m : Int)).toNat = 40 + m by omega]
  unfold f_Tape_passSign f_Tape_passSign_6 lt_
  have x51 : -1 ≤ X 62 51 - 1 ∧ X 62 51 - 1 ≤ 2 := by
    have : (if k = 0 then 1 else 0 : Int) = 0 ∨ (if k = 0 then 1 else 0 : Int) = 1 := by split <;> omega
    omega
  rw [sound1 h, if_neg (by omega), a.sign (x := 59) (by omega), m2, w32_id (x := X 62 51 - 1) (by omega) (by omega), w32_id (x := (m : Int) + 1) (by omega) (by omega)]
  by_cases g : X 62 45 = 59
  · rw [if_pos g, if_neg (by omega), if_pos g, obb]
    have a2 : AT 16 17 400 b sz V (up (up X 82 (40 + m) (X 62 51 - 1)) 62 50 ((m : Int) + 1)) := a.fr (fun _ _ => rfl) rfl (fun c hc => by rw [up_nf _ _ (by omega), up_na _ _ _ (by omega)]) (by rw [up_na _ _ _ (by omega), up_na _ _ _ (by omega)])
    have fm2 : FHm U0 (up (up X 82 (40 + m) (X 62 51 - 1)) 62 50 ((m : Int) + 1)) := (fm.row (by omega) (by omega)).c62 (by omega)
    have y82 : (up (up X 82 (40 + m) (X 62 51 - 1)) 62 50 ((m : Int) + 1)) 82 (40 + m) = X 62 51 - 1 := by rw [up_na _ _ _ (by omega), up_eq]
    have yr : ∀ r i : Nat, r ≠ 62 → (r ≠ 82 ∨ i ≠ 40 + m) → (up (up X 82 (40 + m) (X 62 51 - 1)) 62 50 ((m : Int) + 1)) r i = X r i := fun r i h1 h2 => by
      rw [up_na _ _ _ h1, up_ap]
      split
      · rw [if_neg (by omega)]
      · rfl
    have y50 : (up (up X 82 (40 + m) (X 62 51 - 1)) 62 50 ((m : Int) + 1)) 62 50 = (m : Int) + 1 := by rw [up_eq]
    have y51 : (up (up X 82 (40 + m) (X 62 51 - 1)) 62 50 ((m : Int) + 1)) 62 51 = X 62 51 := by rw [up_nf _ _ (by omega), up_na _ _ _ (by omega)]
    generalize up (up X 82 (40 + m) (X 62 51 - 1)) 62 50 ((m : Int) + 1) = X2 at *
    refine Two.bind2 a2.next (fun W Y hW => ?_)
    obtain ⟨n1, n2, n3⟩ := hW
    rw [obs]
    have W18 := n2.1 18 (by omega)
    have Y82 : ∀ r i : Nat, r ≠ 62 → Y r i = X2 r i := fun r i hr => by rw [n3.1 r hr]
    have W4 : W 16 4 = 0 := by rw [n2.2 4 (by omega) (by omega) (by omega) (by omega)]; exact h
    have fhW : FHc v2 V0 W := fh.cf n2.cf
    have fmY : FHm U0 Y := fm2.mf2 n3.mf2
    have Y50 : Y 62 50 = (m : Int) + 1 := by rw [n3.2 50 (by omega)]; exact y50
    have Y51 : Y 62 51 = X 62 51 := by rw [n3.2 51 (by omega)]; exact y51
    have Yr : ∀ r i : Nat, 81 ≤ r → r ≤ 85 → (r ≠ 82 ∨ i ≠ 40 + m) → Y r i = X r i := fun r i h1 h2 h3 => (Y82 r i (by omega)).trans (yr r i (by omega) h3)
    have Ym : Y 82 (40 + m) = X 62 51 - 1 := (Y82 82 _ (by omega)).trans y82
    unfold rest26 f_Hours_passClause_33 lt_
    by_cases hv : v2 = 0
    · rw [if_pos hv]
      refine Two.ok (cInl ⟨n1.fr (fun c _ => by rw [up_na _ _ _ (by omega), up_na _ _ _ (by omega)]) (by rw [up_na _ _ _ (by omega), up_na _ _ _ (by omega)]) (fun _ _ => rfl) rfl, by rw [up_na _ _ _ (by omega), up_na _ _ _ (by omega)]; exact W4, ⟨?_, by rw [Y50]; omega, by omega⟩, ?_, ?_, fmY, fun x => absurd hv x⟩)
      · rw [up_nf _ _ (by omega), up_eq, W18, m1, w32_id (by omega) (by omega)]; omega
      · have e9 : (up W 18 8 (w32 (W 18 8 + 1))) 18 9 = w := by rw [up_nf _ _ (by omega), W18]; exact w1
        rw [up_eq, W18, w1, w32_id (x := w + (if k = 0 then 1 else 0)) (by omega) (by omega), Y51]
        omega
      · exact fhW.rest ⟨fun i x _ => by rw [up_na _ _ _ x, up_na _ _ _ x], fun c x y => by rw [up_nf _ _ y, up_nf _ _ x]⟩
    · rw [if_neg hv]
      dsimp only
      have s18 : ∀ (Z : VV) (r : Nat) (i x : Int), r ≠ 18 → setV Z r 40 i x 18 = Z 18 := fun Z r i x hr => setV_na (fun e => hr e.symm)
      rw [s18 _ 23 _ _ (by omega), s18 _ 22 _ _ (by omega), s18 _ 21 _ _ (by omega), s18 _ 20 _ _ (by omega), s18 _ 19 _ _ (by omega), W18, m1, w1, w32_id (x := w - 1) (by omega) (by omega), w32_id (x := (m : Int) + 1) (by omega) (by omega), w32_id (x := w + (if k = 0 then 1 else 0)) (by omega) (by omega)]
      rw [setV_in (V := W) (by omega) (by omega), setV_in (id := 20) (by omega) (by omega), setV_in (id := 21) (by omega) (by omega), setV_in (id := 22) (by omega) (by omega), setV_in (id := 23) (by omega) (by omega), Int.toNat_natCast]
      have q0 : ∀ i, i ≠ 18 → ¬ (19 ≤ i ∧ i ≤ 23) → (up (up (up (up (up (up (up W 19 m k) 20 m (w - 1)) 21 m p4) 22 m p5) 23 m p6) 18 8 ((m : Int) + 1)) 18 9 (w + (if k = 0 then 1 else 0))) i = W i := fun i x y => by
        rw [up_na _ _ _ x, up_na _ _ _ x, up_na _ _ _ (by omega), up_na _ _ _ (by omega), up_na _ _ _ (by omega), up_na _ _ _ (by omega), up_na _ _ _ (by omega)]
      have q18 : ∀ c, c ≠ 8 → c ≠ 9 → (up (up (up (up (up (up (up W 19 m k) 20 m (w - 1)) 21 m p4) 22 m p5) 23 m p6) 18 8 ((m : Int) + 1)) 18 9 (w + (if k = 0 then 1 else 0))) 18 c = W 18 c := fun c x y => by
        rw [up_nf _ _ y, up_nf _ _ x, up_na _ _ _ (by omega), up_na _ _ _ (by omega), up_na _ _ _ (by omega), up_na _ _ _ (by omega), up_na _ _ _ (by omega)]
      have q8 : (up (up (up (up (up (up (up W 19 m k) 20 m (w - 1)) 21 m p4) 22 m p5) 23 m p6) 18 8 ((m : Int) + 1)) 18 9 (w + (if k = 0 then 1 else 0))) 18 8 = (m : Int) + 1 := by rw [up_nf _ _ (by omega), up_eq]
      have q9 : (up (up (up (up (up (up (up W 19 m k) 20 m (w - 1)) 21 m p4) 22 m p5) 23 m p6) 18 8 ((m : Int) + 1)) 18 9 (w + (if k = 0 then 1 else 0))) 18 9 = w + (if k = 0 then 1 else 0) := by rw [up_eq]
      have r19 : (up (up (up (up (up (up (up W 19 m k) 20 m (w - 1)) 21 m p4) 22 m p5) 23 m p6) 18 8 ((m : Int) + 1)) 18 9 (w + (if k = 0 then 1 else 0))) 19 m = k := by
        rw [up_na _ _ _ (by omega), up_na _ _ _ (by omega), up_na _ _ _ (by omega), up_na _ _ _ (by omega), up_na _ _ _ (by omega), up_na _ _ _ (by omega), up_eq]
      have r20 : (up (up (up (up (up (up (up W 19 m k) 20 m (w - 1)) 21 m p4) 22 m p5) 23 m p6) 18 8 ((m : Int) + 1)) 18 9 (w + (if k = 0 then 1 else 0))) 20 m = w - 1 := by
        rw [up_na _ _ _ (by omega), up_na _ _ _ (by omega), up_na _ _ _ (by omega), up_na _ _ _ (by omega), up_na _ _ _ (by omega), up_eq]
      have r21 : (up (up (up (up (up (up (up W 19 m k) 20 m (w - 1)) 21 m p4) 22 m p5) 23 m p6) 18 8 ((m : Int) + 1)) 18 9 (w + (if k = 0 then 1 else 0))) 21 m = p4 := by
        rw [up_na _ _ _ (by omega), up_na _ _ _ (by omega), up_na _ _ _ (by omega), up_na _ _ _ (by omega), up_eq]
      have r22 : (up (up (up (up (up (up (up W 19 m k) 20 m (w - 1)) 21 m p4) 22 m p5) 23 m p6) 18 8 ((m : Int) + 1)) 18 9 (w + (if k = 0 then 1 else 0))) 22 m = p5 := by
        rw [up_na _ _ _ (by omega), up_na _ _ _ (by omega), up_na _ _ _ (by omega), up_eq]
      have r23 : (up (up (up (up (up (up (up W 19 m k) 20 m (w - 1)) 21 m p4) 22 m p5) 23 m p6) 18 8 ((m : Int) + 1)) 18 9 (w + (if k = 0 then 1 else 0))) 23 m = p6 := by
        rw [up_na _ _ _ (by omega), up_na _ _ _ (by omega), up_eq]
      have ri : ∀ r i : Nat, 19 ≤ r → r ≤ 23 → i ≠ m → (up (up (up (up (up (up (up W 19 m k) 20 m (w - 1)) 21 m p4) 22 m p5) 23 m p6) 18 8 ((m : Int) + 1)) 18 9 (w + (if k = 0 then 1 else 0))) r i = W r i := fun r i x y z => by
        rw [up_ap, if_neg (by omega), up_ap, if_neg (by omega), up_ap]
        simp only [up_ap, z, if_false, ite_self]
      generalize up (up (up (up (up (up (up W 19 m k) 20 m (w - 1)) 21 m p4) 22 m p5) 23 m p6) 18 8 ((m : Int) + 1)) 18 9 (w + (if k = 0 then 1 else 0)) = Z at *
      refine Two.ok (cInl ⟨n1.fr (fun c _ => by rw [q0 16 (by omega) (by omega)]) (q0 17 (by omega) (by omega)) (fun _ _ => rfl) rfl, by rw [q0 16 (by omega) (by omega)]; exact W4, ⟨by rw [q8]; omega, by rw [Y50]; omega, by omega⟩, ?_, ?_, fmY, fun _ i hi => ?_⟩)
      · rw [q9, Y51]; omega
      · exact fhW.rest ⟨fun i x y => q0 i x (fun z => y ⟨hv, z⟩), q18⟩
      · by_cases ei : i = m
        · subst ei
          unfold ROWR
          rw [r19, r20, r21, r22, r23]
          refine ⟨hk, vp.fr (fun r hr => Yr r _ (by omega) (by omega) (by omega)), fun k1 => ?_, by rw [Ym]; exact x51⟩
          rw [Ym, w2, if_neg (by omega)]
          omega
        · exact (rw_ hv i (by omega)).fr (fun r x y => by rw [ri r i x y ei, n2.1 r (by omega)]) (fun r x y => Yr r _ x y (by omega))
  · obtain ⟨d1, d2⟩ := a.fail h (c := 1) (by omega)
    rw [if_neg g, if_pos rfl, if_neg g, obs]
    obtain ⟨W, eW, r⟩ := restD (f_Tape_fail 16 17 400 V 1) v2 k p4 p5 p6
    rw [eW]
    have r16 := r.1 16 (by omega) (by omega)
    refine Two.ok (cInr (by omega) ⟨by rw [r16]; exact d1.1, by omega, ?_⟩ ((fh.cf d2).rest r) (fm.row (by omega) (by omega)))
    rw [r16, d1.2.2, dead_row (by omega)]
