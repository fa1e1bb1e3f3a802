/-! a run of the class beside a run of the reference: what holds between the two memories -/
def kE (i k : Nat) : Bool := match i with
  | 37 => Nat.beq k 6
  | 46 => Nat.beq k 8 || (Nat.ble 12 k && Nat.ble k 15)
  | _ => (Nat.ble 28 i && Nat.ble i 48) || Nat.ble 123 i
def kD (i k : Nat) : Bool := match i with
  | 62 => Nat.beq k 63 || (Nat.ble 72 k && Nat.ble k 80)
  | _ => Nat.ble 86 i && Nat.ble i 111
def CFr (V0 V : VV) : Prop := ∀ i k, kE i k = false → V i k = V0 i k
def MFr (U0 U : VV) : Prop := ∀ i k, kD i k = false → U i k = U0 i k
theorem CFr.rf {V : VV} : CFr V V := fun _ _ _ => rfl
theorem MFr.rf {V : VV} : MFr V V := fun _ _ _ => rfl
theorem CFr.up {V0 V : VV} {a b : Nat} {x : Int} (h : CFr V0 V) (hk : kE a b = true) : CFr V0 (up V a b x) := by
  intro i k e
  rw [up_ap]
  split
  · split
    · next h1 h2 => rw [h1, h2, hk] at e; cases e
    · exact h i k e
  · exact h i k e
theorem MFr.up {V0 V : VV} {a b : Nat} {x : Int} (h : MFr V0 V) (hk : kD a b = true) : MFr V0 (up V a b x) := by
  intro i k e
  rw [up_ap]
  split
  · split
    · next h1 h2 => rw [h1, h2, hk] at e; cases e
    · exact h i k e
  · exact h i k e
theorem CFr.row {V0 V : VV} (h : CFr V0 V) {i : Nat} (hi : ∀ k, kE i k = false) : V i = V0 i := by funext k; exact h i k (hi k)
theorem MFr.row {V0 V : VV} (h : MFr V0 V) {i : Nat} (hi : ∀ k, kD i k = false) : V i = V0 i := by funext k; exact h i k (hi k)
theorem MFr.mf {U0 U : VV} (h : MFr U0 U) : MF U0 U := by
  intro i k e
  refine h i k ?_
  unfold kM at e
  unfold kD
  split at e
  · next =>
    simp only [Bool.or_eq_false_iff] at e ⊢
    exact ⟨e.1.1.2, e.1.2⟩
  · next hi =>
    split
    · exact absurd rfl hi
    · simp only [Bool.or_eq_false_iff, Bool.and_eq_false_iff] at e ⊢
      obtain ⟨⟨⟨-, e1⟩, -⟩, -⟩ := e
      rcases e1 with e1 | e1
      · exact Or.inl e1
      · refine Or.inr ?_
        cases hb : Nat.ble i 111 with
        | false => rfl
        | true =>
          have := Nat.le_of_ble_eq_true hb
          rw [Nat.ble_eq_true_of_le (show i ≤ 117 by omega)] at e1; cases e1
/-- the hours agree, whatever else the memories hold -/
def HC (V0 V : VV) : Prop := ∀ i, 18 ≤ i → i ≤ 24 → V i = V0 i
def HM (U0 U : VV) : Prop := U 62 48 = U0 62 48 ∧ ∀ i, 81 ≤ i → i ≤ 85 → U i = U0 i
def HA (V0 U0 : VV) (w : Int) : Prop := ∀ V U : VV, HC V0 V → HM U0 U → ∀ t : Int, 0 ≤ t → t ≤ 4319 → f_Mo_isOpen U w t = some (f_Hours_isOpen V w t) ∧ ∀ p : Int, 0 ≤ p → p < 3 → f_Mo_isShut U w p t = some (f_Hours_isShut V w p t) ∧ ∃ m, 1 ≤ m ∧ m ≤ 120 ∧ f_Hours_haul V w p t = some m ∧ f_Mo_haulOf U w p t = some m
theorem CFr.hc {V0 V : VV} (h : CFr V0 V) : HC V0 V := by
  intro i h1 h2
  funext k
  refine h i k ?_
  have : i = 18 ∨ i = 19 ∨ i = 20 ∨ i = 21 ∨ i = 22 ∨ i = 23 ∨ i = 24 := by omega
  rcases this with rfl | rfl | rfl | rfl | rfl | rfl | rfl <;> rfl
theorem MFr.hm {U0 U : VV} (h : MFr U0 U) : HM U0 U := by
  refine ⟨h 62 48 rfl, fun i h1 h2 => ?_⟩
  funext k
  refine h i k ?_
  have : i = 81 ∨ i = 82 ∨ i = 83 ∨ i = 84 ∨ i = 85 := by omega
  rcases this with rfl | rfl | rfl | rfl | rfl <;> rfl
/-- plants, trucks, warmth: the settings agree -/
def SPl (V U : VV) : Prop := U 62 17 = V 10 4 ∧ (0 ≤ V 10 4 ∧ V 10 4 ≤ 3) ∧ U 62 23 = V 10 6 ∧ (5 ≤ V 10 6 ∧ V 10 6 ≤ 30) ∧ ∀ p : Nat, (p : Int) < V 10 4 → (U 71 p = V 11 p ∧ 0 ≤ V 11 p ∧ V 11 p ≤ 2) ∧ (U 72 p = V 12 p ∧ 1 ≤ V 12 p ∧ V 12 p ≤ 10) ∧ (U 73 p = V 13 p ∧ 10 ≤ V 13 p ∧ V 13 p ≤ 200) ∧ (U 74 p = V 14 p ∧ 1 ≤ V 14 p ∧ V 14 p ≤ 20)
def SWm (V U : VV) : Prop := WmOK V ∧ ∀ k : Nat, k < 9 → U 62 (24 + k) = V 15 k
/-- all that stands still in a run -/
def EN (V U : VV) : Prop := DR V ∧ SRoad V U ∧ SJobs V U ∧ 0 < nJ V ∧ SPl V U ∧ SWm V U ∧ (V 37 5 = U 62 22 ∧ 1 ≤ U 62 22 ∧ U 62 22 ≤ 16) ∧ (V 46 9 = V 37 4 ∧ U 62 91 = V 37 4) ∧ (U 62 92 = V 46 10 ∧ 1 ≤ V 46 10 ∧ V 46 10 ≤ 20) ∧ HA V U (V 37 4) ∧ ∀ l : Nat, (l : Int) < V 1 9 → ∃ p : Nat, (p : Int) < V 10 4 ∧ V 11 p = V 7 l
/-- trucks -/
def gTA (U0 V U : VV) : Prop := ∀ k : Nat, (k : Int) < U0 62 22 → V 42 k = U 86 k ∧ 0 ≤ U 86 k ∧ U 86 k ≤ 5
def gTB (U0 V U : VV) : Prop := ∀ k : Nat, (k : Int) < U0 62 22 → U 86 k ≠ 0 → V 44 k = U 90 k ∧ (0 ≤ U 90 k ∧ U 90 k < U 62 72) ∧ U 101 (U 90 k).toNat = (k : Int) ∧ U 102 (U 90 k).toNat = U 89 k ∧ (0 ≤ U 89 k ∧ U 89 k < U0 62 17) ∧ U 108 (U 90 k).toNat = -1 ∧ (U 86 k = 3 → U 92 (U 89 k).toNat = (k : Int))
def gTC (U0 : VV) (τ : Nat → Int) (V U : VV) : Prop := ∀ k : Nat, (k : Int) < U0 62 22 → ((U 86 k = 1 ∨ U 86 k = 4) → V 43 k = U 87 k ∧ τ k ≤ U 87 k ∧ U 87 k ≤ 5000) ∧ ((U 86 k = 2 ∨ U 86 k = 5) → (0 ≤ V 43 k ∧ V 43 k < τ k) ∧ U 88 k < U 62 63)
def gTD (U0 V U : VV) : Prop := ∀ k k' : Nat, (k : Int) < U0 62 22 → (k' : Int) < U0 62 22 → (U 86 k = 2 ∨ U 86 k = 5) → (U 86 k' = 2 ∨ U 86 k' = 5) → (V 43 k < V 43 k' ∨ (V 43 k = V 43 k' ∧ k < k')) → U 88 k < U 88 k'
def gTE (t : Int) (U : VV) : Prop := 0 ≤ U 62 63 ∧ U 62 63 ≤ 16 * t
/-- plants -/
def gPA (U0 : VV) (ρ : Nat → Int) (V U : VV) : Prop := ∀ p : Nat, (p : Int) < U0 62 17 → V 38 p = U 91 p ∧ (0 ≤ U 91 p ∧ U 91 p ≤ 200) ∧ V 39 p = U 92 p ∧ (U 92 p = -1 ∨ ((0 ≤ U 92 p ∧ U 92 p < U0 62 22) ∧ U 86 (U 92 p).toNat = 3 ∧ U 89 (U 92 p).toNat = (p : Int) ∧ V 40 p = U 93 p ∧ ρ p ≤ U 93 p ∧ U 93 p ≤ 5000))
def cntS (U : VV) (p : Nat) (k : Nat) : Int := if (1 ≤ U 86 k ∧ U 86 k ≤ 3) ∧ U 89 k = (p : Int) then 1 else 0
def gPS (U0 V U : VV) : Prop := ∀ p : Nat, (p : Int) < U0 62 17 → V 41 p = sm (cntS U p) (U0 62 22).toNat
/-- loads -/
def gLA (V : VV) (h : HP) (U0 U : VV) : Prop := V 28 3 = U 62 72 ∧ (0 ≤ U 62 72 ∧ U 62 72 ≤ (ordN h : Int)) ∧ ∀ l : Nat, (l : Int) < U 62 72 → (∀ f : Nat, f < 9 → V h.1 (9 * l + f) = U (99 + f) l) ∧ (0 ≤ U 99 l ∧ U 99 l < U0 62 13) ∧ (1 ≤ U 100 l ∧ U 100 l ≤ 30) ∧ (-1 ≤ U 104 l ∧ U 104 l ≤ 4319)
def preL (V : VV) (h : HP) (U : VV) (n : Nat) : Int := sm (fun i => U 100 (V h.2.1 i).toNat) n
def busy (U : VV) (k : Nat) : Int := if U 86 k = 0 then 0 else 1
def gLO (U0 V : VV) (h : HP) (U : VV) : Prop := 0 ≤ V 28 2 ∧ 0 ≤ U 62 79 ∧ V 28 2 + U 62 79 + sm (busy U) (U0 62 22).toNat ≤ U 62 72 ∧ (∀ i : Nat, (i : Int) < V 28 2 → (0 ≤ V h.2.1 i ∧ V h.2.1 i < U 62 72) ∧ U 108 (V h.2.1 i).toNat = preL V h U i) ∧ (∀ l : Nat, (l : Int) < U 62 72 → U 108 l = -1 ∨ ∃ i : Nat, (i : Int) < V 28 2 ∧ V h.2.1 i = (l : Int)) ∧ preL V h U (V 28 2).toNat = U 62 73 + U 62 75 ∧ 0 ≤ U 62 73
/-- jobs -/
def pend (U : VV) (j : Nat) (k : Nat) : Int := if U 86 k ≠ 0 ∧ U 99 (U 90 k).toNat = (j : Int) then U 100 (U 90 k).toNat else 0
def gJO (U0 V U : VV) : Prop := (0 ≤ V 37 6 ∧ V 37 6 ≤ U0 62 13) ∧ (∀ j : Nat, (j : Int) < V 37 6 → U 94 j = U0 70 j) ∧ ∀ j : Nat, (j : Int) < U0 62 13 → V 45 j = U 94 j ∧ U 94 j = U 95 j + (if (j : Int) = U 62 74 then U 62 75 else 0) + sm (pend U j) (U0 62 22).toNat ∧ U 94 j ≤ U0 70 j
def gJL (U0 V U : VV) : Prop := V 46 12 = U 62 74 ∧ (0 ≤ U 62 74 ∧ U 62 74 ≤ U0 62 13) ∧ (∀ j : Nat, (j : Int) < U0 62 13 → U 95 j = if (j : Int) < U 62 74 then U0 70 j else if (j : Int) = U 62 74 then V 46 13 else 0) ∧ 0 ≤ V 46 13 ∧ (U 62 74 < U0 62 13 → V 46 13 < U0 70 (U 62 74).toNat) ∧ V 46 15 = U 62 75 ∧ 0 ≤ U 62 75 ∧ (U 62 74 = U0 62 13 → U 62 75 = 0 ∧ V 46 13 = 0) ∧ V 46 8 = if U 62 74 = U0 62 13 then 1 else 0
/-- what it comes to -/
def gSU (U0 : VV) (t : Int) (V U : VV) : Prop := V 47 0 = U 62 76 ∧ (0 ≤ U 62 76 ∧ U 62 76 ≤ t) ∧ V 47 3 = U 62 78 ∧ (-1 ≤ U 62 78 ∧ U 62 78 ≤ 4319) ∧ V 47 4 = U 62 79 ∧ V 47 5 = U 62 80 ∧ (0 ≤ U 62 80 ∧ U 62 80 ≤ 30 * U 62 79) ∧ U 62 73 ≤ 3744 * U 62 74 + V 46 13 ∧ (U 62 74 = U0 62 13 → V 47 1 = U 62 77 ∧ U 62 77 = U 97 (U 62 74 - 1).toNat)
def gCA (t : Int) (V U : VV) : Prop := (∀ j : Nat, (j : Int) < U 62 74 → V 32 j = U 97 j ∧ (0 ≤ U 97 j ∧ U 97 j ≤ t) ∧ V 33 j = U 98 j ∧ (0 ≤ U 98 j ∧ U 98 j ≤ 200) ∧ V 48 j = U 96 j ∧ (1 ≤ j → U 97 (j - 1) ≤ U 96 j ∧ U 96 j ≤ U 97 j)) ∧ (V 46 13 ≠ 0 → V 48 (U 62 74).toNat = U 96 (U 62 74).toNat ∧ U 96 (U 62 74).toNat ≤ t ∧ (1 ≤ U 62 74 → U 97 (U 62 74 - 1).toNat ≤ U 96 (U 62 74).toNat)) ∧ ((V 46 13 ≠ 0 ∨ U 62 75 ≠ 0) → V 46 14 = U 98 (U 62 74).toNat ∧ 0 ≤ U 98 (U 62 74).toNat ∧ U 98 (U 62 74).toNat ≤ 200)
def gKA (U0 V U : VV) : Prop := ∀ j : Nat, (j : Int) < U 62 74 → CoolK V j ∧ ∀ i : Nat, i ≤ 600 → U 109 (601 * j + i) = mnU U0 (U0 69 j) (U 98 j) i
/-- how many loads each truck had -/
def gGA (U0 : VV) (β t : Int) (U : VV) : Prop := ∃ A : Nat → Int, sm A (U0 62 22).toNat = U 62 72 ∧ ∀ k : Nat, (k : Int) < U0 62 22 → (0 ≤ A k ∧ A k ≤ 1080) ∧ (U 86 k = 0 → 4 * A k ≤ β) ∧ (U 86 k = 1 → 4 * A k ≤ U 87 k + 3) ∧ (U 86 k = 2 → 4 * A k ≤ t + 3) ∧ (U 86 k = 3 → 4 * A k ≤ U 93 (U 89 k).toNat + 2) ∧ (U 86 k = 4 → 4 * A k ≤ U 87 k + 1) ∧ (U 86 k = 5 → 4 * A k ≤ t + 1)
/-- trucks and plants -/
def RT (U0 : VV) (t β : Int) (τ ρ : Nat → Int) (V U : VV) : Prop := gTA U0 V U ∧ gTB U0 V U ∧ gTC U0 τ V U ∧ gTD U0 V U ∧ gPA U0 ρ V U ∧ gPS U0 V U ∧ gGA U0 β t U
/-- loads and jobs -/
def RJ (U0 V : VV) (h : HP) (U : VV) : Prop := gLA V h U0 U ∧ gLO U0 V h U ∧ gJO U0 V U ∧ gJL U0 V U
/-- the paver -/
def RP (U0 : VV) (t : Int) (V U : VV) : Prop := gSU U0 t V U ∧ gCA t V U ∧ gKA U0 V U
def R0 (V0 U0 V : VV) (h : HP) (U : VV) : Prop := CFr V0 V ∧ MFr U0 U ∧ HOK h
