/-! (4) a load is ordered -/
theorem RP.frame2 {U0 V V2 U U2 : VV} {t : Int} (r : RP U0 t V U) (v : ∀ i, (i = 8 ∨ i = 15 ∨ (32 ≤ i ∧ i ≤ 36) ∨ (46 ≤ i ∧ i ≤ 48)) → V2 i = V i) (u62 : ∀ k, 73 ≤ k → U2 62 k = U 62 k) (u : ∀ i, (i = 96 ∨ i = 97 ∨ i = 98 ∨ i = 109) → U2 i = U i) : RP U0 t V2 U2 := by
  obtain ⟨su, ca, ka⟩ := r
  have u96 := u 96 (by omega)
  have u97 := u 97 (by omega)
  have u98 := u 98 (by omega)
  have u109 := u 109 (by omega)
  have v8 := v 8 (by omega)
  have v15 := v 15 (by omega)
  have v32 := v 32 (by omega)
  have v33 := v 33 (by omega)
  have v34 := v 34 (by omega)
  have v35 := v 35 (by omega)
  have v36 := v 36 (by omega)
  have v46 := v 46 (by omega)
  have v47 := v 47 (by omega)
  have v48 := v 48 (by omega)
  have c73 := u62 73 (by omega)
  have c74 := u62 74 (by omega)
  have c75 := u62 75 (by omega)
  have c76 := u62 76 (by omega)
  have c77 := u62 77 (by omega)
  have c78 := u62 78 (by omega)
  have c79 := u62 79 (by omega)
  have c80 := u62 80 (by omega)
  refine ⟨?_, ?_, ?_⟩
  · unfold gSU; rw [v47, v46, u97, c73, c74, c76, c77, c78, c79, c80]; exact su
  · unfold gCA; rw [c74, c75, v32, u97, v33, u98, v48, u96, v46]; exact ca
  · unfold gKA CoolK shJ mnJ; rw [c74, v34, v35, v36, v8, v33, v15, u109, u98]; exact ka
theorem kxG_len : ∀ g : Nat, (kxG g).length = 2 * g := by
  intro g
  induction g with
  | zero => rfl
  | succ g ih =>
    show (kxG g ++ [(100, oN (g + 1)), (100, 9 * oN (g + 1))]).length = _
    rw [List.length_append, ih]
    show 2 * g + 2 = _
    omega
theorem hg_lenP (g : Nat) : (hg g).2.2.length = 2 * g := by
  cases g with
  | zero => rfl
  | succ g => exact kxG_len (g + 1)
theorem oN_step {g : Nat} (h : g ≤ 8) : oN g < oN (g + 1) ∧ oN g < 17280 := by
  have : g = 0 ∨ g = 1 ∨ g = 2 ∨ g = 3 ∨ g = 4 ∨ g = 5 ∨ g = 6 ∨ g = 7 ∨ g = 8 := by omega
  rcases this with rfl | rfl | rfl | rfl | rfl | rfl | rfl | rfl | rfl <;> exact ⟨by decide, by decide⟩
theorem FR.grow {V0 U0 V U : VV} {h : HP} {t β tl : Int} {τ ρ : Nat → Int} (r : FR V0 U0 h t β tl τ ρ V U) (hc : V 28 3 = (ordN h : Int)) (h17 : V 28 3 < 17280) : FR V0 U0 (hg (h.2.2.length / 2 + 1)) t β tl τ ρ (growV V h (hg (h.2.2.length / 2 + 1))) U ∧ U 62 72 < (ordN (hg (h.2.2.length / 2 + 1)) : Int) := by
  obtain ⟨⟨cf, mf, hh⟩, rt, ⟨la, lo, jo, jl⟩, rp, l0, l1⟩ := r
  obtain ⟨i1, i2, i3⟩ := hh.lie
  obtain ⟨b1, b2, b3⟩ := hh.bd
  obtain ⟨g, g9, rfl⟩ := id hh
  obtain ⟨rg, og⟩ := rowN_hg g9
  have g8 : g ≤ 8 := by
    apply Classical.byContradiction
    intro z
    have : g = 9 := by omega
    subst this
    have : ordN (hg 9) = 17280 := og
    omega
  rw [hg_lenP, show 2 * g / 2 + 1 = g + 1 by omega]
  obtain ⟨rg2, og2⟩ := rowN_hg (show g + 1 ≤ 9 by omega)
  have os := oN_step g8
  have e1 : (hg (g + 1)).1 = 124 + 2 * g := rfl
  have e2 : (hg (g + 1)).2.1 = 123 + 2 * g := rfl
  have hl : ∀ i, 123 ≤ i → (∀ k, kE i k = true) := by
    intro i hi k
    unfold kE
    split
    · omega
    · omega
    · rw [Nat.ble_eq_true_of_le hi, Bool.or_true]
  have n0 : ∀ i, i ≠ 123 + 2 * g → i ≠ 124 + 2 * g → growV V (hg g) (hg (g + 1)) i = V i := by
    intro i x y
    funext b
    unfold growV
    rw [e1, e2, if_neg x, if_neg y]
  have nr : ∀ b, b < rowN (hg g) → growV V (hg g) (hg (g + 1)) (hg (g + 1)).1 b = V (hg g).1 b := by
    intro b hb
    unfold growV
    rw [e1, e2, if_neg (by omega), if_pos rfl, if_pos hb]
  have no : ∀ b, b < ordN (hg g) → growV V (hg g) (hg (g + 1)) (hg (g + 1)).2.1 b = V (hg g).2.1 b := by
    intro b hb
    unfold growV
    rw [e2, if_pos rfl, if_pos hb]
  have cf2 : CFr V0 (growV V (hg g) (hg (g + 1))) := by
    intro i k ek
    by_cases x : i = 123 + 2 * g
    · rw [hl i (by omega) k] at ek; cases ek
    · by_cases y : i = 124 + 2 * g
      · rw [hl i (by omega) k] at ek; cases ek
      · rw [n0 i x y]; exact cf i k ek
  generalize growV V (hg g) (hg (g + 1)) = V2 at *
  obtain ⟨a1, a2, a3⟩ := la
  obtain ⟨o1, o2, o3, o4, o5, o6⟩ := lo
  refine ⟨⟨⟨cf2, mf, ⟨g + 1, by omega, rfl⟩⟩, rt.frame (fun i x y => n0 i (by omega) (by omega)) (fun _ _ => rfl) rfl rfl, ⟨?_, ?_, ?_, ?_⟩, rp.frame (fun i x => n0 i (by omega) (by omega)) (fun _ _ => rfl), l0, l1⟩, by omega⟩
  · unfold gLA
    rw [n0 28 (by omega) (by omega)]
    refine ⟨a1, by omega, fun l hl => ?_⟩
    obtain ⟨x1, x2⟩ := a3 l hl
    exact ⟨fun f hf => by rw [nr _ (by omega)]; exact x1 f hf, x2⟩
  · have pre : ∀ n : Nat, n ≤ ordN (hg g) → preL V2 (hg (g + 1)) U n = preL V (hg g) U n := fun n hn => by
      unfold preL
      exact sm_congr (fun k hk => by rw [no k (by omega)])
    have bz := sm_nn (f := busy U) (n := (U0 62 22).toNat) (fun k _ => by unfold busy; split <;> omega)
    unfold gLO
    rw [n0 28 (by omega) (by omega), pre _ (by omega)]
    refine ⟨o1, o2, o3, fun i hi => ?_, fun l hl => ?_, o6⟩
    · rw [no i (by omega), pre i (by omega)]; exact o4 i hi
    · rcases o5 l hl with z | ⟨i, z1, z2⟩
      · exact Or.inl z
      · exact Or.inr ⟨i, z1, by rw [no i (by omega)]; exact z2⟩
  · unfold gJO
    rw [n0 37 (by omega) (by omega), n0 45 (by omega) (by omega)]; exact jo
  · unfold gJL
    rw [n0 46 (by omega) (by omega)]; exact jl
def lval (j n k p t : Int) : Nat → Int
  | 0 => j
  | 1 => n
  | 2 => k
  | 3 => p
  | 4 => t
  | 5 => -1
  | 6 => -1
  | 7 => -1
  | _ => 0
def ninV (V : VV) (r c : Nat) (j n k p t : Int) : VV := up (up (up (up (up (up (up (up (up V r (9 * c + 0) j) r (9 * c + 1) n) r (9 * c + 2) k) r (9 * c + 3) p) r (9 * c + 4) t) r (9 * c + 5) (-1)) r (9 * c + 6) (-1)) r (9 * c + 7) (-1)) r (9 * c + 8) 0
theorem ninV_na {V : VV} {r c : Nat} {j n k p t : Int} {i : Nat} (h : i ≠ r) : ninV V r c j n k p t i = V i := by
  unfold ninV
  rw [up_na _ _ _ h, up_na _ _ _ h, up_na _ _ _ h, up_na _ _ _ h, up_na _ _ _ h, up_na _ _ _ h, up_na _ _ _ h, up_na _ _ _ h, up_na _ _ _ h]
theorem ninV_at {V : VV} {r c : Nat} {j n k p t : Int} {l f : Nat} (hf : f < 9) : ninV V r c j n k p t r (9 * l + f) = if l = c then lval j n k p t f else V r (9 * l + f) := by
  unfold ninV
  by_cases e : l = c
  · subst e
    rw [if_pos rfl]
    have : f = 0 ∨ f = 1 ∨ f = 2 ∨ f = 3 ∨ f = 4 ∨ f = 5 ∨ f = 6 ∨ f = 7 ∨ f = 8 := by omega
    rcases this with rfl | rfl | rfl | rfl | rfl | rfl | rfl | rfl | rfl <;> simp [up_ap, lval]
  · rw [if_neg e, up_nf _ _ (by omega), up_nf _ _ (by omega), up_nf _ _ (by omega), up_nf _ _ (by omega), up_nf _ _ (by omega), up_nf _ _ (by omega), up_nf _ _ (by omega), up_nf _ _ (by omega), up_nf _ _ (by omega)]
theorem addV_eq {V : VV} {h : HP} (hh : HOK h) {c : Nat} (hc : c < ordN h) {j n k p t : Int} : addV V h (c : Int) j n k p t = ninV V h.1 c j n k p t := by
  unfold addV ninV
  have e : ∀ (f : Nat) (W : VV) (x : Int), f < 9 → noteV W h (c : Int) (f : Int) x = up W h.1 (9 * c + f) x := fun f W x hf => ld_noteV hh hc hf
  have e0 := fun W x => e 0 W x (by omega)
  have e1 := fun W x => e 1 W x (by omega)
  have e2 := fun W x => e 2 W x (by omega)
  have e3 := fun W x => e 3 W x (by omega)
  have e4 := fun W x => e 4 W x (by omega)
  have e5 := fun W x => e 5 W x (by omega)
  have e6 := fun W x => e 6 W x (by omega)
  have e7 := fun W x => e 7 W x (by omega)
  have e8 := fun W x => e 8 W x (by omega)
  rw [show (0 : Int) = ((0 : Nat) : Int) from rfl, show (1 : Int) = ((1 : Nat) : Int) from rfl, show (2 : Int) = ((2 : Nat) : Int) from rfl, show (3 : Int) = ((3 : Nat) : Int) from rfl, show (4 : Int) = ((4 : Nat) : Int) from rfl, show (5 : Int) = ((5 : Nat) : Int) from rfl, show (6 : Int) = ((6 : Nat) : Int) from rfl, show (7 : Int) = ((7 : Nat) : Int) from rfl, show (8 : Int) = ((8 : Nat) : Int) from rfl]
  rw [e0, e1, e2, e3, e4, e5, e6, e7, e8]
theorem FR.order {V0 U0 V U V2 U2 : VV} {h : HP} {t tl n m : Int} {j k p c : Nat} (ht : 0 ≤ t ∧ t ≤ 4319) (r : FR V0 U0 h t t tl (fun _ => t + 1) (fun _ => t + 1) V U) (hk : (k : Int) < U0 62 22) (h86 : U 86 k = 0) (hp : (p : Int) < U0 62 17) (hj : FirstJ (U0 62 13) (U 94) (U0 70) j) (hjn : (j : Int) < U0 62 13) (hn : 1 ≤ n ∧ n ≤ 30 ∧ U 94 j + n ≤ U0 70 j) (hm : 1 ≤ m ∧ m ≤ 120) (hc : U 62 72 = (c : Int)) (hco : c < ordN h) (cf : CFr V0 V2) (mf : MFr U0 U2)
    (v0 : ∀ i, i ≠ 28 → i ≠ 37 → i ≠ 41 → i ≠ 42 → i ≠ 43 → i ≠ 44 → i ≠ 45 → i ≠ h.1 → V2 i = V i)
    (v28 : ∀ x, V2 28 x = if x = 3 then (c : Int) + 1 else V 28 x) (v37 : ∀ x, V2 37 x = if x = 6 then (j : Int) else V 37 x) (v41 : ∀ x, V2 41 x = if x = p then V 41 p + 1 else V 41 x) (v42 : ∀ x, V2 42 x = if x = k then 1 else V 42 x) (v43 : ∀ x, V2 43 x = if x = k then t + m else V 43 x) (v44 : ∀ x, V2 44 x = if x = k then (c : Int) else V 44 x) (v45 : ∀ x, V2 45 x = if x = j then U 94 j + n else V 45 x) (vr : ∀ l f, f < 9 → V2 h.1 (9 * l + f) = if l = c then lval j n k p t f else V h.1 (9 * l + f))
    (u0 : ∀ i, i ≠ 62 → i ≠ 86 → i ≠ 87 → i ≠ 89 → i ≠ 90 → i ≠ 94 → ¬ (99 ≤ i ∧ i ≤ 108) → U2 i = U i)
    (u62 : ∀ x, U2 62 x = if x = 72 then (c : Int) + 1 else U 62 x) (u86 : ∀ x, U2 86 x = if x = k then 1 else U 86 x) (u87 : ∀ x, U2 87 x = if x = k then t + m else U 87 x) (u89 : ∀ x, U2 89 x = if x = k then (p : Int) else U 89 x) (u90 : ∀ x, U2 90 x = if x = k then (c : Int) else U 90 x) (u94 : ∀ x, U2 94 x = if x = j then U 94 j + n else U 94 x) (ul : ∀ l f, f < 9 → U2 (99 + f) l = if l = c then lval j n k p t f else U (99 + f) l) (u108 : ∀ l, U2 108 l = if l = c then -1 else U 108 l) : FR V0 U0 h t t tl (fun _ => t + 1) (fun _ => t + 1) V2 U2 := by
  obtain ⟨⟨cf0, mf0, hh⟩, ⟨rA, rB, rC, rD, rPA, rPS, rGA⟩, ⟨la, lo, jo, jl⟩, rp, l0, l1⟩ := r
  obtain ⟨i1, i2, i3⟩ := hh.lie
  have x88 : U2 88 = U 88 := u0 88 (by omega) (by omega) (by omega) (by omega) (by omega) (by omega) (by omega)
  have x91 : U2 91 = U 91 := u0 91 (by omega) (by omega) (by omega) (by omega) (by omega) (by omega) (by omega)
  have x92 : U2 92 = U 92 := u0 92 (by omega) (by omega) (by omega) (by omega) (by omega) (by omega) (by omega)
  have x93 : U2 93 = U 93 := u0 93 (by omega) (by omega) (by omega) (by omega) (by omega) (by omega) (by omega)
  have x95 : U2 95 = U 95 := u0 95 (by omega) (by omega) (by omega) (by omega) (by omega) (by omega) (by omega)
  have w38 : V2 38 = V 38 := v0 38 (by omega) (by omega) (by omega) (by omega) (by omega) (by omega) (by omega) (by omega)
  have w39 : V2 39 = V 39 := v0 39 (by omega) (by omega) (by omega) (by omega) (by omega) (by omega) (by omega) (by omega)
  have w40 : V2 40 = V 40 := v0 40 (by omega) (by omega) (by omega) (by omega) (by omega) (by omega) (by omega) (by omega)
  have w46 : V2 46 = V 46 := v0 46 (by omega) (by omega) (by omega) (by omega) (by omega) (by omega) (by omega) (by omega)
  have wo : V2 h.2.1 = V h.2.1 := v0 h.2.1 (by omega) (by omega) (by omega) (by omega) (by omega) (by omega) (by omega) (by omega)
  have c63 : U2 62 63 = U 62 63 := by rw [u62, if_neg (by omega)]
  have c72 : U2 62 72 = (c : Int) + 1 := by rw [u62, if_pos rfl]
  have c73 : U2 62 73 = U 62 73 := by rw [u62, if_neg (by omega)]
  have c74 : U2 62 74 = U 62 74 := by rw [u62, if_neg (by omega)]
  have c75 : U2 62 75 = U 62 75 := by rw [u62, if_neg (by omega)]
  have c79 : U2 62 79 = U 62 79 := by rw [u62, if_neg (by omega)]
  have x100 : ∀ l, U2 100 l = if l = c then n else U 100 l := fun l => ul l 1 (by omega)
  have x101 : ∀ l, U2 101 l = if l = c then (k : Int) else U 101 l := fun l => ul l 2 (by omega)
  have x102 : ∀ l, U2 102 l = if l = c then (p : Int) else U 102 l := fun l => ul l 3 (by omega)
  have x99 : ∀ l, U2 99 l = if l = c then (j : Int) else U 99 l := fun l => ul l 0 (by omega)
  have x104 : ∀ l, U2 104 l = if l = c then -1 else U 104 l := fun l => ul l 5 (by omega)
  have nb : ∀ k' : Nat, (k' : Int) < U0 62 22 → U 86 k' ≠ 0 → ¬ (U 90 k').toNat = c := by
    intro k' h1 h2
    have := (rB k' h1 h2).2.1
    omega
  refine ⟨⟨cf, mf, hh⟩, ⟨fun k' hk' => ?_, fun k' hk' => ?_, fun k' hk' => ?_, fun k' k2 hk' hk2 => ?_, fun q hq => ?_, fun q hq => ?_, ?_⟩, ⟨?_, ?_, ?_, ?_⟩, ?_, by rw [c63]; exact l0, by rw [c63]; exact l1.1, by
    unfold BGN; rw [c72]; intro l hl; rw [x104, show U2 107 l = if l = c then 0 else U 107 l from ul l 8 (by omega)]; by_cases e : l = c
    · rw [if_pos e, if_pos e]; exact ⟨by omega, Or.inl rfl⟩
    · rw [if_neg e, if_neg e]; exact l1.2 l (by omega)⟩
  · rw [v42, u86]
    by_cases e : k' = k
    · rw [if_pos e, if_pos e]; omega
    · rw [if_neg e, if_neg e]; exact rA k' hk'
  · rw [u86, v44, u90, c72, u89, x92]
    by_cases e : k' = k
    · rw [if_pos e, if_pos e, if_pos e, if_pos e, show ((c : Int)).toNat = c by omega, x101, x102, u108, if_pos rfl, if_pos rfl, if_pos rfl]
      exact fun _ => ⟨rfl, by omega, by omega, rfl, by omega, rfl, fun z => by omega⟩
    · rw [if_neg e, if_neg e, if_neg e, if_neg e]
      intro hz
      obtain ⟨b1, b2, b3, b4, b5, b6, b7⟩ := rB k' hk' hz
      have := nb k' hk' hz
      rw [x101, x102, u108, if_neg this, if_neg this, if_neg this]
      exact ⟨b1, by omega, b3, b4, b5, b6, b7⟩
  · rw [u86, v43, u87, x88, c63]
    by_cases e : k' = k
    · rw [if_pos e, if_pos e, if_pos e]
      exact ⟨fun _ => ⟨rfl, by show t + 1 ≤ t + m; omega, by omega⟩, fun z => by omega⟩
    · rw [if_neg e, if_neg e, if_neg e]; exact rC k' hk'
  · rw [u86, u86, v43, v43, x88]
    by_cases e : k' = k
    · rw [if_pos e]; intro z; omega
    · rw [if_neg e]
      by_cases e' : k2 = k
      · rw [if_pos e']; intro _ z; omega
      · rw [if_neg e', if_neg e, if_neg e']; exact rD k' k2 hk' hk2
  · rw [w38, x91, w39, x92, w40, x93, u86, u89]
    obtain ⟨q1, q2, q3, q4⟩ := rPA q hq
    refine ⟨q1, q2, q3, ?_⟩
    rcases q4 with q4 | ⟨z1, z2, z3, z4⟩
    · exact Or.inl q4
    · right
      have hne : (U 92 q).toNat ≠ k := by
        intro z
        rw [z, h86] at z2
        omega
      rw [if_neg hne, if_neg hne]
      exact ⟨z1, z2, z3, z4⟩
  · rw [v41]
    have old := rPS q hq
    have hsum := sm_upd (f := cntS U q) (g := cntS U2 q) (k := k) (n := (U0 62 22).toNat) (by omega) (fun i _ hi => by
      unfold cntS; rw [u86, if_neg hi, u89, if_neg hi])
    have g1 : cntS U q k = 0 := by
      unfold cntS; rw [h86, if_neg (by omega)]
    by_cases e : q = p
    · subst e
      rw [if_pos rfl]
      have g0 : cntS U2 q k = 1 := by
        unfold cntS; rw [u86, if_pos rfl, u89, if_pos rfl, if_pos (by omega)]
      omega
    · rw [if_neg e]
      have g0 : cntS U2 q k = 0 := by
        unfold cntS; rw [u86, if_pos rfl, u89, if_pos rfl, if_neg (by omega)]
      omega
  · obtain ⟨A, A1, A2⟩ := rGA
    refine ⟨fun x => if x = k then A k + 1 else A x, ?_, fun k' hk' => ?_⟩
    · have := sm_upd (f := A) (g := fun x => if x = k then A k + 1 else A x) (k := k) (n := (U0 62 22).toNat) (by omega) (fun i _ hi => if_neg hi)
      rw [if_pos rfl] at this
      rw [c72]; omega
    · obtain ⟨z0, z1, z2, z3, z4, z5, z6⟩ := A2 k' hk'
      rw [u86, u87, u89, x93]
      dsimp only
      by_cases e : k' = k
      · subst e
        rw [if_pos rfl, if_pos rfl, if_pos rfl]
        have := z1 h86
        exact ⟨by omega, by omega, fun _ => by omega, by omega, by omega, by omega, by omega⟩
      · rw [if_neg e, if_neg e, if_neg e, if_neg e]
        exact ⟨z0, z1, z2, z3, z4, z5, z6⟩
  · obtain ⟨a1, a2, a3⟩ := la
    unfold gLA
    rw [v28, if_pos rfl, c72]
    refine ⟨rfl, by omega, fun l hl => ?_⟩
    rw [x99, x100, x104]
    by_cases e : l = c
    · refine ⟨fun f hf => by rw [vr l f hf, ul l f hf, if_pos e, if_pos e], ?_⟩
      rw [if_pos e, if_pos e, if_pos e]
      have := hj.1
      exact ⟨by omega, by omega, by omega⟩
    · obtain ⟨b1, b2⟩ := a3 l (by omega)
      refine ⟨fun f hf => by rw [vr l f hf, ul l f hf, if_neg e, if_neg e]; exact b1 f hf, ?_⟩
      rw [if_neg e, if_neg e, if_neg e]
      exact b2
  · obtain ⟨o1, o2, o3, o4, o5, o6⟩ := lo
    have pre : ∀ i : Nat, (i : Int) ≤ V 28 2 → preL V2 h U2 i = preL V h U i := fun i hi => by
      unfold preL
      rw [wo]
      refine sm_congr (fun x hx => ?_)
      have := (o4 x (by omega)).1
      rw [x100, if_neg (by omega)]
    have hb := sm_upd (f := busy U) (g := busy U2) (k := k) (n := (U0 62 22).toNat) (by omega) (fun i _ hi => by
      unfold busy; rw [u86, if_neg hi])
    have hb1 : busy U k = 0 := by unfold busy; rw [if_pos h86]
    have hb2 : busy U2 k = 1 := by unfold busy; rw [u86, if_pos rfl, if_neg (by omega)]
    unfold gLO
    rw [v28, if_neg (by omega), c79, c72, c73, c75, wo, pre _ (by omega)]
    refine ⟨o1, o2, by omega, fun i hi => ?_, fun l hl => ?_, o6⟩
    · obtain ⟨z1, z2⟩ := o4 i hi
      rw [u108, if_neg (by omega), pre i (by omega)]
      exact ⟨by omega, z2⟩
    · rw [u108]
      by_cases e : l = c
      · rw [if_pos e]; exact Or.inl rfl
      · rw [if_neg e]; exact o5 l (by omega)
  · obtain ⟨o1, o2, o3⟩ := jo
    unfold gJO
    rw [v37, if_pos rfl, c74, c75, x95]
    refine ⟨by omega, fun j' hj' => ?_, fun j' hj' => ?_⟩
    · rw [u94, if_neg (by omega)]; exact hj.2.1 j' (by omega)
    · obtain ⟨z1, z2, z3⟩ := o3 j' hj'
      have hs := sm_upd (f := pend U j') (g := pend U2 j') (k := k) (n := (U0 62 22).toNat) (by omega) (fun i hi hne => by
        unfold pend
        rw [u86, if_neg hne, u90, if_neg hne]
        by_cases e0 : U 86 i = 0
        · rw [if_neg (fun z => z.1 e0), if_neg (fun z => z.1 e0)]
        · have := nb i (by omega) e0
          rw [x99, x100, if_neg this, if_neg this])
      have p1 : pend U j' k = 0 := by unfold pend; rw [if_neg (fun z => z.1 h86)]
      rw [v45, u94]
      by_cases e : j' = j
      · subst e
        have p2 : pend U2 j' k = n := by
          unfold pend
          rw [u86, if_pos rfl, u90, if_pos rfl, show ((c : Int)).toNat = c by omega, x99, x100, if_pos rfl, if_pos rfl, if_pos (by omega)]
        rw [if_pos rfl, if_pos rfl]
        exact ⟨rfl, by omega, by omega⟩
      · have p2 : pend U2 j' k = 0 := by
          unfold pend
          rw [u86, if_pos rfl, u90, if_pos rfl, show ((c : Int)).toNat = c by omega, x99, if_pos rfl, if_neg (by omega)]
        rw [if_neg e, if_neg e]
        exact ⟨z1, by omega, z3⟩
  · unfold gJL
    rw [w46, c74, x95, c75]; exact jl
  · exact rp.frame2 (fun i x => v0 i (by omega) (by omega) (by omega) (by omega) (by omega) (by omega) (by omega) (by omega)) (fun k' hk' => by rw [u62, if_neg (by omega)]) (fun i x => u0 i (by omega) (by omega) (by omega) (by omega) (by omega) (by omega) (by omega))
