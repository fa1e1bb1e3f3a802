/-! (3) the plants -/
theorem Two.biteL {α β γ : Type} {c : Prop} [Decidable c] {t e : Option γ} {F : γ → Option α} {b : Option β} {Q : α → β → Prop} (k1 : c → Two (Option.bind t F) b Q) (k2 : ¬ c → Two (Option.bind e F) b Q) : Two (Option.bind (if c then t else e) F) b Q := by
  by_cases h : c
  · rw [if_pos h]; exact k1 h
  · rw [if_neg h]; exact k2 h
theorem Two.bbindL {α β γ δ : Type} {a : Option δ} {f : δ → Option γ} {F : γ → Option α} {b : Option β} {Q : α → β → Prop} (k : Two (Option.bind a (fun x => Option.bind (f x) F)) b Q) : Two (Option.bind (Option.bind a f) F) b Q := by
  cases a with
  | none => exact k
  | some x => exact k
theorem Two.bltL {α β γ δ : Type} {a : δ} {f : δ → Option γ} {F : γ → Option α} {b : Option β} {Q : α → β → Prop} (k : Two (Option.bind (f a) F) b Q) : Two (Option.bind (lt_ a f) F) b Q := k
/-- the whole relation in a minute -/
def BGN (t : Int) (U : VV) : Prop := ∀ l : Nat, (l : Int) < U 62 72 → U 104 l ≤ t ∧ (U 107 l = 0 ∨ U 107 l = 1)
def FR (V0 U0 : VV) (h : HP) (t β tl : Int) (τ ρ : Nat → Int) (V U : VV) : Prop := R0 V0 U0 V h U ∧ RT U0 t β τ ρ V U ∧ RJ U0 V h U ∧ RP U0 t V U ∧ 0 ≤ U 62 63 ∧ U 62 63 ≤ 16 * tl ∧ BGN t U
theorem RJ.frame {U0 V V2 U U2 : VV} {h : HP} (r : RJ U0 V h U) (la : gLA V2 h U0 U2) (v28 : V2 28 = V 28) (vo : V2 h.2.1 = V h.2.1) (v37 : V2 37 6 = V 37 6) (v45 : V2 45 = V 45) (v46 : V2 46 = V 46) (u62 : U2 62 = U 62) (u90 : U2 90 = U 90) (u94 : U2 94 = U 94) (u95 : U2 95 = U 95) (u99 : U2 99 = U 99) (u100 : U2 100 = U 100) (u108 : U2 108 = U 108) (u86 : ∀ k : Nat, (k : Int) < U0 62 22 → (U2 86 k = 0 ↔ U 86 k = 0)) : RJ U0 V2 h U2 := by
  obtain ⟨-, lo, jo, jl⟩ := r
  have hb : sm (busy U2) (U0 62 22).toNat = sm (busy U) (U0 62 22).toNat := sm_congr (fun k hk => by
    unfold busy
    have := u86 k (by omega)
    by_cases e : U 86 k = 0
    · rw [if_pos e, if_pos (this.mpr e)]
    · rw [if_neg e, if_neg (fun z => e (this.mp z))])
  have hp : ∀ j : Nat, sm (pend U2 j) (U0 62 22).toNat = sm (pend U j) (U0 62 22).toNat := fun j => sm_congr (fun k hk => by
    unfold pend
    rw [u90, u99, u100]
    have := u86 k (by omega)
    by_cases e : U 86 k = 0
    · rw [if_neg (fun z => z.1 (this.mpr e)), if_neg (fun z => z.1 e)]
    · by_cases e2 : U 99 (U 90 k).toNat = (j : Int)
      · rw [if_pos ⟨fun z => e (this.mp z), e2⟩, if_pos ⟨e, e2⟩]
      · rw [if_neg (fun z => e2 z.2), if_neg (fun z => e2 z.2)])
  have hpre : ∀ n, preL V2 h U2 n = preL V h U n := fun n => by unfold preL; rw [vo, u100]
  refine ⟨la, ?_, ?_, ?_⟩
  · unfold gLO
    rw [v28, u62, hb, vo, u108, hpre]
    unfold gLO at lo
    refine ⟨lo.1, lo.2.1, lo.2.2.1, fun i hi => ?_, lo.2.2.2.2.1, lo.2.2.2.2.2⟩
    rw [hpre]; exact lo.2.2.2.1 i hi
  · unfold gJO
    rw [v37, v45, u94, u95, u62]
    refine ⟨jo.1, jo.2.1, fun j hj => ?_⟩
    rw [hp]; exact jo.2.2 j hj
  · unfold gJL
    rw [v46, u62, u95]; exact jl
theorem RP.frame {U0 V V2 U U2 : VV} {t : Int} (r : RP U0 t V U) (v : ∀ i, (i = 8 ∨ i = 15 ∨ (32 ≤ i ∧ i ≤ 36) ∨ (46 ≤ i ∧ i ≤ 48)) → V2 i = V i) (u : ∀ i, (i = 62 ∨ i = 96 ∨ i = 97 ∨ i = 98 ∨ i = 109) → U2 i = U i) : RP U0 t V2 U2 := by
  obtain ⟨su, ca, ka⟩ := r
  have u62 := u 62 (by omega)
  have u96 := u 96 (by omega)
  have u97 := u 97 (by omega)
  have u98 := u 98 (by omega)
  have u109 := u 109 (by omega)
  have v8 := v 8 (by omega)
  have v15 := v 15 (by omega)
  have v32 := v 32 (by omega)
  have v33 := v 33 (by omega)
  have v34 := v 34 (by omega)
  have v35 := v 35 (by omega)
  have v36 := v 36 (by omega)
  have v46 := v 46 (by omega)
  have v47 := v 47 (by omega)
  have v48 := v 48 (by omega)
  refine ⟨?_, ?_, ?_⟩
  · unfold gSU; rw [v47, u62, v46, u97]; exact su
  · unfold gCA; rw [u62, v32, u97, v33, u98, v48, u96, v46]; exact ca
  · unfold gKA CoolK shJ mnJ; rw [u62, v34, v35, v36, v8, v33, v15, u109, u98]; exact ka
theorem RT.frame {U0 V V2 U U2 : VV} {t β : Int} {τ ρ : Nat → Int} (r : RT U0 t β τ ρ V U) (v : ∀ i, 38 ≤ i → i ≤ 44 → V2 i = V i) (u : ∀ i, (86 ≤ i ∧ i ≤ 93) ∨ i = 101 ∨ i = 102 ∨ i = 108 → U2 i = U i) (u63 : U2 62 63 = U 62 63) (u72 : U2 62 72 = U 62 72) : RT U0 t β τ ρ V2 U2 := by
  obtain ⟨a, b, c, d, pa, ps, ga⟩ := r
  have u86 := u 86 (by omega)
  have u87 := u 87 (by omega)
  have u88 := u 88 (by omega)
  have u89 := u 89 (by omega)
  have u90 := u 90 (by omega)
  have u91 := u 91 (by omega)
  have u92 := u 92 (by omega)
  have u93 := u 93 (by omega)
  have u101 := u 101 (by omega)
  have u102 := u 102 (by omega)
  have u108 := u 108 (by omega)
  have v38 := v 38 (by omega) (by omega)
  have v39 := v 39 (by omega) (by omega)
  have v40 := v 40 (by omega) (by omega)
  have v41 := v 41 (by omega) (by omega)
  have v42 := v 42 (by omega) (by omega)
  have v43 := v 43 (by omega) (by omega)
  have v44 := v 44 (by omega) (by omega)
  refine ⟨?_, ?_, ?_, ?_, ?_, ?_, ?_⟩
  · unfold gTA; rw [v42, u86]; exact a
  · unfold gTB; rw [u86, v44, u90, u72, u101, u102, u89, u108, u92]; exact b
  · unfold gTC; rw [u86, v43, u87, u88, u63]; exact c
  · unfold gTD; rw [u86, v43, u88]; exact d
  · unfold gPA; rw [v38, u91, v39, u92, u86, u89, v40, u93]; exact pa
  · unfold gPS cntS; rw [v41, u86, u89]; exact ps
  · unfold gGA; rw [u72, u86, u87, u89, u93]; exact ga
def sendV (V : VV) (p f : Nat) (x s : Int) : VV := up (up (up (up V 42 f 4) 43 f x) 41 p s) 39 p (-1)
def sendU (U : VV) (p f : Nat) (x : Int) : VV := up (up (up U 86 f 4) 87 f x) 92 p (-1)
theorem sendV_at (V : VV) (p f : Nat) (x s : Int) : (∀ i, i ≠ 42 → i ≠ 43 → i ≠ 41 → i ≠ 39 → sendV V p f x s i = V i) ∧ (∀ k, sendV V p f x s 42 k = if k = f then 4 else V 42 k) ∧ (∀ k, sendV V p f x s 43 k = if k = f then x else V 43 k) ∧ (∀ k, sendV V p f x s 41 k = if k = p then s else V 41 k) ∧ ∀ k, sendV V p f x s 39 k = if k = p then -1 else V 39 k := by
  unfold sendV
  refine ⟨fun i a b c d => ?_, fun k => ?_, fun k => ?_, fun k => ?_, fun k => ?_⟩
  · rw [up_na _ _ _ d, up_na _ _ _ c, up_na _ _ _ b, up_na _ _ _ a]
  all_goals simp only [up_ap, Nat.reduceEqDiff, reduceIte]
theorem sendU_at (U : VV) (p f : Nat) (x : Int) : (∀ i, i ≠ 86 → i ≠ 87 → i ≠ 92 → sendU U p f x i = U i) ∧ (∀ k, sendU U p f x 86 k = if k = f then 4 else U 86 k) ∧ (∀ k, sendU U p f x 87 k = if k = f then x else U 87 k) ∧ ∀ k, sendU U p f x 92 k = if k = p then -1 else U 92 k := by
  unfold sendU
  refine ⟨fun i a b c => ?_, fun k => ?_, fun k => ?_, fun k => ?_⟩
  · rw [up_na _ _ _ c, up_na _ _ _ b, up_na _ _ _ a]
  all_goals simp only [up_ap, Nat.reduceEqDiff, reduceIte]
theorem RT.send {U0 V U : VV} {t β : Int} {ρ : Nat → Int} {p f : Nat} {m : Int} (r : RT U0 t β (fun _ => t + 1) ρ V U) (hN : 1 ≤ U0 62 22 ∧ U0 62 22 ≤ 16) (hp : (p : Int) < U0 62 17) (hf : U 92 p = (f : Int)) (h93 : U 93 p = t) (hm : 1 ≤ m ∧ m ≤ 120) (ht : 0 ≤ t ∧ t ≤ 4319) : RT U0 t β (fun _ => t + 1) (fun q => if q = p then t + 1 else ρ q) (sendV V p f (t + m) (V 41 p - 1)) (sendU U p f (t + m)) := by
  obtain ⟨a, b, c, d, pa, ps, ga⟩ := r
  obtain ⟨v0, v42, v43, v41, v39⟩ := sendV_at V p f (t + m) (V 41 p - 1)
  obtain ⟨u0, u86, u87, u92⟩ := sendU_at U p f (t + m)
  generalize sendV V p f (t + m) (V 41 p - 1) = V2 at *
  generalize sendU U p f (t + m) = U2 at *
  obtain ⟨p1, p2, p3, p4⟩ := pa p hp
  have hfF : (f : Int) < U0 62 22 ∧ U 86 f = 3 ∧ U 89 f = (p : Int) := by
    rcases p4 with p4 | ⟨q1, q2, q3, -⟩
    · omega
    · rw [hf, show ((f : Int)).toNat = f by omega] at q2 q3
      exact ⟨by omega, q2, q3⟩
  obtain ⟨f1, f2, f3⟩ := hfF
  have w44 := v0 44 (by omega) (by omega) (by omega) (by omega)
  have w38 := v0 38 (by omega) (by omega) (by omega) (by omega)
  have w40 := v0 40 (by omega) (by omega) (by omega) (by omega)
  have x88 := u0 88 (by omega) (by omega) (by omega)
  have x89 := u0 89 (by omega) (by omega) (by omega)
  have x90 := u0 90 (by omega) (by omega) (by omega)
  have x91 := u0 91 (by omega) (by omega) (by omega)
  have x93 := u0 93 (by omega) (by omega) (by omega)
  have x62 := u0 62 (by omega) (by omega) (by omega)
  have x101 := u0 101 (by omega) (by omega) (by omega)
  have x102 := u0 102 (by omega) (by omega) (by omega)
  have x108 := u0 108 (by omega) (by omega) (by omega)
  refine ⟨fun k hk => ?_, fun k hk => ?_, fun k hk => ?_, fun k k' hk hk' => ?_, fun q hq => ?_, fun q hq => ?_, ?_⟩
  · rw [v42, u86]
    by_cases e : k = f
    · rw [if_pos e, if_pos e]; omega
    · rw [if_neg e, if_neg e]; exact a k hk
  · rw [u86, w44, x90, x62, x101, x102, x89, x108, u92]
    by_cases e : k = f
    · subst e
      rw [if_pos rfl]
      obtain ⟨b1, b2, b3, b4, b5, b6, b7⟩ := b k hk (by omega)
      exact fun _ => ⟨b1, b2, b3, b4, b5, b6, fun z => by omega⟩
    · rw [if_neg e]
      intro hz
      obtain ⟨b1, b2, b3, b4, b5, b6, b7⟩ := b k hk hz
      refine ⟨b1, b2, b3, b4, b5, b6, fun z => ?_⟩
      have := b7 z
      by_cases e2 : (U 89 k).toNat = p
      · rw [e2, hf] at this; omega
      · rw [if_neg e2]; exact this
  · rw [u86, v43, u87, x88, x62]
    by_cases e : k = f
    · rw [if_pos e, if_pos e, if_pos e]
      exact ⟨fun _ => ⟨rfl, by show t + 1 ≤ t + m; omega, by omega⟩, fun z => by omega⟩
    · rw [if_neg e, if_neg e, if_neg e]; exact c k hk
  · rw [u86, u86, v43, v43, x88]
    by_cases e : k = f
    · rw [if_pos e]; intro z; omega
    · rw [if_neg e]
      by_cases e' : k' = f
      · rw [if_pos e']; intro _ z; omega
      · rw [if_neg e', if_neg e, if_neg e']; exact d k k' hk hk'
  · rw [w38, x91, v39, u92, w40, x93, u86, x89]
    obtain ⟨q1, q2, q3, q4⟩ := pa q hq
    by_cases e : q = p
    · subst e
      rw [if_pos rfl, if_pos rfl]
      exact ⟨q1, q2, rfl, Or.inl rfl⟩
    · rw [if_neg e, if_neg e]
      refine ⟨q1, q2, q3, ?_⟩
      rcases q4 with q4 | ⟨z1, z2, z3, z4⟩
      · exact Or.inl q4
      · right
        have hne : (U 92 q).toNat ≠ f := by
          intro z
          rw [z, f3] at z3
          omega
        rw [if_neg hne]
        dsimp only
        rw [if_neg e]
        exact ⟨z1, z2, z3, z4⟩
  · rw [v41]
    have old := ps q hq
    have hsum := sm_upd (f := cntS U q) (g := cntS U2 q) (k := f) (n := (U0 62 22).toNat) (by omega) (fun i _ hi => by
      unfold cntS; rw [u86, if_neg hi, x89])
    have g0 : cntS U2 q f = 0 := by
      unfold cntS; rw [u86, if_pos rfl, if_neg (by omega)]
    by_cases e : q = p
    · subst e
      rw [if_pos rfl]
      have g1 : cntS U q f = 1 := by
        unfold cntS; rw [f2, f3, if_pos (by omega)]
      omega
    · rw [if_neg e]
      have g1 : cntS U q f = 0 := by
        unfold cntS; rw [f3, if_neg (by omega)]
      omega
  · obtain ⟨A, A1, A2⟩ := ga
    refine ⟨A, by rw [x62]; exact A1, fun k hk => ?_⟩
    obtain ⟨z0, z1, z2, z3, z4, z5, z6⟩ := A2 k hk
    rw [u86, u87, x89, x93]
    by_cases e : k = f
    · subst e
      rw [if_pos rfl, if_pos rfl]
      have := z4 f2
      rw [f3, show ((p : Int)).toNat = p by omega, h93] at this
      exact ⟨z0, by omega, by omega, by omega, by omega, fun _ => by omega, by omega⟩
    · rw [if_neg e, if_neg e]
      exact ⟨z0, z1, z2, z3, z4, z5, z6⟩
def loadV (V : VV) (p f : Nat) (x y : Int) : VV := up (up (up (up V 38 p x) 39 p (f : Int)) 40 p y) 42 f 3
def loadU (U : VV) (p f : Nat) (x y : Int) : VV := up (up (up (up U 91 p x) 92 p (f : Int)) 93 p y) 86 f 3
theorem loadV_at (V : VV) (p f : Nat) (x y : Int) : (∀ i, i ≠ 38 → i ≠ 39 → i ≠ 40 → i ≠ 42 → loadV V p f x y i = V i) ∧ (∀ k, loadV V p f x y 38 k = if k = p then x else V 38 k) ∧ (∀ k, loadV V p f x y 39 k = if k = p then (f : Int) else V 39 k) ∧ (∀ k, loadV V p f x y 40 k = if k = p then y else V 40 k) ∧ ∀ k, loadV V p f x y 42 k = if k = f then 3 else V 42 k := by
  unfold loadV
  refine ⟨fun i a b c d => ?_, fun k => ?_, fun k => ?_, fun k => ?_, fun k => ?_⟩
  · rw [up_na _ _ _ d, up_na _ _ _ c, up_na _ _ _ b, up_na _ _ _ a]
  all_goals simp only [up_ap, Nat.reduceEqDiff, reduceIte]
theorem loadU_at (U : VV) (p f : Nat) (x y : Int) : (∀ i, i ≠ 91 → i ≠ 92 → i ≠ 93 → i ≠ 86 → loadU U p f x y i = U i) ∧ (∀ k, loadU U p f x y 91 k = if k = p then x else U 91 k) ∧ (∀ k, loadU U p f x y 92 k = if k = p then (f : Int) else U 92 k) ∧ (∀ k, loadU U p f x y 93 k = if k = p then y else U 93 k) ∧ ∀ k, loadU U p f x y 86 k = if k = f then 3 else U 86 k := by
  unfold loadU
  refine ⟨fun i a b c d => ?_, fun k => ?_, fun k => ?_, fun k => ?_, fun k => ?_⟩
  · rw [up_na _ _ _ d, up_na _ _ _ c, up_na _ _ _ b, up_na _ _ _ a]
  all_goals simp only [up_ap, Nat.reduceEqDiff, reduceIte]
theorem RT.load {U0 V U : VV} {t β : Int} {ρ : Nat → Int} {p f : Nat} {x y : Int} (r : RT U0 t β (fun _ => t + 1) ρ V U) (hN : 1 ≤ U0 62 22 ∧ U0 62 22 ≤ 16) (hp : (p : Int) < U0 62 17) (h92 : U 92 p = -1) (hf : (f : Int) < U0 62 22 ∧ U 86 f = 2 ∧ U 89 f = (p : Int)) (hx : 0 ≤ x ∧ x ≤ 200) (hy : t + 1 ≤ y ∧ y ≤ t + 20) (ht : 0 ≤ t ∧ t ≤ 4319) : RT U0 t β (fun _ => t + 1) (fun q => if q = p then t + 1 else ρ q) (loadV V p f x y) (loadU U p f x y) := by
  obtain ⟨a, b, c, d, pa, ps, ga⟩ := r
  obtain ⟨v0, v38, v39, v40, v42⟩ := loadV_at V p f x y
  obtain ⟨u0, u91, u92, u93, u86⟩ := loadU_at U p f x y
  generalize loadV V p f x y = V2 at *
  generalize loadU U p f x y = U2 at *
  obtain ⟨f1, f2, f3⟩ := hf
  have w44 := v0 44 (by omega) (by omega) (by omega) (by omega)
  have w43 := v0 43 (by omega) (by omega) (by omega) (by omega)
  have w41 := v0 41 (by omega) (by omega) (by omega) (by omega)
  have x88 := u0 88 (by omega) (by omega) (by omega) (by omega)
  have x89 := u0 89 (by omega) (by omega) (by omega) (by omega)
  have x90 := u0 90 (by omega) (by omega) (by omega) (by omega)
  have x87 := u0 87 (by omega) (by omega) (by omega) (by omega)
  have x62 := u0 62 (by omega) (by omega) (by omega) (by omega)
  have x101 := u0 101 (by omega) (by omega) (by omega) (by omega)
  have x102 := u0 102 (by omega) (by omega) (by omega) (by omega)
  have x108 := u0 108 (by omega) (by omega) (by omega) (by omega)
  refine ⟨fun k hk => ?_, fun k hk => ?_, fun k hk => ?_, fun k k' hk hk' => ?_, fun q hq => ?_, fun q hq => ?_, ?_⟩
  · rw [v42, u86]
    by_cases e : k = f
    · rw [if_pos e, if_pos e]; omega
    · rw [if_neg e, if_neg e]; exact a k hk
  · rw [u86, w44, x90, x62, x101, x102, x89, x108, u92]
    by_cases e : k = f
    · subst e
      rw [if_pos rfl]
      obtain ⟨b1, b2, b3, b4, b5, b6, b7⟩ := b k hk (by omega)
      exact fun _ => ⟨b1, b2, b3, b4, b5, b6, fun z => by rw [if_pos (by omega)]⟩
    · rw [if_neg e]
      intro hz
      obtain ⟨b1, b2, b3, b4, b5, b6, b7⟩ := b k hk hz
      refine ⟨b1, b2, b3, b4, b5, b6, fun z => ?_⟩
      have := b7 z
      by_cases e2 : (U 89 k).toNat = p
      · rw [e2, h92] at this; omega
      · rw [if_neg e2]; exact this
  · rw [u86, w43, x87, x88, x62]
    by_cases e : k = f
    · rw [if_pos e]
      exact ⟨fun z => by omega, fun z => by omega⟩
    · rw [if_neg e]; exact c k hk
  · rw [u86, u86, w43, x88]
    by_cases e : k = f
    · rw [if_pos e]; intro z; omega
    · rw [if_neg e]
      by_cases e' : k' = f
      · rw [if_pos e']; intro _ z; omega
      · rw [if_neg e']; exact d k k' hk hk'
  · rw [v38, u91, v39, u92, v40, u93, u86, x89]
    obtain ⟨q1, q2, q3, q4⟩ := pa q hq
    by_cases e : q = p
    · subst e
      rw [if_pos rfl, if_pos rfl, if_pos rfl, if_pos rfl, if_pos rfl, if_pos rfl, show ((f : Int)).toNat = f by omega, if_pos rfl]
      refine ⟨rfl, hx, rfl, Or.inr ⟨by omega, rfl, f3, rfl, ?_, by omega⟩⟩
      dsimp only; rw [if_pos rfl]; omega
    · rw [if_neg e, if_neg e, if_neg e, if_neg e, if_neg e, if_neg e]
      refine ⟨q1, q2, q3, ?_⟩
      rcases q4 with q4 | ⟨z1, z2, z3, z4⟩
      · exact Or.inl q4
      · right
        have hne : (U 92 q).toNat ≠ f := by
          intro z
          rw [z, f3] at z3
          omega
        rw [if_neg hne]
        dsimp only
        rw [if_neg e]
        exact ⟨z1, z2, z3, z4⟩
  · rw [w41]
    have old := ps q hq
    rw [old]
    exact (sm_congr (fun k _ => by
      unfold cntS
      rw [u86, x89]
      by_cases e : k = f
      · subst e
        rw [if_pos rfl, f2, f3]
        by_cases e2 : (p : Int) = (q : Int)
        · rw [if_pos (by omega), if_pos (by omega)]
        · rw [if_neg (by omega), if_neg (by omega)]
      · rw [if_neg e])).symm
  · obtain ⟨A, A1, A2⟩ := ga
    refine ⟨A, by rw [x62]; exact A1, fun k hk => ?_⟩
    obtain ⟨z0, z1, z2, z3, z4, z5, z6⟩ := A2 k hk
    rw [u86, x87, x89, u93]
    by_cases e : k = f
    · subst e
      rw [if_pos rfl, f3, show ((p : Int)).toNat = p by omega, if_pos rfl]
      have := z3 f2
      exact ⟨z0, by omega, by omega, by omega, fun _ => by omega, by omega, by omega⟩
    · rw [if_neg e]
      refine ⟨z0, z1, z2, z3, fun z => ?_, z5, z6⟩
      have b7 := (b k hk (by omega)).2.2.2.2.2.2 z
      by_cases e2 : (U 89 k).toNat = p
      · rw [e2, h92] at b7; omega
      · rw [if_neg e2]; exact z4 z
