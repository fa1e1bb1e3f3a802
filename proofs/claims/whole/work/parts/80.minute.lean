/-! a minute, and a run -/
theorem ciF_c {s c t : Int} (h : 0 ≤ s ∧ s ≤ 5) : (ciF s c t = s ∧ ¬ (c = t ∧ (s = 1 ∨ s = 4))) ∨ (c = t ∧ s = 1 ∧ ciF s c t = 2) ∨ (c = t ∧ s = 4 ∧ ciF s c t = 5) := by
  unfold ciF
  by_cases e : c = t
  · rw [if_pos e]
    by_cases e1 : s = 1
    · rw [if_pos e1]; omega
    · rw [if_neg e1]
      by_cases e4 : s = 4
      · rw [if_pos e4]; omega
      · rw [if_neg e4]; omega
  · rw [if_neg e]; omega
theorem RJ.frame2 {U0 V V2 U U2 : VV} {h : HP} (r : RJ U0 V h U) (la : gLA V2 h U0 U2) (v28 : V2 28 = V 28) (vo : V2 h.2.1 = V h.2.1) (v37 : V2 37 6 = V 37 6) (v45 : V2 45 = V 45) (v46 : V2 46 = V 46) (u62 : ∀ x, 72 ≤ x → U2 62 x = U 62 x) (u90 : U2 90 = U 90) (u94 : U2 94 = U 94) (u95 : U2 95 = U 95) (u99 : U2 99 = U 99) (u100 : U2 100 = U 100) (u108 : U2 108 = U 108) (u86 : ∀ k : Nat, (k : Int) < U0 62 22 → (U2 86 k = 0 ↔ U 86 k = 0)) : RJ U0 V2 h U2 := by
  obtain ⟨-, lo, jo, jl⟩ := r
  have hb : sm (busy U2) (U0 62 22).toNat = sm (busy U) (U0 62 22).toNat := sm_congr (fun k hk => by
    unfold busy
    have := u86 k (by omega)
    by_cases e : U 86 k = 0
    · rw [if_pos e, if_pos (this.mpr e)]
    · rw [if_neg e, if_neg (fun z => e (this.mp z))])
  have hp : ∀ j : Nat, sm (pend U2 j) (U0 62 22).toNat = sm (pend U j) (U0 62 22).toNat := fun j => sm_congr (fun k hk => by
    unfold pend
    rw [u90, u99, u100]
    have := u86 k (by omega)
    by_cases e : U 86 k = 0
    · rw [if_neg (fun z => z.1 (this.mpr e)), if_neg (fun z => z.1 e)]
    · by_cases e2 : U 99 (U 90 k).toNat = (j : Int)
      · rw [if_pos ⟨fun z => e (this.mp z), e2⟩, if_pos ⟨e, e2⟩]
      · rw [if_neg (fun z => e2 z.2), if_neg (fun z => e2 z.2)])
  have hpre : ∀ n, preL V2 h U2 n = preL V h U n := fun n => by unfold preL; rw [vo, u100]
  refine ⟨la, ?_, ?_, ?_⟩
  · unfold gLO
    rw [v28, u62 72 (by omega), u62 73 (by omega), u62 75 (by omega), u62 79 (by omega), hb, vo, u108, hpre]
    unfold gLO at lo
    refine ⟨lo.1, lo.2.1, lo.2.2.1, fun i hi => ?_, lo.2.2.2.2.1, lo.2.2.2.2.2⟩
    rw [hpre]; exact lo.2.2.2.1 i hi
  · unfold gJO
    rw [v37, v45, u94, u95, u62 74 (by omega), u62 75 (by omega)]
    refine ⟨jo.1, jo.2.1, fun j hj => ?_⟩
    rw [hp]; exact jo.2.2 j hj
  · unfold gJL
    rw [v46, u62 74 (by omega), u62 75 (by omega), u95]; exact jl
theorem FR.mix {V0 U0 V U V2 U2 : VV} {h : HP} {t β tl : Int} {τ ρ : Nat → Int} (r : FR V0 U0 h t β tl τ ρ V U) (v0 : ∀ i, i ≠ 38 → V2 i = V i) (u0 : ∀ i, i ≠ 91 → U2 i = U i) (x : ∀ p : Nat, (p : Int) < U0 62 17 → V2 38 p = U2 91 p ∧ 0 ≤ U2 91 p ∧ U2 91 p ≤ 200) : FR V0 U0 h t β tl τ ρ V2 U2 := by
  obtain ⟨⟨cf, mf, hh⟩, ⟨rA, rB, rC, rD, rPA, rPS, rG⟩, rj, rp, l0, l1⟩ := r
  obtain ⟨i1, i2, i3⟩ := hh.lie
  have cf2 : CFr V0 V2 := by
    intro i k ek
    by_cases z : i = 38
    · subst z; cases ek
    · rw [v0 i z]; exact cf i k ek
  have mf2 : MFr U0 U2 := by
    intro i k ek
    by_cases z : i = 91
    · subst z; cases ek
    · rw [u0 i z]; exact mf i k ek
  have u62 := u0 62 (by omega)
  refine ⟨⟨cf2, mf2, hh⟩, ⟨?_, ?_, ?_, ?_, ?_, ?_, ?_⟩, ?_, rp.frame (fun i z => v0 i (by omega)) (fun i z => u0 i (by omega)), by rw [u62]; exact l0, by rw [u62]; exact l1.1, by unfold BGN; rw [u62, u0 104 (by omega), u0 107 (by omega)]; exact l1.2⟩
  · unfold gTA; rw [v0 42 (by omega), u0 86 (by omega)]; exact rA
  · unfold gTB; rw [v0 44 (by omega), u62, u0 86 (by omega), u0 89 (by omega), u0 90 (by omega), u0 92 (by omega), u0 101 (by omega), u0 102 (by omega), u0 108 (by omega)]; exact rB
  · unfold gTC; rw [v0 43 (by omega), u62, u0 86 (by omega), u0 87 (by omega), u0 88 (by omega)]; exact rC
  · unfold gTD; rw [v0 43 (by omega), u0 86 (by omega), u0 88 (by omega)]; exact rD
  · unfold gPA
    rw [v0 39 (by omega), v0 40 (by omega), u0 86 (by omega), u0 89 (by omega), u0 92 (by omega), u0 93 (by omega)]
    intro p hp
    obtain ⟨q1, q2, q3⟩ := rPA p hp
    obtain ⟨x1, x2⟩ := x p hp
    exact ⟨x1, x2, q3⟩
  · unfold gPS cntS; rw [v0 41 (by omega), u0 86 (by omega), u0 89 (by omega)]; exact rPS
  · unfold gGA; rw [u62, u0 86 (by omega), u0 87 (by omega), u0 89 (by omega), u0 93 (by omega)]; exact rG
  · obtain ⟨la, lo, jo, jl⟩ := id rj
    refine rj.frame ?_ (v0 _ (by omega)) (v0 _ (by omega)) (by rw [v0 37 (by omega)]) (v0 _ (by omega)) (v0 _ (by omega)) u62 (u0 _ (by omega)) (u0 _ (by omega)) (u0 _ (by omega)) (u0 _ (by omega)) (u0 _ (by omega)) (u0 _ (by omega)) (fun k hk => by rw [u0 86 (by omega)])
    unfold gLA
    rw [v0 28 (by omega), u62, v0 h.1 (by omega), u0 99 (by omega), u0 100 (by omega), u0 104 (by omega)]
    refine ⟨la.1, la.2.1, fun l hl => ⟨fun f hf => ?_, (la.2.2 l hl).2⟩⟩
    rw [u0 _ (by omega)]
    exact (la.2.2 l hl).1 f hf
theorem FR.come {V0 U0 V U V2 U2 : VV} {h : HP} {t : Int} {ρ : Nat → Int} (ht : 0 ≤ t ∧ t ≤ 4319) (r : FR V0 U0 h t t t (fun _ => t) ρ V U) (v0 : ∀ i, i ≠ 42 → V2 i = V i) (v42 : ∀ k : Nat, (k : Int) < U0 62 22 → V2 42 k = ciF (V 42 k) (V 43 k) t) (u0 : ∀ i, i ≠ 86 → i ≠ 88 → i ≠ 62 → U2 i = U i) (u62 : ∀ i, i ≠ 63 → U2 62 i = U 62 i) (u86 : ∀ k : Nat, (k : Int) < U0 62 22 → U2 86 k = ciF (U 86 k) (V 43 k) t) (ln : LnOK (U0 62 22) (V 43) U2) (l63 : 0 ≤ U2 62 63 ∧ U2 62 63 ≤ 16 * (t + 1)) : FR V0 U0 h t t (t + 1) (fun _ => t + 1) ρ V2 U2 := by
  obtain ⟨⟨cf, mf, hh⟩, ⟨rA, rB, rC, rD, rPA, rPS, rG⟩, rj, rp, l0, l1⟩ := r
  obtain ⟨i1, i2, i3⟩ := hh.lie
  have cf2 : CFr V0 V2 := by
    intro i k ek
    by_cases z : i = 42
    · subst z; cases ek
    · rw [v0 i z]; exact cf i k ek
  have mf2 : MFr U0 U2 := by
    intro i k ek
    by_cases z : i = 86 ∨ i = 88
    · rcases z with rfl | rfl <;> cases ek
    · by_cases z2 : i = 62
      · subst z2
        by_cases z3 : k = 63
        · subst z3; cases ek
        · rw [u62 k z3]; exact mf 62 k ek
      · rw [u0 i (by omega) (by omega) z2]; exact mf i k ek
  have ci := fun (k : Nat) (hk : (k : Int) < U0 62 22) => ciF_c (s := U 86 k) (c := V 43 k) (t := t) (rA k hk).2
  have x90 := u0 90 (by omega) (by omega) (by omega)
  refine ⟨⟨cf2, mf2, hh⟩, ⟨fun k hk => ?_, fun k hk => ?_, fun k hk => ?_, ?_, fun q hq => ?_, fun q hq => ?_, ?_⟩, ?_, rp.frame2 (fun i z => v0 i (by omega)) (fun k hk => u62 k (by omega)) (fun i z => u0 i (by omega) (by omega) (by omega)), l63.1, l63.2, by unfold BGN; rw [u62 72 (by omega), u0 104 (by omega) (by omega) (by omega), u0 107 (by omega) (by omega) (by omega)]; exact l1.2⟩
  · rw [v42 k hk, u86 k hk, (rA k hk).1]
    have := (rA k hk).2
    have := ci k hk
    exact ⟨rfl, by omega⟩
  · rw [u86 k hk, v0 44 (by omega), x90, u62 72 (by omega), u0 101 (by omega) (by omega) (by omega), u0 102 (by omega) (by omega) (by omega), u0 89 (by omega) (by omega) (by omega), u0 108 (by omega) (by omega) (by omega), u0 92 (by omega) (by omega) (by omega)]
    have c1 := ci k hk
    intro z
    obtain ⟨b1, b2, b3, b4, b5, b6, b7⟩ := rB k hk (by omega)
    exact ⟨b1, b2, b3, b4, b5, b6, fun y => b7 (by omega)⟩
  · have c1 := ci k hk
    obtain ⟨d1, d2⟩ := rC k hk
    have l1 := ln.1 k hk
    rw [u86 k hk] at l1
    rw [u86 k hk, v0 43 (by omega), u0 87 (by omega) (by omega) (by omega)]
    dsimp only at d1 d2 ⊢
    refine ⟨fun z => ?_, fun z => ⟨?_, l1 z⟩⟩
    · have := d1 (by omega)
      omega
    · by_cases y : U 86 k = 2 ∨ U 86 k = 5
      · have := d2 y; omega
      · have := d1 (by omega)
        omega
  · unfold gTD; rw [v0 43 (by omega)]; exact ln.2
  · rw [v0 38 (by omega), v0 39 (by omega), v0 40 (by omega), u0 91 (by omega) (by omega) (by omega), u0 92 (by omega) (by omega) (by omega), u0 89 (by omega) (by omega) (by omega), u0 93 (by omega) (by omega) (by omega)]
    obtain ⟨q1, q2, q3, q4⟩ := rPA q hq
    refine ⟨q1, q2, q3, ?_⟩
    rcases q4 with q4 | ⟨z1, z2, z3⟩
    · exact Or.inl q4
    · right
      have c1 := ci (U 92 q).toNat (by omega)
      rw [u86 _ (by omega)]
      exact ⟨z1, by omega, z3⟩
  · rw [v0 41 (by omega), rPS q hq]
    exact (sm_congr (fun k hk => by
      have c1 := ci k (by omega)
      unfold cntS
      rw [u86 k (by omega), u0 89 (by omega) (by omega) (by omega)]
      by_cases z : (1 ≤ U 86 k ∧ U 86 k ≤ 3) ∧ U 89 k = (q : Int)
      · rw [if_pos z, if_pos ⟨by omega, z.2⟩]
      · rw [if_neg z, if_neg (fun y => z ⟨by omega, y.2⟩)])).symm
  · obtain ⟨A, A1, A2⟩ := rG
    refine ⟨A, by rw [u62 72 (by omega)]; exact A1, fun k hk => ?_⟩
    obtain ⟨z0, z1, z2, z3, z4, z5, z6⟩ := A2 k hk
    have c1 := ci k hk
    have d1 := (rC k hk).1
    rw [u86 k hk, u0 87 (by omega) (by omega) (by omega), u0 89 (by omega) (by omega) (by omega), u0 93 (by omega) (by omega) (by omega)]
    refine ⟨z0, fun y => z1 (by omega), fun y => z2 (by omega), fun y => ?_, fun y => z4 (by omega), fun y => z5 (by omega), fun y => ?_⟩
    · by_cases w : U 86 k = 2
      · exact z3 w
      · have := z2 (by omega)
        have := d1 (by omega)
        omega
    · by_cases w : U 86 k = 5
      · exact z6 w
      · have := z5 (by omega)
        have := d1 (by omega)
        omega
  · obtain ⟨la, lo, jo, jl⟩ := id rj
    refine rj.frame2 ?_ (v0 _ (by omega)) (v0 _ (by omega)) (by rw [v0 37 (by omega)]) (v0 _ (by omega)) (v0 _ (by omega)) (fun x hx => u62 x (by omega)) x90 (u0 _ (by omega) (by omega) (by omega)) (u0 _ (by omega) (by omega) (by omega)) (u0 _ (by omega) (by omega) (by omega)) (u0 _ (by omega) (by omega) (by omega)) (u0 _ (by omega) (by omega) (by omega)) (fun k hk => by
      have c1 := ci k hk
      rw [u86 k hk]; omega)
    unfold gLA
    rw [v0 28 (by omega), u62 72 (by omega), v0 h.1 (by omega), u0 99 (by omega) (by omega) (by omega), u0 100 (by omega) (by omega) (by omega), u0 104 (by omega) (by omega) (by omega)]
    refine ⟨la.1, la.2.1, fun l hl => ⟨fun f hf => ?_, (la.2.2 l hl).2⟩⟩
    rw [u0 _ (by omega) (by omega) (by omega)]
    exact (la.2.2 l hl).1 f hf
def MR (V0 U0 : VV) (h : HP) (t : Int) (V U : VV) : Prop := FR V0 U0 h t t t (fun _ => t) (fun _ => t) V U
theorem minute {V0 U0 V U : VV} {h : HP} {t : Int} {k8 : VV → HP → Int → Option ((VV × HP) × Int)} {k7 : VV → Int → Int → Option (VV × Int)} {Q : (VV × HP) × Int → VV × Int → Prop} (e : EN V0 U0) (ht : 0 ≤ t ∧ t ≤ 4319) (r : MR V0 U0 h t V U) (K : ∀ h V2 U2, MR V0 U0 h (t + 1) V2 U2 → Two (k8 V2 h (t + 1)) (k7 U2 (V0 37 4) (t + 1)) Q) : Two (Option.bind (f_Haulage_makeMix V t) (fun q3 => Option.bind (f_Haulage_comeIn q3 t) (fun q4 => f_Paving_isDone_13 k8 FU q4 h t 0))) (f_Mo_goes_10 k7 FU U (V0 37 4) t 0) Q := by
  have r' : FR V0 U0 h t t t (fun _ => t) (fun _ => t) V U := r
  obtain ⟨nN, nP, nw, np, -, ha⟩ := e.nv r'.1
  have pl := fun (p : Nat) hp => e.pl r'.1 (p := p) hp
  have rPA := r'.2.1.2.2.2.2.1
  -- who is shut
  have hs : ∀ (W : VV), HC V W → ∀ p : Nat, (p : Int) < V 10 4 → f_Hours_isShut W (V0 37 4) (p : Int) t = f_Hours_isShut V (V0 37 4) (p : Int) t := by
    intro W hW p hp
    have h1 := ((ha W U hW ⟨rfl, fun _ _ _ => rfl⟩ t ht.1 ht.2).2 p (by omega) (by omega)).1
    have h2 := ((ha V U (fun _ _ _ => rfl) ⟨rfl, fun _ _ _ => rfl⟩ t ht.1 ht.2).2 p (by omega) (by omega)).1
    rw [h2] at h1
    exact (Option.some.inj h1).symm
  have hsM : ∀ (W : VV), HM U W → ∀ p : Nat, (p : Int) < U 62 17 → f_Mo_isShut W (V0 37 4) (p : Int) t = some (f_Hours_isShut V (V0 37 4) (p : Int) t) := fun W hW p hp => ((ha V W (fun _ _ _ => rfl) hW t ht.1 ht.2).2 p (by omega) (by omega)).1
  refine Two.bindL (mixC (V0 := V) (w := V0 37 4) (s := fun p => f_Hours_isShut V (V0 37 4) (p : Int) t) (by omega) nw.1 hs (fun p hp => by
    obtain ⟨p1, p2, p3, p4⟩ := pl p (by omega)
    have := rPA p (by omega)
    omega)) (fun V1 hV1 => ?_)
  obtain ⟨v1, v38⟩ := hV1
  refine Two.ofR (mixM (U0 := U) (w := V0 37 4) (s := fun p => f_Hours_isShut V (V0 37 4) (p : Int) t) (by omega) hsM (fun p hp => by
    obtain ⟨p1, p2, p3, p4⟩ := pl p (by omega)
    have e72 := r'.1.2.1 72 p rfl
    have e73 := r'.1.2.1 73 p rfl
    have := rPA p (by omega)
    omega) (fun U1 u1 u91 => Two.toR ?_) 3 FU U 0 (by omega) (by decide) (by omega) (by omega) (fun _ _ => rfl) (fun i => by rw [if_neg (by omega)]))
  have r1 : FR V0 U0 h t t t (fun _ => t) (fun _ => t) V1 U1 := by
    refine r'.mix v1 u1 (fun p hp => ?_)
    obtain ⟨p1, p2, p3, p4⟩ := pl p (by omega)
    obtain ⟨q1, q2, -⟩ := rPA p hp
    have e72 := r'.1.2.1 72 p rfl
    have e73 := r'.1.2.1 73 p rfl
    rw [v38 p (by omega), u91 p (by omega), p2.1, p3.1, q1]
    exact ⟨rfl, mixF_bd q2 p3.2 p2.2⟩
  obtain ⟨nN1, nP1, nw1, np1, -, ha1⟩ := e.nv r1.1
  obtain ⟨rA, rB, rC, rD, -⟩ := r1.2.1
  refine Two.bindL (ciC (V0 := V1) (by omega)) (fun V2 hV2 => ?_)
  obtain ⟨v2, v42⟩ := hV2
  refine Two.bindR (ciM (U0 := U1) (c := V1 43) ht (by omega) ⟨r1.2.2.2.2.1, r1.2.2.2.2.2.1⟩ (fun k hk z => by
    have := (rC k (by omega)).1 z
    dsimp only at this
    omega) (fun k hk z => by
    have := (rC k (by omega)).2 z
    dsimp only at this
    omega) ⟨fun k hk z => ((rC k (by omega)).2 z).2, fun k k' hk hk' => rD k k' (by omega) (by omega)⟩) (fun U2 hU2 => ?_)
  obtain ⟨u2, u62, u86, ln, lb⟩ := hU2
  have r2 : FR V0 U0 h t t (t + 1) (fun _ => t + 1) (rhoN t 0) V2 U2 := by
    have e0 : rhoN t 0 = (fun _ => t) := by funext q; unfold rhoN; rw [if_neg (by omega)]
    rw [e0]
    refine r1.come ht v2 (fun k hk => v42 k (by omega)) u2 u62 (fun k hk => ?_) ?_ lb
    · rw [u86 k (by omega)]
    · rw [nN1.2.1] at ln; exact ln
  rw [plC_eq]
  refine Two.bind2 (plants (tl := t + 1) e ht 3 FU FU V2 U2 0 (by omega) (by decide) (by decide) (by omega) r2) (fun V3 U3 r3 => ?_)
  rw [orM_eq]
  obtain ⟨nN3, -⟩ := e.nv r3.1
  refine Two.bind2 (orders (tl := t + 1) e ht 16 FU FU V3 h U3 0 (by omega) (by decide) (by decide) (by omega) r3) (fun q2 U4 r4 => ?_)
  obtain ⟨nN4, nP4, nw4, np4, -, ha4⟩ := e.nv r4.1
  have op := (ha4 q2.1 U4 (fun _ _ _ => rfl) ⟨rfl, fun _ _ _ => rfl⟩ t ht.1 ht.2).1
  rw [op, nw4.2.1]
  refine Two.bindR (P := fun x => x = f_Hours_isOpen q2.1 (V0 37 4) t) (Sm.ok rfl) (fun x hx => ?_)
  rw [hx]
  by_cases go : f_Hours_isOpen q2.1 (V0 37 4) t = 0
  · rw [if_pos go, if_pos go]
    show Two (k8 q2.1 q2.2 (w32 (t + 1))) (k7 U4 (V0 37 4) (w32 (t + 1))) Q
    rw [w32_id (by omega) (by omega)]
    exact K q2.2 q2.1 U4 (r4.beta.tick ht)
  · rw [if_neg go, if_neg go]
    refine Two.bind2 (pave2 e ht r4.beta) (fun V5 U5 r5 => ?_)
    have key := K q2.2 V5 (stopU (U4 62 73) U5) r5
    show Two (k8 V5 q2.2 (w32 (t + 1))) (if (U5 62 73) = (U4 62 73) then if (U5 62 78) < 0 then k7 U5 (V0 37 4) (w32 (t + 1)) else k7 (up U5 62 76 (w32 ((U5 62 76) + 1))) (V0 37 4) (w32 (t + 1)) else k7 U5 (V0 37 4) (w32 (t + 1))) Q
    rw [w32_id (x := t + 1) (by omega) (by omega)]
    unfold stopU at key
    refine Two.iteR (fun g => ?_) (fun g => ?_)
    · rw [if_pos g] at key
      refine Two.iteR (fun g2 => ?_) (fun g2 => ?_)
      · rw [if_pos g2] at key; exact key
      · rw [if_neg g2] at key; exact key
    · rw [if_neg g] at key; exact key
/-- what a run comes to -/
def RunR (V0 U0 : VV) (q : (VV × HP) × Int) (z : VV × Int) : Prop := ∃ (V : VV) (T : Int), q.1.1 = up V 46 7 1 ∧ MR V0 U0 q.1.2 T V z.1 ∧ (0 ≤ T ∧ T ≤ 4320) ∧ q.2 = z.2 ∧ z.2 = if z.1 62 74 = U0 62 13 then 1 else 0
theorem runs {V0 U0 : VV} (e : EN V0 U0) : ∀ (k n m : Nat) (V : VV) (h : HP) (U : VV) (t : Int), 4320 - t ≤ (k : Int) → k < n → k < m → 0 ≤ t → t ≤ 4320 → MR V0 U0 h t V U → Two (f_Paving_isDone_8 n V h t) (f_Mo_goes_7 m U (V0 37 4) t) (RunR V0 U0) := by
  have fin : ∀ (V : VV) (h : HP) (U : VV) (t : Int), 0 ≤ t → t ≤ 4320 → MR V0 U0 h t V U → Two (f_Paving_isDone_21 V h) (f_Mo_goes_41 U) (RunR V0 U0) := by
    intro V h U t h0 h1 r
    have r' : FR V0 U0 h t t t (fun _ => t) (fun _ => t) V U := r
    obtain ⟨jb1, jb2, jb3, jb4, -, -, -⟩ := e.jobs r'.1
    have j9 := r'.2.2.1.2.2.2.2.2.2.2.2.2.2.2
    unfold f_Paving_isDone_21 f_Mo_goes_41
    rw [jb2]
    refine Two.posL (by rw [j9]; split <;> omega) (Two.ok ⟨V, t, rfl, r, ⟨h0, h1⟩, ?_, rfl⟩)
    dsimp only
    rw [j9]
  intro k
  induction k with
  | zero =>
    intro n m V h U t e1 e2 e3 h0 h1 r
    cases n with
    | zero => omega
    | succ n =>
      cases m with
      | zero => omega
      | succ m =>
        show Two (if t < 4320 then _ else f_Paving_isDone_21 V h) (if 4319 < t then f_Mo_goes_41 U else _) _
        exact Two.negL (by omega) (Two.posR (by omega) (fin V h U t h0 h1 r))
  | succ k ih =>
    intro n m V h U t e1 e2 e3 h0 h1 r
    cases n with
    | zero => omega
    | succ n =>
      cases m with
      | zero => omega
      | succ m =>
        have r' : FR V0 U0 h t t t (fun _ => t) (fun _ => t) V U := r
        obtain ⟨jb1, jb2, jb3, jb4, -, -, -⟩ := e.jobs r'.1
        have j2 := r'.2.2.1.2.2.2.2.1
        have j9 := r'.2.2.1.2.2.2.2.2.2.2.2.2.2.2
        show Two (if t < 4320 then if (V 46 8) = 0 then Option.bind (f_Haulage_makeMix V t) (fun q3 => Option.bind (f_Haulage_comeIn q3 t) (fun q4 => f_Paving_isDone_13 (f_Paving_isDone_8 n) FU q4 h t 0)) else f_Paving_isDone_21 V h else f_Paving_isDone_21 V h) (if 4319 < t then f_Mo_goes_41 U else if (U 62 74) < (U 62 13) then f_Mo_goes_10 (f_Mo_goes_7 m) FU U (V0 37 4) t 0 else f_Mo_goes_41 U) _
        refine Two.iteL (fun g => Two.negR (by omega) ?_) (fun g => Two.posR (by omega) (fin V h U t h0 h1 r))
        by_cases gj : U 62 74 < U0 62 13
        · rw [if_pos (show V 46 8 = 0 by rw [j9, if_neg (by omega)]), if_pos (show U 62 74 < U 62 13 by omega)]
          exact minute e (by omega) r (fun h V2 U2 r2 => ih n m V2 h U2 (t + 1) (by omega) (by omega) (by omega) (by omega) (by omega) r2)
        · rw [if_neg (show ¬ V 46 8 = 0 by rw [j9, if_pos (by omega)]; omega), if_neg (show ¬ U 62 74 < U 62 13 by omega)]
          exact fin V h U t h0 h1 r
