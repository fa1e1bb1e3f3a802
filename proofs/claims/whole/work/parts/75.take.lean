/-! (5) the paver takes a load -/
def wai (U : VV) (k : Nat) : Int := if U 86 k = 5 then 1 else 0
theorem wai_off {U0 U U2 : VV} {k : Nat} (hk : (k : Int) < U0 62 22) (h86 : U 86 k = 5) (u86 : ∀ x, U2 86 x = if x = k then 0 else U 86 x) : sm (wai U2) (U0 62 22).toNat = sm (wai U) (U0 62 22).toNat - 1 := by
  have := sm_upd (f := wai U) (g := wai U2) (k := k) (n := (U0 62 22).toNat) (by omega) (fun i _ hi => by unfold wai; rw [u86, if_neg hi])
  have h1 : wai U k = 1 := by unfold wai; rw [if_pos h86]
  have h2 : wai U2 k = 0 := by unfold wai; rw [u86, if_pos rfl, if_neg (by omega)]
  omega
/-- trucks and plants when a truck that stood at the paver is free -/
theorem RT.free {U0 V U V2 U2 : VV} {t : Int} {k l : Nat} (ht : 0 ≤ t) (r : RT U0 t (t + 1) (fun _ => t + 1) (fun _ => t + 1) V U) (hk : (k : Int) < U0 62 22) (h86 : U 86 k = 5) (hl : U 90 k = (l : Int)) (v : ∀ i, 38 ≤ i → i ≤ 44 → i ≠ 42 → V2 i = V i) (v42 : ∀ x, V2 42 x = if x = k then 0 else V 42 x) (u : ∀ i, (87 ≤ i ∧ i ≤ 93) ∨ i = 101 ∨ i = 102 → U2 i = U i) (u86 : ∀ x, U2 86 x = if x = k then 0 else U 86 x) (u108 : ∀ l', l' ≠ l → U2 108 l' = U 108 l') (u63 : U2 62 63 = U 62 63) (u72 : U2 62 72 = U 62 72) : RT U0 t (t + 1) (fun _ => t + 1) (fun _ => t + 1) V2 U2 := by
  obtain ⟨rA, rB, rC, rD, rPA, rPS, rGA⟩ := r
  have x87 := u 87 (by omega)
  have x88 := u 88 (by omega)
  have x89 := u 89 (by omega)
  have x90 := u 90 (by omega)
  have x91 := u 91 (by omega)
  have x92 := u 92 (by omega)
  have x93 := u 93 (by omega)
  have x101 := u 101 (by omega)
  have x102 := u 102 (by omega)
  have w38 := v 38 (by omega) (by omega) (by omega)
  have w39 := v 39 (by omega) (by omega) (by omega)
  have w40 := v 40 (by omega) (by omega) (by omega)
  have w41 := v 41 (by omega) (by omega) (by omega)
  have w43 := v 43 (by omega) (by omega) (by omega)
  have w44 := v 44 (by omega) (by omega) (by omega)
  have bk := rB k hk (by omega)
  refine ⟨fun k' hk' => ?_, fun k' hk' => ?_, fun k' hk' => ?_, fun k' k2 hk' hk2 => ?_, fun q hq => ?_, fun q hq => ?_, ?_⟩
  · rw [v42, u86]
    by_cases e : k' = k
    · rw [if_pos e, if_pos e]; omega
    · rw [if_neg e, if_neg e]; exact rA k' hk'
  · rw [u86, w44, x90, u72, x101, x102, x89, x92]
    by_cases e : k' = k
    · rw [if_pos e]; intro z; omega
    · rw [if_neg e]
      intro hz
      obtain ⟨b1, b2, b3, b4, b5, b6, b7⟩ := rB k' hk' hz
      have hne : (U 90 k').toNat ≠ l := by
        intro z
        have e1 := bk.2.2.1
        rw [hl, Int.toNat_natCast, ← z, b3] at e1
        omega
      rw [u108 _ hne]
      exact ⟨b1, b2, b3, b4, b5, b6, b7⟩
  · rw [u86, w43, x87, x88, u63]
    by_cases e : k' = k
    · rw [if_pos e]; exact ⟨fun z => by omega, fun z => by omega⟩
    · rw [if_neg e]; exact rC k' hk'
  · rw [u86, u86, w43, x88]
    by_cases e : k' = k
    · rw [if_pos e]; intro z; omega
    · rw [if_neg e]
      by_cases e' : k2 = k
      · rw [if_pos e']; intro _ z; omega
      · rw [if_neg e']; exact rD k' k2 hk' hk2
  · rw [w38, x91, w39, x92, w40, x93, u86, x89]
    obtain ⟨q1, q2, q3, q4⟩ := rPA q hq
    refine ⟨q1, q2, q3, ?_⟩
    rcases q4 with q4 | ⟨z1, z2, z3, z4⟩
    · exact Or.inl q4
    · right
      have hne : (U 92 q).toNat ≠ k := by
        intro z
        rw [z, h86] at z2
        omega
      rw [if_neg hne]
      exact ⟨z1, z2, z3, z4⟩
  · rw [w41, rPS q hq]
    exact (sm_congr (fun i _ => by
      unfold cntS
      rw [u86, x89]
      by_cases e : i = k
      · subst e; rw [if_pos rfl, h86, if_neg (by omega), if_neg (by omega)]
      · rw [if_neg e])).symm
  · obtain ⟨A, A1, A2⟩ := rGA
    refine ⟨A, by rw [u72]; exact A1, fun k' hk' => ?_⟩
    obtain ⟨z0, z1, z2, z3, z4, z5, z6⟩ := A2 k' hk'
    rw [u86, x87, x89, x93]
    by_cases e : k' = k
    · subst e
      rw [if_pos rfl]
      have := z6 h86
      exact ⟨z0, fun _ => by omega, by omega, by omega, by omega, by omega, by omega⟩
    · rw [if_neg e]
      exact ⟨z0, z1, z2, z3, z4, z5, z6⟩
theorem busy_off {U0 U U2 : VV} {k : Nat} (hk : (k : Int) < U0 62 22) (h86 : U 86 k = 5) (u86 : ∀ x, U2 86 x = if x = k then 0 else U 86 x) : sm (busy U2) (U0 62 22).toNat = sm (busy U) (U0 62 22).toNat - 1 := by
  have := sm_upd (f := busy U) (g := busy U2) (k := k) (n := (U0 62 22).toNat) (by omega) (fun i _ hi => by unfold busy; rw [u86, if_neg hi])
  have h1 : busy U k = 1 := by unfold busy; rw [if_neg (by omega)]
  have h2 : busy U2 k = 0 := by unfold busy; rw [u86, if_pos rfl, if_pos rfl]
  omega
theorem pend_off {U0 U U2 : VV} {k l j : Nat} {n : Int} (hk : (k : Int) < U0 62 22) (h86 : U 86 k = 5) (hl : U 90 k = (l : Int)) (hn : U 100 l = n) (u86 : ∀ x, U2 86 x = if x = k then 0 else U 86 x) (u90 : U2 90 = U 90) (u99 : U2 99 = U 99) (u100 : U2 100 = U 100) : sm (pend U2 j) (U0 62 22).toNat = sm (pend U j) (U0 62 22).toNat - (if U 99 l = (j : Int) then n else 0) := by
  have := sm_upd (f := pend U j) (g := pend U2 j) (k := k) (n := (U0 62 22).toNat) (by omega) (fun i _ hi => by unfold pend; rw [u86, if_neg hi, u90, u99, u100])
  have h1 : pend U j k = if U 99 l = (j : Int) then n else 0 := by
    unfold pend
    rw [hl, Int.toNat_natCast, hn]
    by_cases e : U 99 l = (j : Int)
    · rw [if_pos ⟨by omega, e⟩, if_pos e]
    · rw [if_neg (fun z => e z.2), if_neg e]
  have h2 : pend U2 j k = 0 := by unfold pend; rw [u86, if_pos rfl, if_neg (fun z => z.1 rfl)]
  omega
theorem FR.takeR {V0 U0 V U V2 U2 : VV} {h : HP} {t tl n x : Int} {k l hd : Nat} (ht : 0 ≤ t ∧ t ≤ 4319) (r : FR V0 U0 h t (t + 1) tl (fun _ => t + 1) (fun _ => t + 1) V U) (hk : (k : Int) < U0 62 22) (h86 : U 86 k = 5) (hl : U 90 k = (l : Int)) (hhd : U 62 74 = (hd : Int)) (h99 : U 99 l = (hd : Int)) (hn : U 100 l = n) (h75 : U 62 75 = 0) (cf : CFr V0 V2) (mf : MFr U0 U2)
    (v0 : ∀ i, i ≠ 37 → i ≠ 42 → i ≠ 45 → i ≠ 47 → i ≠ h.1 → V2 i = V i) (v37 : ∀ x, V2 37 x = if x = 6 then min (V 37 6) (hd : Int) else V 37 x) (v42 : ∀ x, V2 42 x = if x = k then 0 else V 42 x) (v45 : ∀ x, V2 45 x = if x = hd then U 94 hd - n else V 45 x) (v47 : ∀ x, V2 47 x = if x = 5 then V 47 5 + n else if x = 4 then V 47 4 + 1 else V 47 x) (la2 : gLA V2 h U0 U2)
    (u0 : ∀ i, i ≠ 62 → i ≠ 86 → i ≠ 94 → i ≠ 105 → i ≠ 106 → i ≠ 107 → U2 i = U i) (u62 : ∀ x, U2 62 x = if x = 80 then U 62 80 + n else if x = 79 then U 62 79 + 1 else U 62 x) (u86 : ∀ x, U2 86 x = if x = k then 0 else U 86 x) (u94 : ∀ x, U2 94 x = if x = hd then U 94 hd - n else U 94 x) (u107 : ∀ x, U2 107 x = if x = l then 1 else U 107 x) : FR V0 U0 h t (t + 1) tl (fun _ => t + 1) (fun _ => t + 1) V2 U2 := by
  obtain ⟨⟨cf0, mf0, hh⟩, rt, ⟨la, lo, jo, jl⟩, ⟨su, ca, ka⟩, l0, l1⟩ := r
  obtain ⟨i1, i2, i3⟩ := hh.lie
  obtain ⟨hb1, hb2, -⟩ := rt.2.1 k hk (by omega)
  have xx : ∀ i, i ≠ 62 → i ≠ 86 → i ≠ 94 → i ≠ 105 → i ≠ 106 → i ≠ 107 → U2 i = U i := u0
  have c : ∀ x, x ≠ 80 → x ≠ 79 → U2 62 x = U 62 x := fun x a b => by rw [u62, if_neg a, if_neg b]
  have c79 : U2 62 79 = U 62 79 + 1 := by rw [u62, if_neg (by omega), if_pos rfl]
  have c80 : U2 62 80 = U 62 80 + n := by rw [u62, if_pos rfl]
  have x90 : U2 90 = U 90 := u0 90 (by omega) (by omega) (by omega) (by omega) (by omega) (by omega)
  have x95 : U2 95 = U 95 := u0 95 (by omega) (by omega) (by omega) (by omega) (by omega) (by omega)
  have x99 : U2 99 = U 99 := u0 99 (by omega) (by omega) (by omega) (by omega) (by omega) (by omega)
  have x100 : U2 100 = U 100 := u0 100 (by omega) (by omega) (by omega) (by omega) (by omega) (by omega)
  have x104 : U2 104 = U 104 := u0 104 (by omega) (by omega) (by omega) (by omega) (by omega) (by omega)
  have x108 : U2 108 = U 108 := u0 108 (by omega) (by omega) (by omega) (by omega) (by omega) (by omega)
  have w28 : V2 28 = V 28 := v0 28 (by omega) (by omega) (by omega) (by omega) (by omega)
  have w46 : V2 46 = V 46 := v0 46 (by omega) (by omega) (by omega) (by omega) (by omega)
  have wo : V2 h.2.1 = V h.2.1 := v0 _ (by omega) (by omega) (by omega) (by omega) (by omega)
  have lr := la.2.2 l (by omega)
  have h99r := lr.2.1
  have hnr := lr.2.2.1
  have hbo := busy_off hk h86 u86
  have hpo := fun j => pend_off (j := j) hk h86 hl hn u86 x90 x99 x100
  have pre : ∀ i, preL V2 h U2 i = preL V h U i := fun i => by unfold preL; rw [wo, x100]
  refine ⟨⟨cf, mf, hh⟩, rt.free (l := l) ht.1 hk h86 hl (fun i a b c => v0 i (by omega) c (by omega) (by omega) (by omega)) v42 (fun i a => u0 i (by omega) (by omega) (by omega) (by omega) (by omega) (by omega)) u86 (fun l' _ => by rw [x108]) (c 63 (by omega) (by omega)) (c 72 (by omega) (by omega)), ⟨la2, ?_, ?_, ?_⟩, ⟨?_, ?_, ?_⟩, by rw [c 63 (by omega) (by omega)]; exact l0, by rw [c 63 (by omega) (by omega)]; exact l1.1, by
    unfold BGN; rw [c 72 (by omega) (by omega), x104]; intro l' hl'; rw [u107]; refine ⟨(l1.2 l' hl').1, ?_⟩; split
    · exact Or.inr rfl
    · exact (l1.2 l' hl').2⟩
  · obtain ⟨o1, o2, o3, o4, o5, o6⟩ := lo
    unfold gLO
    rw [w28, c79, c 72 (by omega) (by omega), hbo, wo, x108, pre, c 73 (by omega) (by omega), c 75 (by omega) (by omega)]
    exact ⟨o1, by omega, by omega, fun i hi => by rw [pre]; exact o4 i hi, o5, o6⟩
  · obtain ⟨o1, o2, o3⟩ := jo
    unfold gJO
    rw [v37, if_pos rfl, c 74 (by omega) (by omega), c 75 (by omega) (by omega), x95]
    refine ⟨by omega, fun j hj => ?_, fun j hj => ?_⟩
    · rw [u94, if_neg (by omega)]; exact o2 j (by omega)
    · obtain ⟨z1, z2, z3⟩ := o3 j hj
      rw [v45, u94, hpo]
      by_cases e : j = hd
      · subst e
        rw [if_pos rfl, if_pos rfl, if_pos h99]
        exact ⟨rfl, by omega, by omega⟩
      · rw [if_neg e, if_neg e, if_neg (by omega)]
        exact ⟨z1, by omega, z3⟩
  · unfold gJL
    rw [w46, c 74 (by omega) (by omega), c 75 (by omega) (by omega), x95]; exact jl
  · obtain ⟨s1, s2, s3, s4, s5, s6, s7, s8, s9⟩ := su
    unfold gSU
    rw [w46, v47, v47, v47, v47, v47, c79, c80, c 73 (by omega) (by omega), c 74 (by omega) (by omega), c 76 (by omega) (by omega), c 77 (by omega) (by omega), c 78 (by omega) (by omega), u0 97 (by omega) (by omega) (by omega) (by omega) (by omega) (by omega)]
    simp only [Nat.reduceEqDiff, reduceIte]
    exact ⟨s1, s2, s3, s4, by omega, by omega, by omega, s8, s9⟩
  · unfold gCA
    rw [w46, c 74 (by omega) (by omega), c 75 (by omega) (by omega), v0 32 (by omega) (by omega) (by omega) (by omega) (by omega), v0 33 (by omega) (by omega) (by omega) (by omega) (by omega), v0 48 (by omega) (by omega) (by omega) (by omega) (by omega), u0 96 (by omega) (by omega) (by omega) (by omega) (by omega) (by omega), u0 97 (by omega) (by omega) (by omega) (by omega) (by omega) (by omega), u0 98 (by omega) (by omega) (by omega) (by omega) (by omega) (by omega)]
    exact ca
  · unfold gKA CoolK shJ mnJ
    rw [c 74 (by omega) (by omega), v0 8 (by omega) (by omega) (by omega) (by omega) (by omega), v0 15 (by omega) (by omega) (by omega) (by omega) (by omega), v0 33 (by omega) (by omega) (by omega) (by omega) (by omega), v0 34 (by omega) (by omega) (by omega) (by omega) (by omega), v0 35 (by omega) (by omega) (by omega) (by omega) (by omega), v0 36 (by omega) (by omega) (by omega) (by omega) (by omega), u0 98 (by omega) (by omega) (by omega) (by omega) (by omega) (by omega), u0 109 (by omega) (by omega) (by omega) (by omega) (by omega) (by omega)]
    exact ka
theorem FR.takeA {V0 U0 V U V2 U2 : VV} {h : HP} {t tl n x cx : Int} {k l hd : Nat} (ht : 0 ≤ t ∧ t ≤ 4319) (r : FR V0 U0 h t (t + 1) tl (fun _ => t + 1) (fun _ => t + 1) V U) (hk : (k : Int) < U0 62 22) (h86 : U 86 k = 5) (hl : U 90 k = (l : Int)) (hhd : U 62 74 = (hd : Int)) (hj : (hd : Int) < U0 62 13) (h99 : U 99 l = (hd : Int)) (hn : U 100 l = n) (h75 : U 62 75 = 0) (hx : 0 ≤ x ∧ x ≤ 200) (hcx : cx = if V 46 13 = 0 then x else min (U 98 hd) x) (cf : CFr V0 V2) (mf : MFr U0 U2)
    (v0 : ∀ i, i ≠ 28 → i ≠ 42 → i ≠ 46 → i ≠ h.1 → i ≠ h.2.1 → V2 i = V i) (v28 : ∀ x, V2 28 x = if x = 2 then V 28 2 + 1 else V 28 x) (v42 : ∀ x, V2 42 x = if x = k then 0 else V 42 x) (v46 : ∀ x, V2 46 x = if x = 15 then n else if x = 14 then cx else V 46 x) (vo : ∀ x, V2 h.2.1 x = if x = (V 28 2).toNat then (l : Int) else V h.2.1 x) (la2 : gLA V2 h U0 U2)
    (u0 : ∀ i, i ≠ 62 → i ≠ 86 → i ≠ 98 → i ≠ 105 → i ≠ 106 → i ≠ 108 → U2 i = U i) (u62 : ∀ x, U2 62 x = if x = 75 then n else U 62 x) (u86 : ∀ x, U2 86 x = if x = k then 0 else U 86 x) (u98 : ∀ x, U2 98 x = if x = hd then cx else U 98 x) (u108 : ∀ x, U2 108 x = if x = l then U 62 73 else U 108 x) : FR V0 U0 h t (t + 1) tl (fun _ => t + 1) (fun _ => t + 1) V2 U2 := by
  obtain ⟨⟨cf0, mf0, hh⟩, rt, ⟨la, lo, jo, jl⟩, ⟨su, ca, ka⟩, l0, l1⟩ := r
  obtain ⟨i1, i2, i3⟩ := hh.lie
  obtain ⟨hb1, hb2, hb3, hb4, hb5, hb6, -⟩ := rt.2.1 k hk (by omega)
  rw [hl, Int.toNat_natCast] at hb6
  have c : ∀ x, x ≠ 75 → U2 62 x = U 62 x := fun x a => by rw [u62, if_neg a]
  have c75 : U2 62 75 = n := by rw [u62, if_pos rfl]
  have x90 : U2 90 = U 90 := u0 90 (by omega) (by omega) (by omega) (by omega) (by omega) (by omega)
  have x94 : U2 94 = U 94 := u0 94 (by omega) (by omega) (by omega) (by omega) (by omega) (by omega)
  have x95 : U2 95 = U 95 := u0 95 (by omega) (by omega) (by omega) (by omega) (by omega) (by omega)
  have x99 : U2 99 = U 99 := u0 99 (by omega) (by omega) (by omega) (by omega) (by omega) (by omega)
  have x100 : U2 100 = U 100 := u0 100 (by omega) (by omega) (by omega) (by omega) (by omega) (by omega)
  have x104 : U2 104 = U 104 := u0 104 (by omega) (by omega) (by omega) (by omega) (by omega) (by omega)
  have lr := la.2.2 l (by omega)
  have hnr := lr.2.2.1
  have hbo := busy_off hk h86 u86
  have hpo := fun j => pend_off (j := j) hk h86 hl hn u86 x90 x99 x100
  obtain ⟨o1, o2, o3, o4, o5, o6⟩ := lo
  obtain ⟨m, hm⟩ : ∃ m : Nat, V 28 2 = (m : Int) := ⟨(V 28 2).toNat, by omega⟩
  have pre : ∀ i : Nat, i ≤ m → preL V2 h U2 i = preL V h U i := fun i hi => by
    unfold preL
    refine sm_congr (fun y hy => ?_)
    rw [vo, if_neg (by omega), x100]
  have pre1 : preL V2 h U2 (m + 1) = preL V h U m + n := by
    show preL V2 h U2 m + U2 100 (V2 h.2.1 m).toNat = _
    rw [pre m (by omega), vo, if_pos (by omega), Int.toNat_natCast, x100, hn]
  rw [hm, Int.toNat_natCast] at o6
  refine ⟨⟨cf, mf, hh⟩, rt.free (l := l) ht.1 hk h86 hl (fun i a b c => v0 i (by omega) c (by omega) (by omega) (by omega)) v42 (fun i a => u0 i (by omega) (by omega) (by omega) (by omega) (by omega) (by omega)) u86 (fun l' hl' => by rw [u108, if_neg hl']) (c 63 (by omega)) (c 72 (by omega)), ⟨la2, ?_, ?_, ?_⟩, ⟨?_, ?_, ?_⟩, by rw [c 63 (by omega)]; exact l0, by rw [c 63 (by omega)]; exact l1.1, by unfold BGN; rw [c 72 (by omega), x104, u0 107 (by omega) (by omega) (by omega) (by omega) (by omega) (by omega)]; exact l1.2⟩
  · unfold gLO
    rw [v28, if_pos rfl, hm, c 79 (by omega), c 72 (by omega), hbo, c 73 (by omega), c75, show ((m : Int) + 1).toNat = m + 1 by omega, pre1]
    refine ⟨by omega, o2, by omega, fun i hi => ?_, fun l' hl' => ?_, by omega, by omega⟩
    · rw [vo, hm, Int.toNat_natCast]
      by_cases e : i = m
      · subst e
        rw [if_pos rfl, Int.toNat_natCast, u108, if_pos rfl, pre i (by omega)]
        exact ⟨by omega, by omega⟩
      · rw [if_neg e]
        obtain ⟨z1, z2⟩ := o4 i (by omega)
        have : (V h.2.1 i).toNat ≠ l := by
          intro z
          rw [z, hb6] at z2
          have := sm_nn (f := fun i => U 100 (V h.2.1 i).toNat) (n := i) (fun y hy => by
            have := (o4 y (by omega)).1
            have := (la.2.2 (V h.2.1 y).toNat (by omega)).2.2.1
            omega)
          unfold preL at z2
          omega
        rw [u108, if_neg this, pre i (by omega)]
        exact ⟨z1, z2⟩
    · rw [u108]
      by_cases e : l' = l
      · subst e
        exact Or.inr ⟨m, by omega, by rw [vo, hm, Int.toNat_natCast, if_pos rfl]⟩
      · rw [if_neg e]
        rcases o5 l' (by omega) with z | ⟨i, z1, z2⟩
        · exact Or.inl z
        · exact Or.inr ⟨i, by omega, by rw [vo, if_neg (by omega)]; exact z2⟩
  · obtain ⟨o1, o2, o3⟩ := jo
    unfold gJO
    rw [v0 37 (by omega) (by omega) (by omega) (by omega) (by omega), v0 45 (by omega) (by omega) (by omega) (by omega) (by omega), x94, c 74 (by omega), c75, x95]
    refine ⟨o1, o2, fun j hj => ?_⟩
    obtain ⟨z1, z2, z3⟩ := o3 j hj
    rw [hpo]
    refine ⟨z1, ?_, z3⟩
    by_cases e : j = hd
    · subst e
      rw [if_pos h99, if_pos (by omega)]
      rw [if_pos (by omega)] at z2
      omega
    · rw [if_neg (by omega), if_neg (by omega)]
      rw [if_neg (by omega)] at z2
      omega
  · obtain ⟨j1, j2, j3, j4, j5, j6, j7, j8, j9⟩ := jl
    unfold gJL
    rw [v46, v46, v46, v46, c 74 (by omega), c75, x95]
    simp only [Nat.reduceEqDiff, reduceIte]
    exact ⟨j1, j2, j3, j4, j5, trivial, by omega, fun z => by omega, j9⟩
  · obtain ⟨s1, s2, s3, s4, s5, s6, s7, s8, s9⟩ := su
    unfold gSU
    rw [v46, v0 47 (by omega) (by omega) (by omega) (by omega) (by omega), c 79 (by omega), c 80 (by omega), c 73 (by omega), c 74 (by omega), c 76 (by omega), c 77 (by omega), c 78 (by omega), u0 97 (by omega) (by omega) (by omega) (by omega) (by omega) (by omega)]
    simp only [Nat.reduceEqDiff, reduceIte]
    exact ⟨s1, s2, s3, s4, s5, s6, s7, s8, s9⟩
  · obtain ⟨a1, a2, a3⟩ := ca
    unfold gCA
    rw [v46, v46, c 74 (by omega), c75, v0 32 (by omega) (by omega) (by omega) (by omega) (by omega), v0 33 (by omega) (by omega) (by omega) (by omega) (by omega), v0 48 (by omega) (by omega) (by omega) (by omega) (by omega), u0 96 (by omega) (by omega) (by omega) (by omega) (by omega) (by omega), u0 97 (by omega) (by omega) (by omega) (by omega) (by omega) (by omega), hhd, Int.toNat_natCast, u98, if_pos rfl]
    simp only [Nat.reduceEqDiff, reduceIte]
    rw [hhd, Int.toNat_natCast] at a2 a3
    refine ⟨fun j hj => ?_, a2, fun _ => ⟨trivial, ?_⟩⟩
    · rw [u98, if_neg (by omega)]; exact a1 j (by omega)
    · rw [hcx]
      split
      · exact hx
      · next z => have := a3 (Or.inl z); omega
  · unfold gKA CoolK shJ mnJ
    rw [c 74 (by omega), v0 8 (by omega) (by omega) (by omega) (by omega) (by omega), v0 15 (by omega) (by omega) (by omega) (by omega) (by omega), v0 33 (by omega) (by omega) (by omega) (by omega) (by omega), v0 34 (by omega) (by omega) (by omega) (by omega) (by omega), v0 35 (by omega) (by omega) (by omega) (by omega) (by omega), v0 36 (by omega) (by omega) (by omega) (by omega) (by omega), u0 109 (by omega) (by omega) (by omega) (by omega) (by omega) (by omega)]
    intro j hj
    rw [u98, if_neg (by omega)]
    exact ka j hj
