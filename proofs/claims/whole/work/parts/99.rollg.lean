/-! a rolled run -/
theorem monoU {N : Nat} {a b : Nat → Int} (h : ∀ j : Nat, j < N → 1 ≤ j → b (j - 1) ≤ a j ∧ a j ≤ b j) : ∀ k j : Nat, j + k < N → b j ≤ b (j + k) := by
  intro k
  induction k with
  | zero => intro j _; exact Int.le_refl _
  | succ k ih =>
    intro j hj
    have h1 := ih j (by omega)
    have h2 := h (j + k + 1) (by omega) (by omega)
    rw [show j + k + 1 - 1 = j + k by omega] at h2
    have : j + (k + 1) = j + k + 1 := by omega
    rw [this]
    omega
theorem RA.rf {c : Int} {V U : VV} {h : HP} (ra : RA V h U) (g : G c V h U) (nj : 0 < nJ V) : RF V U := by
  obtain ⟨g1, g2, g3, g4, g5, g6, g7, g8, g9, g10⟩ := g
  obtain ⟨s1, s2, s3, s4, s5, s6⟩ := g3
  have jb := fun (j : Nat) (hj : (j : Int) < nJ V) => ra.job s1 (j := j) hj
  have nb := s1.1.nJb
  have e13 : U 62 13 = nJ V := ra.2.2.2.2.1
  have e74 : U 62 74 = U 62 13 := ra.2.2.2.1
  have sj : SJobs V U := ra.2.2.2.2.2.2
  have e77 : U 62 77 = U 97 (nJ V - 1).toNat := by
    have := (ra.2.2.1.1.2.2.2.2.2.2.2.2 e74).2
    rw [this, e74, e13]
  have mo := monoU (N := (nJ V).toNat) (a := fun j => U 96 j) (b := fun j => U 97 j) (fun j hj h1 => (jb j (by omega)).2.2.2.2.1 h1)
  have wu := s4.2
  have e5 : U 62 29 = V 15 5 := wu 5 (by omega)
  have e6 : U 62 30 = V 15 6 := wu 6 (by omega)
  have e7 : U 62 31 = V 15 7 := wu 7 (by omega)
  have e8 : U 62 32 = V 15 8 := wu 8 (by omega)
  refine ⟨s1.1, s4.1, ⟨nj, nb.2, e13, s2.1, fun s hs => (s2.2.2.2.2.2.2.2.1 s hs).1⟩, g5.1, g5.2.1, g5.2.2, fun j hj => ?_, ?_⟩
  · obtain ⟨k1, k2, k3, k4, k5, k6, k7⟩ := jb j hj
    have z0 := (jb 0 (by omega)).2.1.1
    have m0 := mo j 0 (by omega)
    have m1 := mo ((nJ V).toNat - 1 - j) j (by omega)
    rw [show 0 + j = j by omega] at m0
    rw [show j + ((nJ V).toNat - 1 - j) = (nJ V - 1).toNat by omega] at m1
    refine ⟨k2, ?_, ?_, k6, ⟨by omega, by omega⟩, fun i hi => ?_⟩
    · rw [z0, k2.1]; exact m0
    · rw [e77, k2.1]; exact m1
    · have d69 : U 69 j = V 8 j := (sj.2.2 j hj).1
      rw [k7 i hi, d69, ← k3.1]
      unfold mnU mnJ
      rw [e5, e6, e7, e8]
  · rw [e77]
    exact (jb (nJ V - 1).toNat (by omega)).2.1.1.symm
theorem RA.la {c : Int} {V U V2 X : VV} {h : HP} (ra : RA V h U) (g : G c V h U) (nj : 0 < nJ V) (kr : ∀ i, ¬ (34 ≤ i ∧ i ≤ 36) → ¬ (55 ≤ i ∧ i ≤ 57) → i ≠ 49 → V2 i = V i) (ux : ∀ i, ¬ (112 ≤ i ∧ i ≤ 117) → X i = U i) (r56 : ∀ j : Nat, (j : Int) < nJ V → ∀ s : Nat, s < 3 → V2 56 (3 * j + s) = X 112 (3 * j + s) ∧ 0 ≤ V2 56 (3 * j + s) ∧ V2 56 (3 * j + s) ≤ 9) (ck : ∀ j : Nat, (j : Int) < nJ V → CoolK V2 j) : LA V2 X := by
  obtain ⟨rs, wm, f1, f2, f3, f4, f5, f6⟩ := ra.rf g nj
  have sd := g.2.2.1.1
  have wu := g.2.2.1.2.2.2.1.2
  have nJ2 : nJ V2 = nJ V := by unfold nJ; rw [kr 1 (by omega) (by omega) (by omega)]
  refine ⟨?_, ?_, ?_, ?_, fun s hs => ?_, fun j hj => ?_, fun j hj => ?_⟩
  · unfold RS; rw [kr 1 (by omega) (by omega) (by omega), kr 2 (by omega) (by omega) (by omega), kr 3 (by omega) (by omega) (by omega), kr 6 (by omega) (by omega) (by omega), kr 7 (by omega) (by omega) (by omega)]; exact rs
  · unfold WmOK; rw [kr 15 (by omega) (by omega) (by omega)]; exact wm
  · rw [nJ2, kr 1 (by omega) (by omega) (by omega), ux 62 (by omega)]; exact ⟨nj, f1.2.1, f1.2.2.1, f1.2.2.2.1⟩
  · rw [kr 15 (by omega) (by omega) (by omega), ux 62 (by omega)]; exact (wu 4 (by omega)).symm
  · rw [kr 54 (by omega) (by omega) (by omega), ux 79 (by omega)]; exact (f4 s hs).2.2
  · rw [nJ2] at hj; exact r56 j hj
  · rw [nJ2] at hj
    obtain ⟨k1, k2, k3, k4, k5, k6, k7⟩ := ra.job sd hj
    obtain ⟨b1, b2, b3, b4, b5, b6⟩ := f5 j hj
    refine ⟨ck j hj, ?_⟩
    unfold mnJ at b6 ⊢
    rw [kr 32 (by omega) (by omega) (by omega), kr 33 (by omega) (by omega) (by omega), kr 48 (by omega) (by omega) (by omega), kr 8 (by omega) (by omega) (by omega), kr 15 (by omega) (by omega) (by omega), ux 97 (by omega), ux 98 (by omega), ux 96 (by omega), ux 109 (by omega)]
    exact ⟨k2, k3, k4, k5, k6, b6⟩
/-- cooled rows, rolled rows: nothing else has changed -/
theorem CI.kr {V W : VV} {h : HP} (v : CI V h) (kr : ∀ i, ¬ (34 ≤ i ∧ i ≤ 36) → ¬ (55 ≤ i ∧ i ≤ 57) → i ≠ 49 → W i = V i) (ck : ∀ j : Nat, (j : Int) < nJ V → CoolK W j) (h12 : V 46 12 ≤ nJ V) : CI W h := by
  obtain ⟨hh, gh⟩ := v
  obtain ⟨i1, i2, i3⟩ := hh.lie
  have r : ∀ i, (i < 34 ∨ (37 ≤ i ∧ i ≤ 48) ∨ 123 ≤ i) → W i = V i := fun i hi => kr i (by omega) (by omega) (by omega)
  have ss : SS V W := ⟨fun i a b => r i (by omega), by rw [r 18 (by omega)], by rw [r 18 (by omega)], fun i a b => r i (by omega)⟩
  refine ⟨hh, fun hz => ?_⟩
  rw [r 46 (by omega)] at hz
  obtain ⟨B, h0, q, bC, hh0, sB, bb, eq, e2, rows, r37, e8, ck', x1, x2, x3, x4, x5⟩ := gh hz
  refine ⟨B, h0, q, bC, hh0, ss.sy.tr sB, ?_, eq, e2, fun i hi => ?_, ?_, ?_, fun j hj => ?_, ?_, x2.ss ss, ?_, ?_, ?_⟩
  · rw [r 46 (by omega)]; exact bb
  · rw [r i (by omega)]; exact rows i hi
  · rw [r 37 (by omega)]; exact r37
  · rw [r 46 (by omega)]; exact e8
  · rw [r 46 (by omega)] at hj
    exact ck j (by omega)
  · rw [nJ_ss ss]; exact x1
  · rw [r 46 (by omega), r 18 (by omega)]; exact x3
  · rw [r 46 (by omega)]; exact x4
  · rw [r 46 (by omega)]; exact x5
theorem kr_kq {V W : VV} (kr : ∀ i, ¬ (34 ≤ i ∧ i ≤ 36) → ¬ (55 ≤ i ∧ i ≤ 57) → i ≠ 49 → W i = V i) (h11 : W 49 11 = V 49 11) : KQ V W := by
  refine ⟨fun i hi => kr i (by omega) (by omega) (by omega), ?_, ?_, ?_, ?_, ?_, ?_, h11⟩
  · rw [kr 0 (by omega) (by omega) (by omega)]
  · rw [kr 0 (by omega) (by omega) (by omega)]
  · rw [kr 16 (by omega) (by omega) (by omega)]
  · rw [kr 18 (by omega) (by omega) (by omega)]
  · rw [kr 18 (by omega) (by omega) (by omega)]
  · rw [kr 26 (by omega) (by omega) (by omega)]
theorem kr_pk {V W : VV} (p : PKC V) (kr : ∀ i, ¬ (34 ≤ i ∧ i ≤ 36) → ¬ (55 ≤ i ∧ i ≤ 57) → i ≠ 49 → W i = V i) (h11 : W 49 11 = V 49 11) : PKC W := p.fr (kr_kq kr h11).ss (by rw [kr 0 (by omega) (by omega) (by omega)]) (kr 61 (by omega) (by omega) (by omega))
theorem G.kc {c : Int} {V U W : VV} {h : HP} (g : G c V h U) (k : KC V W) (h12 : V 46 12 ≤ nJ V) : G c W h U := by
  have r := k.1
  have kr : ∀ i, ¬ (34 ≤ i ∧ i ≤ 36) → ¬ (55 ≤ i ∧ i ≤ 57) → i ≠ 49 → W i = V i := fun i a _ _ => r i (by omega) (by omega) (by omega)
  have h11 : W 49 11 = V 49 11 := by rw [r 49 (by omega) (by omega) (by omega)]
  obtain ⟨c1, ⟨l1, l2⟩, s⟩ := g.1
  have ss := (kr_kq kr h11).ss
  refine g.fr ⟨c1.kr kr k.2 h12, ⟨?_, fun a b => ?_⟩, ?_⟩ ?_ (kr_kq kr h11) (kr_pk g.2.2.2.2.2.2.2.2.2 kr h11) MG.rf
  · rw [r 49 (by omega) (by omega) (by omega), r 46 (by omega) (by omega) (by omega)]; exact l1
  · rw [r 49 (by omega) (by omega) (by omega), r 46 (by omega) (by omega) (by omega)] at a
    rw [r 46 (by omega) (by omega) (by omega)] at b
    exact (l2 a b).fr ss (fun i hi => r i (by omega) (by omega) (by omega))
  · rw [r 46 (by omega) (by omega) (by omega)]; exact s
  · rw [r 46 (by omega) (by omega) (by omega)]; exact g.2.1
theorem RU.mg {V U X : VV} {t : Int} (u : RU V U X t) : MG U X := by
  intro i k e _
  refine congrFun (u.1 i (fun y => ?_)) k
  have : i = 112 ∨ i = 113 ∨ i = 114 ∨ i = 115 ∨ i = 116 ∨ i = 117 := by omega
  rcases this with rfl | rfl | rfl | rfl | rfl | rfl <;> cases e
theorem rollG {c : Int} {V U : VV} {h : HP} (g : G c V h U) (ra : RA V h U) (h7 : V 46 7 = 1) (nj : 0 < nJ V) : Two (f_Rolling_roll V (V 46 2)) (f_Mo_roll U) (fun V2 X => LA V2 X ∧ (∀ j : Nat, (j : Int) < nJ V → V2 57 j = X 116 j) ∧ nJ V2 = nJ V ∧ V2 46 12 ≤ nJ V ∧ G c V2 h X ∧ MG U X) := by
  have f := ra.rf g nj
  have h12 : V 46 12 = U 62 74 := ra.2.1.2.2.2.1
  have e13 : U 62 13 = nJ V := ra.2.2.2.2.1
  have e74 : U 62 74 = U 62 13 := ra.2.2.2.1
  have ck : ∀ j : Nat, (j : Int) < nJ V → CoolK V j := fun j hj => (ra.job g.2.2.1.1 hj).1
  obtain ⟨c1, ⟨l1, l2⟩, s⟩ := id g.1
  unfold f_Rolling_roll
  by_cases e : V 49 10 = V 46 2
  · rw [if_pos e]
    obtain ⟨Vg, Vr, x, r1, r2, r3, r4, r5, r6, r7, r8, r9⟩ := l2 e (by omega)
    have fg : RF Vg U := f.fr (fun i hi => by
      by_cases e1 : i = 32
      · rw [e1]; exact r4
      · by_cases e2 : i = 33
        · rw [e2]; exact r5
        · by_cases e3 : 50 ≤ i
          · exact r3 i e3 (by omega)
          · exact r1.1 i (by omega) (by omega)) r2
    have ng := nJ_ss r1
    obtain ⟨Y, X, eY, eX, ⟨fY, u, -⟩, -⟩ := roll2 (x := x) fg (fun j hj => r6 j (by omega))
    have nY : U 62 13 = nJ Y := fY.2.2.1.2.2.1
    rw [r7] at eY
    cases eY
    refine ⟨V, X, rfl, eX, ra.la g nj (fun _ _ _ _ => rfl) u.1 (fun j hj s hs => ?_) ck, fun j hj => ?_, rfl, by omega, g.fr g.1 g.2.1 KQ.rf g.2.2.2.2.2.2.2.2.2 u.mg, u.mg⟩
    · rw [← r8]
      have := u.2.1 j (by omega) s hs
      exact ⟨this.1, this.2.1⟩
    · rw [← r9]
      exact (u.2.2.1 j (by omega)).1
  · rw [if_neg e]
    obtain ⟨Y, X, eY, eX, ⟨fY, u, ckY⟩, kr⟩ := roll2 (x := V 46 2) f ck
    refine ⟨Y, X, eY, eX, ?_⟩
    have kr' : ∀ i, ¬ (34 ≤ i ∧ i ≤ 36) → ¬ (55 ≤ i ∧ i ≤ 57) → i ≠ 49 → Y i = V i := fun i a b d => by rw [kr i a b]; exact up_na _ _ _ d
    have h11 : Y 49 11 = V 49 11 := by rw [kr 49 (by omega) (by omega)]; exact up_nf _ _ (by omega)
    have h10 : Y 49 10 = V 46 2 := by rw [kr 49 (by omega) (by omega)]; exact up_eq _ _ _ _
    have nY : nJ Y = nJ V := by unfold nJ; rw [kr' 1 (by omega) (by omega) (by omega)]
    have r46 := kr' 46 (by omega) (by omega) (by omega)
    have ss := (kr_kq kr' h11).ss
    rw [nY] at ckY
    refine ⟨ra.la g nj kr' u.1 (fun j hj s hs => ?_) ckY, fun j hj => ?_, nY, by rw [r46]; omega, g.fr ⟨c1.kr kr' ckY (by omega), ⟨?_, fun a b => ?_⟩, ?_⟩ ?_ (kr_kq kr' h11) (kr_pk g.2.2.2.2.2.2.2.2.2 kr' h11) u.mg, u.mg⟩
    · have := u.2.1 j (by omega) s hs
      exact ⟨this.1, this.2.1⟩
    · exact (u.2.2.1 j (by omega)).1
    · rw [h10, r46]; exact Int.le_refl _
    · refine ⟨V, Y, V 46 2, ss.sy, h11.symm, fun i a b => (kr' i (by omega) (by omega) (by omega)).symm, (kr' 32 (by omega) (by omega) (by omega)).symm, (kr' 33 (by omega) (by omega) (by omega)).symm, fun j hj => ck j (by omega), eY, rfl, rfl⟩
    · rw [r46]; exact s
    · rw [r46]; exact g.2.1
