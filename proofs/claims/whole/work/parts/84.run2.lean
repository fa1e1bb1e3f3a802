/-! a run, kept or made anew, beside the reference's -/
theorem MF.hm {U U2 : VV} (h : MF U U2) : HM2 U U2 := ⟨h 62 48 rfl, fun i x y k hk => h i k (by
  have : i = 81 ∨ i = 82 ∨ i = 83 ∨ i = 84 ∨ i = 85 := by omega
  rcases this with rfl | rfl | rfl | rfl | rfl <;> rfl)⟩
theorem goesNo {V U : VV} {w p : Int} (s : SETR V U) (h : ¬ (0 < nJ V ∧ KIN V)) : Sm (f_Mo_goes U w p) (fun z => z.2 = 0 ∧ MF U z.1) := by
  unfold f_Mo_goes
  refine Sm.bind (hasJobs_ok s.1 s.2.1) (fun z _ hz => ?_)
  obtain ⟨z1, z2, z3, z4⟩ := hz
  rw [z4]
  by_cases hn : 0 < nJ V
  · rw [if_pos hn, if_neg (by omega)]
    refine Sm.bind (hasPl (s.mf z1)) (fun x _ hx => ?_)
    rcases hx with ⟨a, b⟩ | ⟨a, b⟩
    · exact absurd ⟨hn, b⟩ h
    · rw [a, if_pos rfl]
      exact Sm.ok ⟨rfl, z1⟩
  · rw [if_neg hn, if_pos rfl]
    exact Sm.ok ⟨rfl, z1⟩
theorem goesGo {V U : VV} {w p : Int} {Q : VV × Int → Prop} (s : SETR V U) (hn : 0 < nJ V) (hk : KIN V) (ht : 1 ≤ U 62 22 ∧ U 62 22 ≤ 16) (K : ∀ U0, BegM U0 → U0 62 91 = w → U0 62 92 = p → SJobs V U0 → MF U U0 → Sm (f_Mo_goes_7 FU U0 w 0) Q) : Sm (f_Mo_goes U w p) Q := by
  unfold f_Mo_goes
  refine Sm.bind (hasJobs_ok s.1 s.2.1) (fun z _ hz => ?_)
  obtain ⟨z1, z2, z3, z4⟩ := hz
  rw [z4, if_pos hn, if_neg (by omega)]
  have sz := s.mf z1
  refine Sm.bind (hasPl sz) (fun x _ hx => ?_)
  rcases hx with ⟨a, b⟩ | ⟨a, b⟩
  · rw [a, if_neg (by omega)]
    have nb := s.1.1.nJb
    have z22 := z1 62 22 rfl
    refine Sm.bind (begM_ok (U := z.1) (w := w) (p := p) (by omega) (by rw [sz.2.2.1.1]; exact sz.2.2.1.2.1) (by rw [z2.1]; omega)) (fun U0 _ hU => ?_)
    obtain ⟨u1, u2, u3, u4, u5⟩ := hU
    refine K U0 u1 u2 u3 ?_ (z1.tr ?_)
    · obtain ⟨j1, j2, j3⟩ := z2
      refine ⟨by rw [u5 13 (by omega) (by omega) (by omega) (by omega)]; exact j1, fun k hk => ?_, fun k hk => ?_⟩
      · rw [u4 68 (by omega) (by omega) (by omega) (by omega) (by omega) (by omega)]; exact j2 k hk
      · rw [u4 69 (by omega) (by omega) (by omega) (by omega) (by omega) (by omega), u4 70 (by omega) (by omega) (by omega) (by omega) (by omega) (by omega)]; exact j3 k hk
    · intro i k ek
      by_cases h62 : i = 62
      · subst h62
        unfold kM at ek
        simp only [Bool.or_eq_false_iff, Bool.and_eq_false_iff] at ek
        obtain ⟨⟨⟨⟨e13, e14⟩, e63⟩, e72⟩, e91⟩ := ek
        have h63 : k ≠ 63 := fun x => by subst x; cases e63
        have h72 : ¬ (72 ≤ k ∧ k ≤ 80) := fun x => by
          rcases e72 with y | y
          · rw [Nat.ble_eq_true_of_le x.1] at y; cases y
          · rw [Nat.ble_eq_true_of_le x.2] at y; cases y
        have h91 : ¬ (91 ≤ k ∧ k ≤ 92) := fun x => by
          rcases e91 with y | y
          · rw [Nat.ble_eq_true_of_le x.1] at y; cases y
          · rw [Nat.ble_eq_true_of_le x.2] at y; cases y
        exact u5 k h63 h72 (by omega) (by omega)
      · have e : ∀ j, 86 ≤ j → j ≤ 117 → kM j k = true := by
          intro j a b
          unfold kM
          split
          · omega
          · rw [Nat.ble_eq_true_of_le a, Nat.ble_eq_true_of_le b]; simp
        by_cases h86 : 86 ≤ i ∧ i ≤ 117
        · rw [e i h86.1 h86.2] at ek; cases ek
        · rw [u4 i h62 (by omega) (by omega) (by omega) (by omega) (by omega)]
  · exact absurd hk b
theorem SJobs.ss {V B U : VV} (j : SJobs V U) (h : SS V B) : SJobs B U := by
  unfold SJobs nJ
  rw [h.1 1 (by omega) (by omega), h.1 4 (by omega) (by omega), h.1 8 (by omega) (by omega), h.1 9 (by omega) (by omega)]
  exact j
theorem KIN.ss {V B : VV} (k : KIN V) (h : SS V B) : KIN B := by
  unfold KIN
  rw [h.1 1 (by omega) (by omega), h.1 7 (by omega) (by omega), h.1 10 (by omega) (by omega), h.1 11 (by omega) (by omega)]
  exact k
theorem nJ_ss {V B : VV} (h : SS V B) : nJ B = nJ V := by unfold nJ; rw [h.1 1 (by omega) (by omega)]
theorem CFr.ss {V0 V : VV} (h : CFr V0 V) : SS V0 V := by
  have key : ∀ i k, (i ≤ 27 → kE i k = false) := by
    intro i k hi
    unfold kE
    split
    · omega
    · omega
    · have a : Nat.ble 28 i = false := by
        cases hb : Nat.ble 28 i with
        | false => rfl
        | true => have := Nat.le_of_ble_eq_true hb; omega
      have b : Nat.ble 123 i = false := by
        cases hb : Nat.ble 123 i with
        | false => rfl
        | true => have := Nat.le_of_ble_eq_true hb; omega
      rw [a, b]; rfl
  exact ⟨fun i a b => h.row (fun k => key i k (by omega)), h 18 6 rfl, h 18 7 rfl, fun i a b => h.row (fun k => key i k (by omega))⟩
theorem runBB {B U0 : VV} {h0 : HP} (e : EN B U0) (hh : HOK h0) (b : BegC B) (m : BegM U0) : Two (f_Paving_isDone_8 FU B h0 0) (f_Mo_goes_7 FU U0 (B 37 4) 0) (RunR B U0) :=
  runs e 4320 FU FU B h0 U0 0 (by omega) (by decide) (by decide) (by omega) (by omega) (MR.init e hh b m)
/-- the rows that a run left, and what the reference has -/
theorem RA.of {B U0 V : VV} {q : (VV × HP) × Int} {z : VV × Int} (e : EN B U0) (r : RunR B U0 q z) (hz : z.2 = 1) (ss : SS V B) (rows : ∀ i, (i = 28 ∨ i = 32 ∨ i = 33 ∨ i = 45 ∨ i = 46 ∨ i = 47 ∨ i = 48 ∨ i = q.1.2.1 ∨ i = q.1.2.2.1) → V i = q.1.1 i) (r37 : V 37 6 = q.1.1 37 6) (ck : ∀ j : Nat, (j : Int) < V 46 12 → CoolK V j) : RA V q.1.2 z.1 := by
  obtain ⟨W, T, w1, w2, w3, w4, w5⟩ := r
  have w2' : FR B U0 q.1.2 T T T (fun _ => T) (fun _ => T) W z.1 := w2
  obtain ⟨⟨cf, mf, hh⟩, rt, ⟨la, lo, jo, jl⟩, ⟨su, ca, ka⟩, l0, l1⟩ := w2'
  obtain ⟨i1, i2, i3⟩ := hh.lie
  have qr : ∀ i, i ≠ 46 → q.1.1 i = W i := fun i hi => by rw [w1, up_na _ _ _ hi]
  have q46 : ∀ x, x ≠ 7 → q.1.1 46 x = W 46 x := fun x hx => by rw [w1, up_nf _ _ hx]
  have v28 : V 28 = W 28 := (rows 28 (by omega)).trans (qr 28 (by omega))
  have v32 : V 32 = W 32 := (rows 32 (by omega)).trans (qr 32 (by omega))
  have v33 : V 33 = W 33 := (rows 33 (by omega)).trans (qr 33 (by omega))
  have v45 : V 45 = W 45 := (rows 45 (by omega)).trans (qr 45 (by omega))
  have v47 : V 47 = W 47 := (rows 47 (by omega)).trans (qr 47 (by omega))
  have v48 : V 48 = W 48 := (rows 48 (by omega)).trans (qr 48 (by omega))
  have vr : V q.1.2.1 = W q.1.2.1 := (rows _ (by omega)).trans (qr _ (by omega))
  have vo : V q.1.2.2.1 = W q.1.2.2.1 := (rows _ (by omega)).trans (qr _ (by omega))
  have v46 : ∀ x, x ≠ 7 → V 46 x = W 46 x := fun x hx => by rw [rows 46 (by omega)]; exact q46 x hx
  have v37 : V 37 6 = W 37 6 := by rw [r37, qr 37 (by omega)]
  have m22 := mf 62 22 rfl
  have m13 := mf 62 13 rfl
  have m70 : z.1 70 = U0 70 := mf.row (fun k => rfl)
  have m69 : z.1 69 = U0 69 := mf.row (fun k => rfl)
  have hand : z.1 62 74 = z.1 62 13 := by
    rw [hz] at w5
    rw [m13]
    by_cases g : z.1 62 74 = U0 62 13
    · exact g
    · rw [if_neg g] at w5; omega
  have mnE : ∀ dep ht, mnU z.1 dep ht = mnU U0 dep ht := fun dep ht => by unfold mnU; rw [mf 62 29 rfl, mf 62 30 rfl, mf 62 31 rfl, mf 62 32 rfl]
  refine ⟨hh, ⟨?_, ?_, ?_, ?_⟩, ⟨?_, ?_, ?_⟩, hand, ?_⟩
  · unfold gLA at la ⊢
    rw [v28, vr, m13]
    exact la
  · unfold gLO preL at lo ⊢
    rw [v28, vo, m22]
    exact lo
  · unfold gJO at jo ⊢
    rw [v37, v45, m13, m70, m22]
    exact jo
  · unfold gJL at jl ⊢
    rw [v46 12 (by omega), v46 13 (by omega), v46 15 (by omega), v46 8 (by omega), m13, m70]
    exact jl
  · unfold gSU at su ⊢
    rw [v47, v46 13 (by omega), m13]
    obtain ⟨s1, s2, s3⟩ := su
    exact ⟨s1, by omega, s3⟩
  · unfold gCA at ca ⊢
    rw [v46 13 (by omega), v46 14 (by omega), v32, v33, v48]
    obtain ⟨a1, a2, a3⟩ := ca
    refine ⟨fun j hj => ?_, fun x => ?_, a3⟩
    · obtain ⟨b1, b2, b3⟩ := a1 j hj
      exact ⟨b1, by omega, b3⟩
    · obtain ⟨b1, b2, b3⟩ := a2 x
      exact ⟨b1, by omega, b3⟩
  · intro j hj
    refine ⟨ck j (by rw [v46 12 (by omega), jl.1]; exact hj), fun i hi => ?_⟩
    rw [mnE, m69]
    exact (ka j hj).2 i hi
  · refine ⟨by rw [m13, e.2.2.1.1, nJ_ss ss], fun l hl => (l1.2 l hl).2, ?_⟩
    have sj := e.2.2.1.ss ss.sy
    refine ⟨by rw [m13]; exact sj.1, fun k hk => ?_, fun k hk => ?_⟩
    · rw [mf 68 k rfl]; exact sj.2.1 k hk
    · rw [m69, m70]; exact sj.2.2 k hk
def CQ0 (V V2 : VV) : Prop := ∀ i, ¬ (28 ≤ i ∧ i ≤ 48) → i < 123 → V2 i = V i
theorem CQ0.rf {V : VV} : CQ0 V V := fun _ _ _ => rfl
theorem CQ0.tr {V V2 V3 : VV} (h : CQ0 V V2) (h2 : CQ0 V2 V3) : CQ0 V V3 := fun i a b => (h2 i a b).trans (h i a b)
theorem CQ0.ss {V V2 : VV} (h : CQ0 V V2) : SS V V2 := ⟨fun i a b => h i (by omega) (by omega), by rw [h 18 (by omega) (by omega)], by rw [h 18 (by omega) (by omega)], fun i a b => h i (by omega) (by omega)⟩
theorem isDone2 {V U : VV} {h : HP} {w p n : Int} (s : SETR V U) (ci : CI V h) (hw : 0 ≤ w ∧ w < V 18 7) (hp : 1 ≤ p ∧ p ≤ 20) (hn : 1 ≤ n ∧ n ≤ 16) (hj : 0 < nJ V) (hk : KIN V) (ht : U 62 22 = n) : Two (f_Paving_isDone V h w p n) (f_Mo_goes U w p) (fun q z => q.2 = z.2 ∧ (z.2 = 0 ∨ z.2 = 1) ∧ CI q.1.1 q.1.2 ∧ CQ0 V q.1.1 ∧ MF U z.1 ∧ ((q.1.1 = V ∧ q.1.2 = h) ∨ q.1.1 46 2 = w32 (V 46 2 + 1)) ∧ q.1.1 46 7 = 1 ∧ (z.2 = 1 → RA q.1.1 q.1.2 z.1)) := by
  have ht' : 1 ≤ U 62 22 ∧ U 62 22 ≤ 16 := by omega
  -- what the reference makes of it
  have enB : ∀ B U0 : VV, SS V B → B 37 4 = w → B 37 5 = n → B 46 9 = w → B 46 10 = p → U0 62 91 = w → U0 62 92 = p → SJobs V U0 → MF U U0 → EN B U0 := by
    intro B U0 ss b1 b2 b3 b4 u2 u3 u4 u5
    exact SETR.en (V := V) ((s.mf u5).ss ss) (u4.ss ss) (by rw [nJ_ss ss]; exact hj) (hk.ss ss) (w := w) (p := p) (n := n) (by rw [ss.2.2.1]; exact hw) hp hn b1 b2 b3 b4 (by rw [u5 62 22 rfl]; exact ht) u2 u3
  have mfz : ∀ {U0 : VV} {z : VV × Int} {B : VV} {q : (VV × HP) × Int}, RunR B U0 q z → MF U U0 → MF U z.1 := by
    intro U0 z B q r m
    obtain ⟨W, T, w1, w2, -⟩ := r
    have w2' : FR B U0 q.1.2 T T T (fun _ => T) (fun _ => T) W z.1 := w2
    exact m.tr w2'.1.2.1.mf
  have unc : Two (f_Paving_isDone_5 V h w p n) (f_Mo_goes U w p) (fun q z => q.2 = z.2 ∧ (z.2 = 0 ∨ z.2 = 1) ∧ CI q.1.1 q.1.2 ∧ CQ0 V q.1.1 ∧ MF U z.1 ∧ ((q.1.1 = V ∧ q.1.2 = h) ∨ q.1.1 46 2 = w32 (V 46 2 + 1)) ∧ q.1.1 46 7 = 1 ∧ (z.2 = 1 → RA q.1.1 q.1.2 z.1)) := by
    show Two (f_Paving_isDone_8 FU (begV V w p n) h 0) _ _
    obtain ⟨bC, b0, b1, b2, b3, b4, b5, b6, -, -⟩ := begC_ok V w p n
    have ss : SS V (begV V w p n) := ⟨fun i x y => b0 i (by omega) (by omega) (by omega), by rw [b0 18 (by omega) (by omega) (by omega)], by rw [b0 18 (by omega) (by omega) (by omega)], fun i x y => b0 i (by omega) (by omega) (by omega)⟩
    generalize begV V w p n = B at *
    refine Two.ofR (goesGo s hj hk ht' (fun U0 u1 u2 u3 u4 u5 => Two.toR ?_))
    have en := enB B U0 ss b1 b2 b3 b4 u2 u3 u4 u5
    have rb := runBB en ci.1 bC u1
    rw [b1] at rb
    obtain ⟨q, z, eq, ez, r⟩ := rb
    refine ⟨q, z, eq, ez, ?_⟩
    obtain ⟨W, T, w1, w2, w3, w4, w5⟩ := id r
    have w2' : FR B U0 q.1.2 T T T (fun _ => T) (fun _ => T) W z.1 := w2
    obtain ⟨⟨cf, mf, hh⟩, rt, ⟨la, lo, jo, jl⟩, ⟨su, ca, ka⟩, l0, l1⟩ := w2'
    have qr : ∀ i, i ≠ 46 → q.1.1 i = W i := fun i hi => by rw [w1, up_na _ _ _ hi]
    have q46 : ∀ x, x ≠ 7 → q.1.1 46 x = W 46 x := fun x hx => by rw [w1, up_nf _ _ hx]
    have ssW : SS V W := ss.tr cf.ss
    have ssq : SS V q.1.1 := ⟨fun i x y => by rw [qr i (by omega)]; exact ssW.1 i x y, by rw [qr 18 (by omega)]; exact ssW.2.1, by rw [qr 18 (by omega)]; exact ssW.2.2.1, fun i x y => by rw [qr i (by omega)]; exact ssW.2.2.2 i x y⟩
    have ckq : ∀ j : Nat, (j : Int) < q.1.1 46 12 → CoolK q.1.1 j := by
      intro j hj
      rw [q46 12 (by omega), jl.1] at hj
      have := (ka j hj).1
      unfold CoolK shJ mnJ at this ⊢
      rw [qr 34 (by omega), qr 35 (by omega), qr 36 (by omega), qr 8 (by omega), qr 33 (by omega), qr 15 (by omega)]
      exact this
    have z01 : z.2 = 0 ∨ z.2 = 1 := by rw [w5]; split <;> omega
    have e8 : W 46 8 = z.2 := by
      have := jl.2.2.2.2.2.2.2.2
      rw [this, w5]
    have c9 : q.1.1 46 9 = w := by rw [q46 9 (by omega), cf 46 9 rfl]; exact b3
    have c10 : q.1.1 46 10 = p := by rw [q46 10 (by omega), cf 46 10 rfl]; exact b4
    have c11 : q.1.1 46 11 = n := by rw [q46 11 (by omega), cf 46 11 rfl]; exact b5
    refine ⟨w4, z01, ⟨hh, fun _ => ⟨B, h, q, bC, ci.1, ssq.sy.tr ss, ⟨by rw [c9]; exact b1, by rw [c11]; exact b2, by rw [c9]; exact b3, by rw [c10]; exact b4⟩, eq, rfl, fun _ _ => rfl, rfl, ?_, ckq, by rw [nJ_ss ssq]; exact hj, hk.ss ssq, by rw [c9, ssq.2.2.1]; exact hw, by rw [c10]; exact hp, by rw [c11]; exact hn⟩⟩, ?_, mfz r u5, Or.inr ?_, by rw [w1, up_eq], fun hz => RA.of en r hz (ssq.sy.tr ss) (fun _ _ => rfl) rfl ckq⟩
    · rw [q46 8 (by omega), e8, w4]
    · intro i x y
      rw [qr i (by omega)]
      have : W i = B i := by
        by_cases h27 : i ≤ 27
        · exact cf.row (fun k => by
            unfold kE
            split
            · omega
            · omega
            · have a : Nat.ble 28 i = false := by
                cases hb : Nat.ble 28 i with
                | false => rfl
                | true => have := Nat.le_of_ble_eq_true hb; omega
              have b : Nat.ble 123 i = false := by
                cases hb : Nat.ble 123 i with
                | false => rfl
                | true => have := Nat.le_of_ble_eq_true hb; omega
              rw [a, b]; rfl)
        · exact cf.row (fun k => by
            unfold kE
            split
            · omega
            · omega
            · have a : Nat.ble i 48 = false := by
                cases hb : Nat.ble i 48 with
                | false => rfl
                | true => have := Nat.le_of_ble_eq_true hb; omega
              have b : Nat.ble 123 i = false := by
                cases hb : Nat.ble 123 i with
                | false => rfl
                | true => have := Nat.le_of_ble_eq_true hb; omega
              rw [a, b, Bool.and_false]; rfl)
      rw [this]
      exact b0 i (by omega) (by omega) (by omega)
    · rw [q46 2 (by omega), cf 46 2 rfl]; exact b6
  unfold f_Paving_isDone
  refine Two.iteL (fun _ => unc) (fun g7 => Two.iteL (fun g9 => Two.iteL (fun g10 => Two.iteL (fun g11 => ?_) (fun _ => unc)) (fun _ => unc)) (fun _ => unc))
  obtain ⟨B, h0, q, bC, hh0, ss, ⟨b1, b2, b3, b4⟩, eq, e2, rows, r37, e8, ck, -⟩ := ci.2 g7
  rw [g9] at b1 b3
  rw [g10] at b4
  rw [g11] at b2
  refine Two.ofR (goesGo s hj hk ht' (fun U0 u1 u2 u3 u4 u5 => Two.toR ?_))
  have en := enB B U0 ss b1 b2 b3 b4 u2 u3 u4 u5
  have rb := runBB en hh0 bC u1
  rw [b1] at rb
  obtain ⟨q', z, eq', ez, r⟩ := rb
  rw [eq] at eq'
  cases eq'
  obtain ⟨W, T, w1, w2, w3, w4, w5⟩ := id r
  have z01 : z.2 = 0 ∨ z.2 = 1 := by rw [w5]; split <;> omega
  have v8 : V 46 8 = z.2 := by rw [e8, w4]
  rw [if_pos (by rw [v8]; exact z01)]
  refine ⟨((V, h), V 46 8), z, rfl, ez, v8, z01, ci, CQ0.rf, mfz r u5, Or.inl ⟨rfl, rfl⟩, ?_, fun hz => ?_⟩
  · show V 46 7 = 1
    rw [rows 46 (by omega), w1, up_eq]
  · have := RA.of en r hz ss (by rw [e2]; exact rows) r37 ck
    rw [e2] at this
    exact this
