/-! cores -/
theorem G.r58 {c : Int} {V U W U2 : VV} {h : HP} (g : G c V h U) (w : ∀ i, i ≠ 58 → W i = V i) (m : MG U U2) : G c W h U2 := by
  have kq : KQ V W := ⟨fun i hi => w i (by omega), by rw [w 0 (by omega)], by rw [w 0 (by omega)], by rw [w 16 (by omega)], by rw [w 18 (by omega)], by rw [w 18 (by omega)], by rw [w 26 (by omega)], by rw [w 49 (by omega)]⟩
  exact g.fr (g.1.row (fun i _ a _ _ _ => w i a)) (by rw [w 46 (by omega)]; exact g.2.1) kq (g.2.2.2.2.2.2.2.2.2.fr kq.ss (by rw [w 0 (by omega)]) (w 61 (by omega))) m
theorem drawN {c : Int} {V U : VV} {h : HP} {n s : Int} (g : G c V h U) (hn : 1 ≤ n ∧ n ≤ nJ V) : Two (f_Br_draw V n s) (f_Mo_isDrawn U n s) (fun W z => z.2 = 1 ∧ PD W z.1 ∧ (∀ i, i ≠ 58 → W i = V i) ∧ MG U z.1 ∧ SJobs V z.1 ∧ ∀ i k, jM i k = false → i ≠ 122 → z.1 i k = U i k) := by
  obtain ⟨s1, s2, s3, s4, s5, s6⟩ := id g.2.2.1
  have nb := s1.1.nJb
  unfold f_Br_draw f_Mo_isDrawn
  rw [s1.1.jobs]
  refine Two.bindR (hasJobs_mj s1 s2) (fun y hy => ?_)
  obtain ⟨m, sj, -, e⟩ := hy
  rw [if_pos (by omega)] at e
  rw [e, if_neg (show ¬ (1 : Int) = 0 by omega), if_neg (show ¬ f_Mo_isIn y.1 n 1 (y.1 62 13) = 0 by rw [sj.1, isIn_1 hn.1 hn.2]; omega)]
  refine (draw2 (V0 := V) (U0 := y.1) (N := nJ V) ⟨by omega, by omega⟩ rfl sj.1 hn 36 FU FU V y.1 0 (by omega) (by decide) (by decide) (by omega) (by omega) (fun i hi => by omega) (fun _ _ => rfl) (fun _ _ => rfl)).imp (fun W z hz => ?_)
  obtain ⟨a1, a2, a3, a4⟩ := hz
  refine ⟨a1, a2, a3, fun i k e1 e2 => ?_, ?_, fun i k e1 e2 => ?_⟩
  · by_cases e3 : i = 122
    · subst e3; cases e1
    · rw [a4 i e3]; exact m.mf i k e1
  · unfold SJobs
    rw [a4 62 (by omega), a4 68 (by omega), a4 69 (by omega), a4 70 (by omega)]
    exact sj
  · rw [a4 i e2]; exact m i k e1
theorem drawO {c : Int} {V U : VV} {h : HP} {n s : Int} (g : G c V h U) (hn : ¬ (1 ≤ n ∧ n ≤ nJ V)) : Sm (f_Mo_isDrawn U n s) (fun z => z.2 = 0 ∧ MG U z.1) := by
  obtain ⟨s1, s2, s3, s4, s5, s6⟩ := id g.2.2.1
  unfold f_Mo_isDrawn
  refine Sm.bind (hasJobs_mj s1 s2) (fun y _ hy => ?_)
  obtain ⟨m, sj, -, e⟩ := hy
  by_cases z : y.2 = 0
  · rw [if_pos z]; exact Sm.ok ⟨rfl, m.mf.mg⟩
  · rw [if_neg z, if_pos (by rw [sj.1]; exact isIn_0.mpr hn)]; exact Sm.ok ⟨rfl, m.mf.mg⟩
theorem g_core {c : Int} {V U : VV} {h : HP} {n s k : Int} (g : G c V h U) : CA3 c h (f_Br_core V n s k) (f_Mo_core U n s k) := by
  unfold CA3 f_Br_core f_Mo_core f_Mo_core_6
  have s1 := g.2.2.1.1.1
  have nb := s1.nJb
  rw [s1.jobs]
  by_cases hn : 1 ≤ n ∧ n ≤ nJ V
  · rw [if_neg (show ¬ isFromV n 1 (nJ V) = 0 by rw [isFromV_1 hn.1 hn.2]; omega), w32_id (x := n - 1) (by omega) (by omega)]
    by_cases hk : 0 ≤ k ∧ k ≤ n - 1
    · rw [if_neg (show ¬ isFromV k 0 (n - 1) = 0 by rw [isFromV_1 hk.1 hk.2]; omega)]
      refine Two.bind2 (drawN g hn) (fun W z hz => ?_)
      obtain ⟨a1, a2, a3, a4, -, -⟩ := hz
      rw [a1, if_neg (show ¬ (1 : Int) = 0 by omega), if_neg (show ¬ f_Mo_isIn z.1 k 0 (n - 1) = 0 by rw [isIn_1 hk.1 hk.2]; omega), if_pos (by omega), atV_in (by omega) (by omega)]
      have nW : nJ W = nJ V := by unfold nJ; rw [a3 1 (by omega)]
      exact Two.ok ⟨(a2 k.toNat (by omega)).1, (g.r58 a3 a4).more⟩
    · rw [if_pos (isFromV_0.mpr hk)]
      refine Two.bindR (drawN g hn).toR (fun z hz => ?_)
      obtain ⟨W, -, a1, a2, a3, a4, -, -⟩ := hz
      rw [a1, if_neg (show ¬ (1 : Int) = 0 by omega), if_pos (isIn_0.mpr hk)]
      exact Two.ok ⟨rfl, g.mg a4⟩
  · rw [if_pos (isFromV_0.mpr hn)]
    refine Two.bindR (drawO g hn) (fun z hz => ?_)
    rw [hz.1, if_pos rfl]
    exact Two.ok ⟨rfl, g.mg hz.2⟩
