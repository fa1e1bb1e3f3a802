/-! pace, fewest, mean -/
theorem g_pace {c : Int} {V U : VV} {h : HP} (g : G c V h U) (hc : 0 ≤ c ∧ c ≤ 600) : CA c (f_Br_pace V h) (f_Mo_pace U) := by
  obtain ⟨g1, g2, g3, g4, g5, g6, g7, g8, g9, g10⟩ := id g
  unfold CA f_Br_pace f_Mo_pace
  by_cases e : V 0 15 = -2
  · rw [if_pos e]
    obtain ⟨q, z, eq, ez, a1, a2, a3, a4, a5, a6, a7⟩ := paceL g4.2 20 FU FU V U h (-1) 0 0 0 1 (by omega) (by decide) (by decide) (by omega) (by omega) g3 g1 (by omega) g4.1 rfl (Or.inl rfl)
    have kq : KQ V q.1.1 := by
      refine ⟨fun i hi => ?_, ?_, ?_, ?_, ?_, ?_, ?_, ?_⟩
      · funext k; exact a4 i (by omega) (by omega) (by omega) (by omega) k (by omega)
      · exact a4 0 (by omega) (by omega) (by omega) (by omega) 16 (by omega)
      · exact a4 0 (by omega) (by omega) (by omega) (by omega) 17 (by omega)
      · exact a4 16 (by omega) (by omega) (by omega) (by omega) 1 (by omega)
      · exact a4 18 (by omega) (by omega) (by omega) (by omega) 6 (by omega)
      · exact a4 18 (by omega) (by omega) (by omega) (by omega) 7 (by omega)
      · exact a4 26 (by omega) (by omega) (by omega) (by omega) 1 (by omega)
      · exact a4 49 (by omega) (by omega) (by omega) (by omega) 11 (by omega)
    have r61 : q.1.1 61 = V 61 := by funext k; exact a4 61 (by omega) (by omega) (by omega) (by omega) k (by omega)
    refine ⟨q, z, eq, ez, a1, g.fr a3 (by omega) kq ⟨?_, fun p b1 b2 => ?_⟩ a6⟩
    · exact Or.inr ⟨V, h, q, g1, by omega, kq.ss.sy, eq, a5.symm⟩
    · rw [r61]; exact (g10.2 p b1 b2).ss kq.ss
  · rw [if_neg e]
    rcases g10.1 with e' | ⟨V1, h1, q, b1, b2, b3, b4, b5⟩
    · exact absurd e' e
    · have h10 := b3.1 10 (by omega) (by omega)
      obtain ⟨q', z, eq, ez, a1, a2, a3, a4, a5, a6, a7⟩ := paceL g4.2 20 FU FU V1 U h1 (-1) 0 0 0 1 (by omega) (by decide) (by decide) (by omega) (by omega) (g3.ss b3) b1 (by omega) g4.1 (by rw [h10]) (Or.inl rfl)
      rw [b4] at eq
      cases eq
      exact ⟨((V, h), V 0 15), z, rfl, ez, b5.symm.trans a1, g.mg a6⟩
theorem g_fewest {c : Int} {V U : VV} {h : HP} {p : Int} (g : G c V h U) (hc : 0 ≤ c ∧ c ≤ 600) : CA c (f_Br_fewest V h p) (f_Mo_fewest U p) := by
  obtain ⟨g1, g2, g3, g4, g5, g6, g7, g8, g9, g10⟩ := id g
  unfold CA f_Br_fewest f_Mo_fewest
  by_cases hp : 1 ≤ p ∧ p ≤ 20
  · rw [if_neg (show ¬ isFromV p 1 20 = 0 by rw [isFromV_1 hp.1 hp.2]; omega), if_neg (show ¬ f_Mo_isIn U p 1 20 = 0 by rw [isIn_1 hp.1 hp.2]; omega), atV_in (by omega) (by omega)]
    by_cases e : V 61 p.toNat = -2
    · rw [if_pos e]
      obtain ⟨q, z, eq, ez, a1, a2, a3, a4, a5, a6, a7⟩ := fewL (had := U 62 22) hp 16 FU FU V U h (-1) 1 (by omega) (by decide) (by decide) (by omega) (by omega) g3 g1 (by omega) (Or.inl rfl)
      rw [up_self rfl] at a6
      have kq : KQ V q.1.1 := by
        refine ⟨fun i hi => ?_, ?_, ?_, ?_, ?_, ?_, ?_, ?_⟩
        · funext k; exact a4 i (by omega) (by omega) (by omega) (by omega) k (by omega)
        · exact a4 0 (by omega) (by omega) (by omega) (by omega) 16 (by omega)
        · exact a4 0 (by omega) (by omega) (by omega) (by omega) 17 (by omega)
        · exact a4 16 (by omega) (by omega) (by omega) (by omega) 1 (by omega)
        · exact a4 18 (by omega) (by omega) (by omega) (by omega) 6 (by omega)
        · exact a4 18 (by omega) (by omega) (by omega) (by omega) 7 (by omega)
        · exact a4 26 (by omega) (by omega) (by omega) (by omega) 1 (by omega)
        · exact a4 49 (by omega) (by omega) (by omega) (by omega) 11 (by omega)
      have r0 : q.1.1 0 15 = V 0 15 := a4 0 (by omega) (by omega) (by omega) (by omega) 15 (by omega)
      refine ⟨q, z, eq, ez, a1, g.fr a3 (by omega) kq ⟨?_, fun p' b1 b2 => ?_⟩ a6⟩
      · rw [r0]; exact g10.1.ss kq.ss
      · by_cases ep : p' = p
        · subst ep
          exact Or.inr ⟨V, h, q, g1, by omega, kq.ss.sy, eq, a5.symm⟩
        · rw [a4 61 (by omega) (by omega) (by omega) (by omega) p'.toNat (by omega)]
          exact (g10.2 p' b1 b2).ss kq.ss
    · rw [if_neg e]
      rcases g10.2 p hp.1 hp.2 with e' | ⟨V1, h1, q, b1, b2, b3, b4, b5⟩
      · exact absurd e' e
      · obtain ⟨q', z, eq, ez, a1, a2, a3, a4, a5, a6, a7⟩ := fewL (had := U 62 22) hp 16 FU FU V1 U h1 (-1) 1 (by omega) (by decide) (by decide) (by omega) (by omega) (g3.ss b3) b1 (by omega) (Or.inl rfl)
        rw [up_self rfl] at a6
        rw [b4] at eq
        cases eq
        exact ⟨((V, h), V 61 p.toNat), z, rfl, ez, b5.symm.trans a1, g.mg a6⟩
  · rw [if_pos (isFromV_0.mpr hp), if_pos (isIn_0.mpr hp)]
    exact Two.ok ⟨rfl, g.more⟩
/-- more of a job is known: nothing else has changed -/
theorem INVR.cool {V W : VV} {h : HP} {b : Nat} (v : INVR V h) (c : CO b V W) (ck : CoolK W b) : INVR W h := by
  obtain ⟨⟨hh, gh⟩, ⟨l1, l2⟩, s⟩ := v
  obtain ⟨i1, i2, i3⟩ := hh.lie
  have r := c.1
  have ss : SS V W := ⟨fun i a b => r i (by omega) (by omega) (by omega), by rw [r 18 (by omega) (by omega) (by omega)], by rw [r 18 (by omega) (by omega) (by omega)], fun i a b => r i (by omega) (by omega) (by omega)⟩
  refine ⟨⟨hh, fun hz => ?_⟩, ⟨by rw [r 49 (by omega) (by omega) (by omega), r 46 (by omega) (by omega) (by omega)]; exact l1, fun a b => ?_⟩, by rw [r 46 (by omega) (by omega) (by omega)]; exact s⟩
  · rw [r 46 (by omega) (by omega) (by omega)] at hz
    obtain ⟨B, h0, q, bC, hh0, sB, bb, eq, e2, rows, r37, e8, ck', x1, x2, x3, x4, x5⟩ := gh hz
    refine ⟨B, h0, q, bC, hh0, ss.sy.tr sB, ?_, eq, e2, fun i hi => ?_, ?_, ?_, fun j hj => ?_, ?_, x2.ss ss, ?_, ?_, ?_⟩
    · rw [r 46 (by omega) (by omega) (by omega)]; exact bb
    · rw [r i (by omega) (by omega) (by omega)]; exact rows i hi
    · rw [r 37 (by omega) (by omega) (by omega)]; exact r37
    · rw [r 46 (by omega) (by omega) (by omega)]; exact e8
    · rw [r 46 (by omega) (by omega) (by omega)] at hj
      by_cases e : j = b
      · subst e; exact ck
      · exact (ck' j hj).co c e
    · rw [nJ_ss ss]; exact x1
    · rw [r 46 (by omega) (by omega) (by omega), r 18 (by omega) (by omega) (by omega)]; exact x3
    · rw [r 46 (by omega) (by omega) (by omega)]; exact x4
    · rw [r 46 (by omega) (by omega) (by omega)]; exact x5
  · rw [r 49 (by omega) (by omega) (by omega), r 46 (by omega) (by omega) (by omega)] at a
    rw [r 46 (by omega) (by omega) (by omega)] at b
    exact (l2 a b).fr ss (fun i hi => r i (by omega) (by omega) (by omega))
theorem CO.kq {V W : VV} {b : Nat} (c : CO b V W) : KQ V W := by
  have r := c.1
  refine ⟨fun i hi => r i (by omega) (by omega) (by omega), ?_, ?_, ?_, ?_, ?_, ?_, ?_⟩
  · rw [r 0 (by omega) (by omega) (by omega)]
  · rw [r 0 (by omega) (by omega) (by omega)]
  · rw [r 16 (by omega) (by omega) (by omega)]
  · rw [r 18 (by omega) (by omega) (by omega)]
  · rw [r 18 (by omega) (by omega) (by omega)]
  · rw [r 26 (by omega) (by omega) (by omega)]
  · rw [r 49 (by omega) (by omega) (by omega)]
theorem G.cool {c : Int} {V U W : VV} {h : HP} {b : Nat} (g : G c V h U) (co : CO b V W) (ck : CoolK W b) : G c W h U := by
  have r := co.1
  exact g.fr (g.1.cool co ck) (by rw [r 46 (by omega) (by omega) (by omega)]; exact g.2.1) co.kq (g.2.2.2.2.2.2.2.2.2.fr co.kq.ss (by rw [r 0 (by omega) (by omega) (by omega)]) (r 61 (by omega) (by omega) (by omega))) MG.rf
/-- of a job of a run that is done -/
theorem RA.job {V U : VV} {h : HP} (r : RA V h U) (d : DR V) {j : Nat} (hj : (j : Int) < nJ V) : CoolK V j ∧ (V 32 j = U 97 j ∧ 0 ≤ U 97 j ∧ U 97 j ≤ 4320) ∧ (V 33 j = U 98 j ∧ 0 ≤ U 98 j ∧ U 98 j ≤ 200) ∧ V 48 j = U 96 j ∧ (1 ≤ j → U 97 (j - 1) ≤ U 96 j ∧ U 96 j ≤ U 97 j) ∧ (20 ≤ V 8 j ∧ V 8 j ≤ 260) ∧ ∀ i : Nat, i ≤ 600 → U 109 (601 * j + i) = mnU U (U 69 j) (U 98 j) i := by
  obtain ⟨hh, rj, ⟨su, ca, ka⟩, hd, hn, rf⟩ := r
  obtain ⟨a1, a2, a3, a4, a5, a6⟩ := ca.1 j (by omega)
  obtain ⟨k1, k2⟩ := ka j (by omega)
  have dd := d.2.2.2.2 j hj
  have db := dep_bd d.1 d.lb (j := (j : Int)) (by omega) hj
  exact ⟨k1, ⟨a1, a2⟩, ⟨a3, a4⟩, a5, a6, by rw [dd.1]; exact db, k2⟩
theorem g_mean {c : Int} {V U : VV} {h : HP} {w p j x : Int} (g : G c V h U) (hc : 0 ≤ c ∧ c ≤ 600) : CA c (f_Br_mean V h w p j x) (f_Mo_mean U w p j x) := by
  unfold CA f_Br_mean f_Mo_mean f_Mo_mean_8
  by_cases hx : 0 ≤ x ∧ x ≤ 600
  · rw [if_neg (show ¬ isFromV x 0 600 = 0 by rw [isFromV_1 hx.1 hx.2]; omega), if_neg (show ¬ f_Mo_isIn U x 0 600 = 0 by rw [isIn_1 hx.1 hx.2]; omega)]
    refine Two.bind2 (isPav g hc) (fun q z hq => ?_)
    obtain ⟨b1, b2, b3, b4, -⟩ := hq
    rw [b1]
    rcases b2 with z0 | z1
    · rw [z0, if_pos rfl, if_pos rfl]; exact Two.ok ⟨rfl, b3⟩
    · rw [z1, if_neg (show ¬ (1 : Int) = 0 by omega), if_neg (show ¬ (1 : Int) = 0 by omega)]
      obtain ⟨ra, -, nj⟩ := b4 z1
      have sr := b3.2.2.1
      have nb := sr.1.1.nJb
      have e13 : z.1 62 13 = nJ q.1.1 := ra.2.2.2.2.1
      rw [sr.1.1.jobs, e13, w32_id (x := nJ q.1.1 - 1) (by omega) (by omega)]
      by_cases hj : 0 ≤ j ∧ j ≤ nJ q.1.1 - 1
      · rw [if_neg (show ¬ isFromV j 0 (nJ q.1.1 - 1) = 0 by rw [isFromV_1 hj.1 hj.2]; omega), if_neg (show ¬ f_Mo_isIn z.1 j 0 (nJ q.1.1 - 1) = 0 by rw [isIn_1 hj.1 hj.2]; omega)]
        obtain ⟨m, rfl⟩ : ∃ m : Nat, j = (m : Int) := ⟨j.toNat, by omega⟩
        obtain ⟨k1, k2, k3, k4, k5, k6, k7⟩ := ra.job sr.1 (j := m) (by omega)
        have wm := sr.2.2.2.1.1
        have wu := sr.2.2.2.1.2
        refine Two.bindL (meanB wm (by omega) k6.1 k6.2 (by omega) (by omega) k1 x) (fun y hy => ?_)
        obtain ⟨y1, y2, y3⟩ := hy
        unfold f_Mo_meanOf
        have em : (if 600 < x then 600 else x : Int) = x := by rw [if_neg (by omega)]
        rw [em, w32_id (x := 601 * (m : Int)) (by omega) (by omega), w32_id (x := 601 * (m : Int) + x) (by omega) (by omega), if_pos (by omega), show (601 * (m : Int) + x).toNat = 601 * m + x.toNat by omega]
        refine Two.ok ⟨?_, b3.cool y1 y2⟩
        dsimp only
        have d69 : z.1 69 m = q.1.1 8 m := (ra.2.2.2.2.2.2.2.2 m (by omega)).1
        rw [k7 _ (by omega), y3, show (max 0 (min 600 x)).toNat = x.toNat by omega, d69, k3.1]
        unfold mnU mnJ
        have e5 : z.1 62 29 = q.1.1 15 5 := wu 5 (by omega)
        have e6 : z.1 62 30 = q.1.1 15 6 := wu 6 (by omega)
        have e7 : z.1 62 31 = q.1.1 15 7 := wu 7 (by omega)
        have e8 : z.1 62 32 = q.1.1 15 8 := wu 8 (by omega)
        rw [e5, e6, e7, e8]
      · rw [if_pos (isFromV_0.mpr hj), if_pos (isIn_0.mpr hj)]
        exact Two.ok ⟨rfl, b3⟩
  · rw [if_pos (isFromV_0.mpr hx), if_pos (isIn_0.mpr hx)]
    exact Two.ok ⟨rfl, g.more⟩
