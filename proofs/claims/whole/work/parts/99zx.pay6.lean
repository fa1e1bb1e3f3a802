theorem g_pay {c : Int} {V U : VV} {h : HP} {w p n s : Int} (g : G c V h U) (hc : 0 ≤ c ∧ c ≤ 600) : CA c (f_Br_pay V h w p n s) (f_Mo_pay U w p n s) := by
  unfold CA f_Br_pay f_Mo_pay
  have s1 := g.2.2.1.1.1
  have nb := s1.nJb
  rw [s1.jobs]
  by_cases hn : 1 ≤ n ∧ n ≤ nJ V
  · rw [if_neg (show ¬ isFromV n 1 (nJ V) = 0 by rw [isFromV_1 hn.1 hn.2]; omega)]
    refine Two.bind2 (isPav g hc) (fun q z hq => ?_)
    obtain ⟨b1, b2, b3, b4, b5⟩ := hq
    rw [b1]
    rcases b2 with z0 | z1
    · rw [z0, if_pos rfl, if_pos rfl]; exact Two.ok ⟨rfl, b3⟩
    · rw [z1, if_neg (show ¬ (1 : Int) = 0 by omega), if_neg (show ¬ (1 : Int) = 0 by omega)]
      obtain ⟨ra, h7, nj⟩ := b4 z1
      obtain ⟨r1, r2, r3, r4, r5, r6⟩ := id b3.2.2.1
      have e0 : nJ q.1.1 = nJ V := by
        have x0 := b5 62 0 rfl (by omega)
        have x8 := b5 62 8 rfl (by omega)
        have y0 := g.2.2.1.2.1.1
        have y8 := g.2.2.1.2.1.2.1
        have w0 := r2.1
        have w8 := r2.2.1
        unfold nJ
        rw [← w0, ← w8, x0, x8, y0, y8]
      have hn2 : 1 ≤ n ∧ n ≤ nJ q.1.1 := by omega
      obtain ⟨W0, y, eW0, ey, d1, d2, d3, d4, d5, d6⟩ := drawN (s := s) b3 hn2
      have g2 : G (c + 1) q.1.1 q.1.2 y.1 := b3.fr b3.1 b3.2.1 KQ.rf b3.2.2.2.2.2.2.2.2.2 d4
      have ra2 := ra.jm d6 d5
      obtain ⟨Y, X, eY, eX, la, r57, nY, h12, gY, mg⟩ := rollG g2 ra2 h7 nj
      obtain ⟨Y', X', eY', eX', k1, k9, ux⟩ := rollK g2 ra2 nj
      rw [eY] at eY'
      cases eY'
      rw [eX] at eX'
      cases eX'
      obtain ⟨W, y', eW, ey', pd, w58⟩ := drawN2 (s := s) b3 hn2 k1
      rw [ey] at ey'
      cases ey'
      have nW : nJ W = nJ q.1.1 := by unfold nJ at nY ⊢; rw [w58 1 (by omega)]; exact nY
      rw [ey, obs, d1, if_neg (show ¬ (1 : Int) = 0 by omega), eX, obs, eY, obs, eW, obs]
      refine pay9 (N := nJ q.1.1) (by omega) hn2 36 FU FU W X 0 0 (by omega) (by decide) (by decide) (by omega) (by omega) ⟨la.cg (fun i hi => w58 i (by omega)) (fun _ _ => rfl), nW, ?_, fun i hi => ?_, gY.r58 w58 MG.rf, fun j hj => ?_⟩
      · rw [w58 46 (by omega), nW]; exact h12
      · have := pd i (by omega)
        rw [nW] at this
        rw [ux 122 (by omega)]
        exact this
      · have a := (d5.2.2 j hj).2
        have b := (r1.2.2.2.2 j hj).2
        have t := (ton_bd r1.1 r1.lb (j := (j : Int)) (by omega) hj).2.2
        rw [w58 9 (by omega), k9, ux 70 (by omega)]
        omega
  · rw [if_pos (isFromV_0.mpr hn)]
    refine Two.bindR (isPav g hc).toR (fun z hz => ?_)
    obtain ⟨q, -, b1, b2, b3, b4, b5⟩ := hz
    rcases b2 with z0 | z1
    · rw [z0, if_pos rfl]; exact Two.ok ⟨rfl, g.mg b5⟩
    · rw [z1, if_neg (show ¬ (1 : Int) = 0 by omega)]
      refine Two.bindR (drawO (g.mg b5) hn) (fun y hy => ?_)
      rw [hy.1, if_pos rfl]
      exact Two.ok ⟨rfl, g.mg (b5.tr hy.2)⟩
