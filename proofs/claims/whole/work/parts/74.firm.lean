/-! (5) is the job below firm? -/
theorem EN.warm {V0 U0 V U : VV} {h : HP} (e : EN V0 U0) (r : R0 V0 U0 V h U) : WmOK V ∧ WmU U0 ∧ V 15 = V0 15 ∧ (∀ k : Nat, k < 9 → U 62 (24 + k) = V 15 k) ∧ (∀ dep ht, mnU U0 dep ht = mnJ V dep ht) ∧ ∀ dep ht, mnU U dep ht = mnU U0 dep ht := by
  obtain ⟨d, sr, sj, n0, sp, ⟨w, wu⟩, -⟩ := e
  obtain ⟨c, m, -⟩ := r
  have v15 : V 15 = V0 15 := by funext k; exact c 15 k rfl
  have e29 : U0 62 29 = V0 15 5 := wu 5 (by omega)
  have e30 : U0 62 30 = V0 15 6 := wu 6 (by omega)
  have e31 : U0 62 31 = V0 15 7 := wu 7 (by omega)
  have e32 : U0 62 32 = V0 15 8 := wu 8 (by omega)
  refine ⟨by unfold WmOK; rw [v15]; exact w, ?_, v15, fun k hk => ?_, fun dep ht => ?_, fun dep ht => ?_⟩
  · unfold WmU; rw [e29, e30, e31, e32]; exact ⟨w.2.2.2.2.2.1, w.2.2.2.2.2.2.1, w.2.2.2.2.2.2.2.1, w.2.2.2.2.2.2.2.2⟩
  · rw [v15, ← wu k hk]
    have : k = 0 ∨ k = 1 ∨ k = 2 ∨ k = 3 ∨ k = 4 ∨ k = 5 ∨ k = 6 ∨ k = 7 ∨ k = 8 := by omega
    rcases this with rfl | rfl | rfl | rfl | rfl | rfl | rfl | rfl | rfl <;> exact m 62 _ rfl
  · unfold mnU mnJ; rw [e29, e30, e31, e32, v15]
  · unfold mnU; rw [m 62 29 rfl, m 62 30 rfl, m 62 31 rfl, m 62 32 rfl]
/-- a job that is known cools on: nothing else has changed -/
theorem FR.cool {V0 U0 V W U : VV} {h : HP} {t β tl : Int} {τ ρ : Nat → Int} {b : Nat} (r : FR V0 U0 h t β tl τ ρ V U) (co : CO b V W) (ck : CoolK W b) : FR V0 U0 h t β tl τ ρ W U := by
  obtain ⟨⟨cf, mf, hh⟩, rt, rj, rp, l0, l1⟩ := r
  obtain ⟨i1, i2, i3⟩ := hh.lie
  have c0 := co.1
  obtain ⟨la, lo, jo, jl⟩ := rj
  obtain ⟨su, ca, ka⟩ := rp
  have cf2 : CFr V0 W := by
    intro i k ek
    by_cases x : i = 34 ∨ i = 35 ∨ i = 36
    · rcases x with rfl | rfl | rfl <;> cases ek
    · rw [c0 i (by omega) (by omega) (by omega)]; exact cf i k ek
  refine ⟨⟨cf2, mf, hh⟩, rt.frame (fun i x y => c0 i (by omega) (by omega) (by omega)) (fun _ _ => rfl) rfl rfl, ⟨?_, ?_, ?_, ?_⟩, ⟨?_, ?_, fun j hj => ?_⟩, l0, l1⟩
  · unfold gLA; rw [c0 28 (by omega) (by omega) (by omega), c0 h.1 (by omega) (by omega) (by omega)]; exact la
  · unfold gLO preL; rw [c0 28 (by omega) (by omega) (by omega), c0 h.2.1 (by omega) (by omega) (by omega)]; exact lo
  · unfold gJO; rw [c0 37 (by omega) (by omega) (by omega), c0 45 (by omega) (by omega) (by omega)]; exact jo
  · unfold gJL; rw [c0 46 (by omega) (by omega) (by omega)]; exact jl
  · unfold gSU; rw [c0 46 (by omega) (by omega) (by omega), c0 47 (by omega) (by omega) (by omega)]; exact su
  · unfold gCA; rw [c0 46 (by omega) (by omega) (by omega), c0 32 (by omega) (by omega) (by omega), c0 33 (by omega) (by omega) (by omega), c0 48 (by omega) (by omega) (by omega)]; exact ca
  · by_cases x : j = b
    · subst x; exact ⟨ck, (ka j hj).2⟩
    · exact ⟨(ka j hj).1.co co x, (ka j hj).2⟩
def firmF (U : VV) (t : Int) : Int := if U 62 74 < U 62 0 then 1 else if U 62 27 < U 109 (601 * (U 62 74 - U 62 0).toNat + (min 600 (t - U 97 (U 62 74 - U 62 0).toNat)).toNat) then 0 else 1
theorem firmM {V0 U0 V U : VV} {h : HP} {t β tl : Int} {τ ρ : Nat → Int} (e : EN V0 U0) (ht : 0 ≤ t ∧ t ≤ 4319) (r : FR V0 U0 h t β tl τ ρ V U) : f_Mo_isFirm U t = some (firmF U t) := by
  obtain ⟨r0, rt, rj, rp, l0, l1⟩ := r
  obtain ⟨jb1, jb2, jb3, jb4, jb5, jb6, jb7⟩ := e.jobs r0
  have rs := e.1.1.1
  have s0 := (e.1.1.split (j := 0) (by omega) (by omega)).1
  have hd := rj.2.2.2.2.1
  unfold f_Mo_isFirm firmF f_Mo_isFirm_4
  by_cases g : U 62 74 < U 62 0
  · rw [if_pos g, if_pos g]
  · rw [if_neg g, if_neg g]
    obtain ⟨b, hb⟩ : ∃ b : Nat, U 62 74 - U 62 0 = (b : Int) := ⟨(U 62 74 - U 62 0).toNat, by omega⟩
    rw [hb, w32_id (x := (b : Int)) (by omega) (by omega), Int.toNat_natCast]
    have cb := (rp.2.1.1 b (by omega)).2.1
    rw [if_pos (by omega), w32_id (by omega) (by omega)]
    unfold f_Mo_meanOf
    have em : (if 600 < t - U 97 b then 600 else t - U 97 b : Int) = min 600 (t - U 97 b) := by split <;> omega
    rw [em, w32_id (x := 601 * (b : Int)) (by omega) (by omega), w32_id (by omega) (by omega), if_pos (by omega), show (601 * (b : Int) + min 600 (t - U 97 b)).toNat = 601 * b + (min 600 (t - U 97 b)).toNat by omega]
    show (if U 62 27 < U 109 _ then some 0 else some 1) = _
    split <;> rfl
theorem firmC {V0 U0 V U : VV} {h : HP} {t β tl : Int} {τ ρ : Nat → Int} (e : EN V0 U0) (ht : 0 ≤ t ∧ t ≤ 4319) (r : FR V0 U0 h t β tl τ ρ V U) (hj : U 62 74 < U0 62 13) : Sm (f_Paving_isFirmBelow V t) (fun q => FR V0 U0 h t β tl τ ρ q.1 U ∧ q.2 = firmF U t) := by
  obtain ⟨r0, rt, rj, rp, l0, l1⟩ := id r
  obtain ⟨jb1, jb2, jb3, jb4, jb5, jb6, jb7⟩ := e.jobs r0
  have rs := e.1.1.1
  have s0 := (e.1.1.split (j := 0) (by omega) (by omega)).1
  obtain ⟨hd1, hd2, -⟩ := rj.2.2.2
  obtain ⟨wm, wU, v15, wk, mn1, mn2⟩ := e.warm r0
  unfold f_Paving_isFirmBelow firmF
  rw [hd1, jb5, jb6, w32_id (x := U 62 74 - V0 1 8) (by omega) (by omega)]
  by_cases g : U 62 74 < V0 1 8
  · rw [if_pos (by omega), if_pos g]
    exact Sm.ok ⟨r, rfl⟩
  · rw [if_neg (by omega), if_neg g]
    obtain ⟨b, hb⟩ : ∃ b : Nat, U 62 74 - V0 1 8 = (b : Int) := ⟨(U 62 74 - V0 1 8).toNat, by omega⟩
    rw [hb, Int.toNat_natCast]
    obtain ⟨c1, c2, c3, c4, -⟩ := rp.2.1.1 b (by omega)
    obtain ⟨k1, k2⟩ := rp.2.2 b (by omega)
    obtain ⟨-, -, -, -, d1, d2, d3, d4⟩ := e.ton r0 (j := b) (by omega)
    rw [atV_in (by omega) (by omega), Int.toNat_natCast, c1, w32_id (by omega) (by omega)]
    refine Sm.bind (meanB wm (by omega) (by omega) (by omega) (by omega) (by omega) k1 (t - U 97 b)) (fun q3 _ hq => ?_)
    obtain ⟨q1, q2, q3'⟩ := hq
    have rq := r.cool q1 q2
    have f3 : q3.1 15 3 = U 62 27 := by
      rw [q1.1 15 (by omega) (by omega) (by omega)]; exact (wk 3 (by omega)).symm
    have m2 : U 109 (601 * b + (min 600 (t - U 97 b)).toNat) = q3.2 := by
      rw [k2 _ (by omega), q3', ← mn1, d1, c3, show (max 0 (min 600 (t - U 97 b))).toNat = (min 600 (t - U 97 b)).toNat by omega]
    rw [f3, m2]
    refine Sm.ite (fun z => ?_) (fun z => ?_)
    · rw [if_pos z]; exact Sm.ok ⟨rq, rfl⟩
    · rw [if_neg z]; exact Sm.ok ⟨rq, rfl⟩
