/-! the scan -/
def SCANP (v2 : Int) (b : Nat → Int) (sz : Nat) (V0 U0 : VV) (W : VV) (z : VV × Int) : Prop := (z.2 = 0 ∧ ∃ m, INVH v2 b sz V0 U0 W z.1 m) ∨ DPost v2 V0 U0 W z
theorem scanL {v2 : Int} {b : Nat → Int} {sz : Nat} {V0 U0 : VV} : ∀ (k n1 n2 : Nat) (V U : VV) (m : Nat), m + k = 41 → k < n1 → k < n2 → INVH v2 b sz V0 U0 V U m → Two (f_Hours_scan_2 n1 V v2 (m : Int)) (f_Mo_readHours_1 n2 U) (SCANP v2 b sz V0 U0) := by
  intro k
  induction k with
  | zero =>
    intro n1 n2 V U m e e1 e2 i
    have := i.2.2.1.2.2
    omega
  | succ k ih =>
    intro n1 n2 V U m e e1 e2 i
    cases n1 with
    | zero => omega
    | succ n1 =>
      cases n2 with
      | zero => omega
      | succ n2 =>
        have m40 := i.2.2.1.2.2
        have en := i.1.end_
        show Two (if 40 < (m : Int) then some V else if (f_Tape_isSound 16 17 400 V) = 0 then some V else if (V 16 2) = 0 then some V else Option.bind (f_Hours_passClause V v2) (fun q5 => f_Hours_scan_2 n1 q5 v2 (w32 ((m : Int) + 1)))) (if (U 62 45) = 0 then some (U, 0) else Option.bind (f_Mo_clause U) (fun q2 => if q2.2 = 0 then f_Mo_readHours_1 n2 q2.1 else some (q2.1, q2.2))) _
        rw [if_neg (show ¬ 40 < (m : Int) by omega), sound1 i.2.1, if_neg (show ¬ (1 : Int) = 0 by omega), w32_id (x := (m : Int) + 1) (by omega) (by omega)]
        by_cases g : V 16 2 = 0
        · rw [if_pos g, if_pos (en.mp g)]
          exact Two.ok (Or.inl ⟨rfl, m, i⟩)
        · rw [if_neg g, if_neg (fun x => g (en.mpr x))]
          refine Two.bind2 (clause2 i) (fun W z hz => ?_)
          rcases hz with ⟨z0, i2⟩ | d
          · rw [if_pos z0]
            exact ih n1 n2 W z.1 (m + 1) (by omega) (by omega) (by omega) i2
          · rw [if_neg d.1]
            have d1 : W 16 4 ≠ 0 := by rw [d.2.1.1]; exact d.1
            cases n1 with
            | zero => omega
            | succ n1 =>
              show Two (if 40 < (m : Int) + 1 then some W else if (f_Tape_isSound 16 17 400 W) = 0 then some W else _) _ _
              rw [sound0 d1, if_pos (show (0 : Int) = 0 from rfl)]
              refine Two.iteL (fun _ => Two.ok (Or.inr d)) (fun _ => Two.ok (Or.inr d))
theorem scanC {v2 : Int} {V U : VV} (tp : TAPS V U) : Two (f_Hours_scan V v2) (f_Mo_readHours U) (SCANP v2 (fun i => V 17 i) (V 16 1).toNat V U) := by
  obtain ⟨t1, t2, t3⟩ := tp
  obtain ⟨f, t, k, tk⟩ := tokEx (fun i => V 17 i) (p := 0) (sz := (V 16 1).toNat) (by omega)
  unfold f_Hours_scan f_Mo_readHours f_Tape_start
  have B : BY 16 17 400 (fun i => V 17 i) (V 16 1).toNat (up (up (up (up (up V 18 8 0) 18 9 0) 16 7 0) 16 4 0) 16 5 (-1)) := by
    refine ⟨by omega, ?_, by omega, by omega, fun i hi => ?_⟩
    · rw [up_nf _ _ (by omega), up_nf _ _ (by omega), up_nf _ _ (by omega), up_na _ _ _ (by omega), up_na _ _ _ (by omega)]; omega
    · rw [up_na _ _ _ (by omega), up_na _ _ _ (by omega), up_na _ _ _ (by omega), up_na _ _ _ (by omega), up_na _ _ _ (by omega)]
      exact ⟨rfl, (t3 i (by omega)).2⟩
  have BU : BM (fun i => V 17 i) (V 16 1).toNat (up (up (up U 62 50 0) 62 51 0) 62 43 0) := by
    refine ⟨?_, by omega, fun i hi => ?_⟩
    · rw [up_nf _ _ (by omega), up_nf _ _ (by omega), up_nf _ _ (by omega)]; omega
    · rw [up_na _ _ _ (by omega), up_na _ _ _ (by omega), up_na _ _ _ (by omega)]
      exact ⟨(t3 i (by omega)).1.symm, (t3 i (by omega)).2⟩
  have fh : FHc v2 V (up (up (up (up (up V 18 8 0) 18 9 0) 16 7 0) 16 4 0) 16 5 (-1)) := by
    refine ⟨fun i a d _ => by rw [up_na _ _ _ a, up_na _ _ _ a, up_na _ _ _ a, up_na _ _ _ d, up_na _ _ _ d], ?_, fun c a d => ?_⟩
    · rw [up_nf _ _ (by omega), up_nf _ _ (by omega), up_nf _ _ (by omega), up_na _ _ _ (by omega), up_na _ _ _ (by omega)]
    · rw [up_na _ _ _ (by omega), up_na _ _ _ (by omega), up_na _ _ _ (by omega), up_nf _ _ d, up_nf _ _ a]
  have fm : FHm U (up (up (up U 62 50 0) 62 51 0) 62 43 0) := by
    refine ⟨fun i a _ => by rw [up_na _ _ _ a, up_na _ _ _ a, up_na _ _ _ a], fun c a d e f => by rw [up_nf _ _ (by omega), up_nf _ _ e, up_nf _ _ d], fun i a d k _ => by rw [up_na _ _ _ (by omega), up_na _ _ _ (by omega), up_na _ _ _ (by omega)]⟩
  have c4 : (up (up (up (up (up V 18 8 0) 18 9 0) 16 7 0) 16 4 0) 16 5 (-1)) 16 4 = 0 := by rw [up_nf _ _ (by omega), up_eq]
  have c5 : (up (up (up (up (up V 18 8 0) 18 9 0) 16 7 0) 16 4 0) 16 5 (-1)) 16 5 = -1 := by rw [up_eq]
  have c7 : (up (up (up (up (up V 18 8 0) 18 9 0) 16 7 0) 16 4 0) 16 5 (-1)) 16 7 = ((0 : Nat) : Int) := by rw [up_nf _ _ (by omega), up_nf _ _ (by omega), up_eq]; rfl
  have c8 : (up (up (up (up (up V 18 8 0) 18 9 0) 16 7 0) 16 4 0) 16 5 (-1)) 18 8 = 0 := by rw [up_na _ _ _ (by omega), up_na _ _ _ (by omega), up_na _ _ _ (by omega), up_nf _ _ (by omega), up_eq]
  have c9 : (up (up (up (up (up V 18 8 0) 18 9 0) 16 7 0) 16 4 0) 16 5 (-1)) 18 9 = 0 := by rw [up_na _ _ _ (by omega), up_na _ _ _ (by omega), up_na _ _ _ (by omega), up_eq]
  have u43 : (up (up (up U 62 50 0) 62 51 0) 62 43 0) 62 43 = ((0 : Nat) : Int) := by rw [up_eq]; rfl
  have u50 : (up (up (up U 62 50 0) 62 51 0) 62 43 0) 62 50 = 0 := by rw [up_nf _ _ (by omega), up_nf _ _ (by omega), up_eq]
  have u51 : (up (up (up U 62 50 0) 62 51 0) 62 43 0) 62 51 = 0 := by rw [up_nf _ _ (by omega), up_eq]
  generalize up (up (up (up (up V 18 8 0) 18 9 0) 16 7 0) 16 4 0) 16 5 (-1) = VA at *
  generalize up (up (up U 62 50 0) 62 51 0) 62 43 0 = UA at *
  obtain ⟨W, eW, w1, w2⟩ := tokC tk B c7
  obtain ⟨X, eX, x1, x2⟩ := nextM tk BU u43
  rw [eW, eX, obs, obs, obs]
  have w4 := w1.2 4 (by omega) (by omega) (by omega) (by omega)
  have w5 := w1.2 5 (by omega) (by omega) (by omega) (by omega)
  have w18 := w1.1 18 (by omega)
  refine scanL 41 FU FU W X 0 (by omega) (by decide) (by decide) ⟨⟨fun _ => by rw [w5]; exact c5, 0, f, t, k, tk, B.fr w1, BU.fr x1, w2, x2⟩, by rw [w4]; exact c4, ⟨by rw [w18]; exact c8, by rw [x1.2 50 (by omega)]; exact u50, by omega⟩, ?_, fh.cf w1.cf, fm.mf2 x1.mf2, fun _ i hi => by omega⟩
  rw [w18, x1.2 51 (by omega), c9, u51]
  omega
