/-! the tape -/
theorem G.inn {c : Int} {V U W U2 : VV} {h : HP} (g : G c V h U) (w : ∀ i, ((1 ≤ i ∧ i ≤ 15) ∨ (19 ≤ i ∧ i ≤ 24) ∨ (27 ≤ i ∧ i ≤ 57) ∨ i = 61 ∨ 123 ≤ i) → W i = V i) (w15 : W 0 15 = V 0 15) (w6 : W 18 6 = V 18 6) (w7 : W 18 7 = V 18 7) (w26 : W 26 1 = V 26 1) (u1 : ∀ k, (k ≤ 12 ∨ (15 ≤ k ∧ k ≤ 39) ∨ k = 48 ∨ k = 49 ∨ k = 105) → U2 62 k = U 62 k) (u2 : ∀ i, ((63 ≤ i ∧ i ≤ 66) ∨ (71 ≤ i ∧ i ≤ 79)) → U2 i = U i) (u3 : ∀ i, 81 ≤ i → i ≤ 85 → ∀ k, k < 40 → U2 i k = U i k) (u4 : ∀ k : Nat, (k : Int) < U 62 105 → U2 118 k = U 118 k ∧ U2 119 k = U 119 k) (tp : TAPS W U2) (ft : W 0 16 = U2 62 41 ∧ W 0 17 = U2 62 42) : G (c + 1) W h U2 := by
  obtain ⟨g1, g2, g3, g4, g5, g6, g7, g8, g9, g10⟩ := g
  have ss : SS V W := ⟨fun i a b => w i (by omega), w6, w7, fun i a b => w i (by omega)⟩
  refine ⟨g1.fr (fun i hi => w i (by omega)) w6 w7, by rw [w 46 (by omega)]; omega, ?_, ?_, ?_, tp, ft, ?_, ?_, g10.fr ss w15 (w 61 (by omega))⟩
  · have s' : SETR V U2 := by
      obtain ⟨s1, s2, s3, s4, s5, s6⟩ := g3
      refine ⟨s1, ?_, ?_, ⟨s4.1, fun k hk => by rw [u1 _ (by omega)]; exact s4.2 k hk⟩, ?_, fun w a b => (s6 w a b).of ⟨rfl, fun _ _ _ => rfl⟩ ⟨u1 48 (by omega), u3⟩⟩
      · unfold SRoad
        rw [u1 0 (by omega), u1 8 (by omega), u1 3 (by omega), u1 4 (by omega), u1 5 (by omega), u1 6 (by omega), u1 7 (by omega), u2 63 (by omega), u2 64 (by omega), u2 65 (by omega), u2 66 (by omega)]
        exact s2
      · unfold SPl
        rw [u1 17 (by omega), u1 23 (by omega), u2 71 (by omega), u2 72 (by omega), u2 73 (by omega), u2 74 (by omega)]
        exact s3
      · unfold f_Mo_manyWorlds
        rw [u1 49 (by omega)]
        exact s5
    exact s'.ss ss
  · rw [u1 22 (by omega), w 10 (by omega)]; exact g4
  · obtain ⟨r1, r2, r3⟩ := g5
    unfold ROLS
    rw [w 49 (by omega), w 50 (by omega), w 51 (by omega), w 52 (by omega), w 53 (by omega), w 54 (by omega), u1 33 (by omega), u2 75 (by omega), u2 76 (by omega), u2 77 (by omega), u2 78 (by omega), u2 79 (by omega)]
    exact ⟨r1, r2, r3⟩
  · rw [u1 48 (by omega), w6]; exact g8
  · obtain ⟨Ug, Ug', a, b, d, e, f, j⟩ := g9
    refine ⟨Ug, Ug', by rw [w26]; exact a, by rw [w26]; exact b, fun i hi => ?_, e, by rw [u1 105 (by omega)]; exact f, fun i hi => ?_⟩
    · rw [w26] at hi
      rw [w 27 (by omega)]
      exact d i hi
    · have := u4 i (by omega)
      rw [this.1, this.2]
      exact j i hi
theorem byteB (b : BitVec 32) (k : Nat) (hk : k ≤ 24) : (b >>> k) &&& 255#32 = (b.sshiftRight k) &&& 255#32 := by
  apply BitVec.eq_of_getLsbD_eq
  intro i hi
  rw [BitVec.getLsbD_and, BitVec.getLsbD_and, BitVec.getLsbD_ushiftRight, BitVec.getLsbD_sshiftRight]
  by_cases h8 : i < 8
  · have h1 : k + i < 32 := by omega
    rw [if_pos h1]
    have : ¬ 32 ≤ i := by omega
    simp [this]
  · have : (255#32).getLsbD i = false := by
      rw [BitVec.getLsbD_ofNat, Nat.testBit_lt_two_pow (Nat.lt_of_lt_of_le (show 255 < 2 ^ 8 by decide) (Nat.pow_le_pow_right (by decide) (by omega)))]
      exact Bool.and_false _
    rw [this, Bool.and_false, Bool.and_false]
theorem byteE (v : Int) {s : Int} (hs : s = 0 ∨ s = 8 ∨ s = 16 ∨ s = 24) : iandI (iushrI v s) 255 = iandI (ishrI v s) 255 ∧ 0 ≤ iandI (ishrI v s) 255 ∧ iandI (ishrI v s) 255 ≤ 255 := by
  have bd : ∀ b : BitVec 32, 0 ≤ (b &&& 255#32).toInt ∧ (b &&& 255#32).toInt ≤ 255 := by
    intro b
    have h1 : (b &&& 255#32).toNat ≤ 255 := by
      rw [BitVec.toNat_and]
      exact Nat.and_le_right
    rw [BitVec.toInt_eq_toNat_of_lt (by omega)]
    omega
  have key : ∀ k : Nat, k ≤ 24 → iandI (iushrI v s) 255 = ((Int32.ofInt v).toBitVec >>> k &&& 255#32).toInt → iandI (ishrI v s) 255 = ((Int32.ofInt v).toBitVec.sshiftRight k &&& 255#32).toInt → iandI (iushrI v s) 255 = iandI (ishrI v s) 255 ∧ 0 ≤ iandI (ishrI v s) 255 ∧ iandI (ishrI v s) 255 ≤ 255 := by
    intro k hk e1 e2
    rw [e1, e2, byteB _ k hk]
    exact ⟨rfl, bd _⟩
  unfold iandI iushrI ishrI at *
  rw [Int32.ofInt_toInt, Int32.ofInt_toInt] at *
  rcases hs with rfl | rfl | rfl | rfl
  · exact key 0 (by omega) rfl rfl
  · exact key 8 (by omega) rfl rfl
  · exact key 16 (by omega) rfl rfl
  · exact key 24 (by omega) rfl rfl
/-- tape cells are changed -/
def TQ (V0 U0 W X : VV) : Prop := TAPS W X ∧ (∀ i, i ≠ 16 → i ≠ 17 → W i = V0 i) ∧ (∀ i, i ≠ 62 → i ≠ 80 → X i = U0 i) ∧ (∀ k, k ≠ 1 → W 16 k = V0 16 k) ∧ ∀ k, k ≠ 40 → X 62 k = U0 62 k
theorem TQ.byte {V0 U0 W X : VV} {b : Int} (t : TQ V0 U0 W X) (hb : 0 ≤ b ∧ b ≤ 255) (h4 : W 16 1 < 400) : TQ V0 U0 (up (up W 17 (W 16 1).toNat b) 16 1 (W 16 1 + 1)) (up (up X 80 (X 62 40).toNat b) 62 40 (X 62 40 + 1)) := by
  obtain ⟨⟨t1, t2, t3⟩, w, u, w16, u62⟩ := t
  refine ⟨⟨?_, ?_, fun i hi => ?_⟩, fun i a b => by rw [up_na _ _ _ a, up_na _ _ _ b]; exact w i a b, fun i a b => by rw [up_na _ _ _ a, up_na _ _ _ b]; exact u i a b, fun k hk => by rw [up_nf _ _ hk, up_na _ _ _ (by omega)]; exact w16 k hk, fun k hk => by rw [up_nf _ _ hk, up_na _ _ _ (by omega)]; exact u62 k hk⟩
  · rw [up_eq, up_eq]; omega
  · rw [up_eq]; omega
  · rw [up_eq] at hi
    rw [up_na (a := 16) _ _ _ (i := 17) (by omega), up_na (a := 62) _ _ _ (i := 80) (by omega), up_ap, up_ap, if_pos rfl, if_pos rfl, ← t1]
    by_cases e : i = (W 16 1).toNat
    · rw [if_pos e, if_pos e]; exact ⟨rfl, hb⟩
    · rw [if_neg e, if_neg e]; exact t3 i (by omega)
theorem fourL {V0 U0 : VV} {v : Int} : ∀ (k n m : Nat) (W X : VV) (s : Int), (s = -8 ∧ k = 0 ∨ s = 0 ∧ k = 1 ∨ s = 8 ∧ k = 2 ∨ s = 16 ∧ k = 3 ∨ s = 24 ∧ k = 4) → k < n → k < m → TQ V0 U0 W X → W 16 1 + k ≤ 400 → Two (f_Tape_addFour_1 n W v s) (f_Mo_four_1 m X v s) (fun W2 X2 => TQ V0 U0 W2 X2 ∧ W2 16 1 = W 16 1 + k) := by
  intro k
  induction k with
  | zero =>
    intro n m W X s e e2 e3 t h4
    cases n with
    | zero => omega
    | succ n =>
      cases m with
      | zero => omega
      | succ m =>
        show Two (if s < 0 then some W else _) (if s < 0 then some X else _) _
        rw [if_pos (by omega), if_pos (by omega)]
        exact Two.ok ⟨t, by omega⟩
  | succ k ih =>
    intro n m W X s e e2 e3 t h4
    cases n with
    | zero => omega
    | succ n =>
      cases m with
      | zero => omega
      | succ m =>
        have t1 := t.1.1
        have t2 := t.1.2.1
        obtain ⟨b1, b2⟩ := byteE v (s := s) (by omega)
        show Two (if s < 0 then some W else lt_ (setV W 17 400 (W 16 1) (iandI (iushrI v s) 255)) (fun q2 => f_Tape_addFour_1 n (up q2 16 1 (w32 ((q2 16 1) + 1))) v (w32 (s + (-8))))) (if s < 0 then some X else if 0 ≤ (X 62 40) ∧ (X 62 40) < (400 : Int) then f_Mo_four_1 m (up (up X 80 ((X 62 40).toNat) (iandI (ishrI v s) 255)) 62 40 (w32 ((X 62 40) + 1))) v (w32 (s + (-8))) else none) _
        rw [b1, if_neg (by omega), if_neg (by omega), if_pos (by omega), setV_in (by omega) (by omega)]
        unfold lt_
        dsimp only
        rw [up_na _ _ _ (show (16 : Nat) ≠ 17 by omega), w32_id (x := W 16 1 + 1) (by omega) (by omega), w32_id (x := X 62 40 + 1) (by omega) (by omega), w32_id (x := s + -8) (by omega) (by omega)]
        refine (ih n m _ _ (s + -8) (by omega) (by omega) (by omega) (t.byte b2 (by omega)) (by rw [up_eq]; omega)).imp (fun W2 X2 hh => ⟨hh.1, ?_⟩)
        have := hh.2
        rw [up_eq] at this
        omega
theorem four2 {V0 U0 W X : VV} {v : Int} (t : TQ V0 U0 W X) (h4 : W 16 1 + 4 ≤ 400) : Two (f_Tape_addFour W v) (f_Mo_four X v) (fun W2 X2 => TQ V0 U0 W2 X2 ∧ W2 16 1 = W 16 1 + 4) := fourL 4 FU FU W X 24 (by omega) (by decide) (by decide) t h4
theorem G.tq {c : Int} {V U W X : VV} {h : HP} (g : G c V h U) (t : TQ V U W X) : G (c + 1) W h X := by
  obtain ⟨t1, w, u, w16, u62⟩ := t
  have g7 := g.2.2.2.2.2.2.1
  exact g.inn (fun i hi => w i (by omega) (by omega)) (by rw [w 0 (by omega) (by omega)]) (by rw [w 18 (by omega) (by omega)]) (by rw [w 18 (by omega) (by omega)]) (by rw [w 26 (by omega) (by omega)]) (fun k hk => u62 k (by omega)) (fun i hi => u i (by omega) (by omega)) (fun i a b k _ => by rw [u i (by omega) (by omega)]) (fun k _ => by rw [u 118 (by omega) (by omega), u 119 (by omega) (by omega)]; exact ⟨rfl, rfl⟩) t1 (by rw [w 0 (by omega) (by omega), u62 41 (by omega), u62 42 (by omega)]; exact g7)
theorem g_feed {c : Int} {V U : VV} {h : HP} {p0 p1 p2 p3 p4 : Int} (g : G c V h U) : CA3 c h (f_Br_feed V p0 p1 p2 p3 p4) (f_Mo_feed U p0 p1 p2 p3 p4) := by
  have tp := g.2.2.2.2.2.1
  have t1 := tp.1
  have t2 := tp.2.1
  unfold CA3 f_Br_feed f_Mo_feed
  rw [w32_id (x := V 16 1 + 20) (by omega) (by omega), ← t1, w32_id (x := V 16 1 + 20) (by omega) (by omega)]
  by_cases h4 : 400 < V 16 1 + 20
  · rw [if_pos h4, if_pos h4]; exact Two.ok ⟨rfl, g.more⟩
  · rw [if_neg h4, if_neg h4]
    have t0 : TQ V U V U := ⟨tp, fun _ _ _ => rfl, fun _ _ _ => rfl, fun _ _ => rfl, fun _ _ => rfl⟩
    refine Two.bind2 (four2 t0 (by omega)) (fun Va Ua ha => ?_)
    refine Two.bind2 (four2 ha.1 (by omega)) (fun Vb Ub hb => ?_)
    refine Two.bind2 (four2 hb.1 (by omega)) (fun Vc Uc hc => ?_)
    refine Two.bind2 (four2 hc.1 (by omega)) (fun Vd Ud hd => ?_)
    refine Two.bind2 (four2 hd.1 (by omega)) (fun Ve Ue he => ?_)
    exact Two.ok ⟨he.1.1.1, g.tq he.1⟩
theorem g_end {c : Int} {V U : VV} {h : HP} {x : Int} (g : G c V h U) : CA2 c h (f_Br_end V x) (f_Mo_end U x) := by
  have tp := g.2.2.2.2.2.1
  have t1 := tp.1
  have t2 := tp.2.1
  unfold CA2 f_Br_end f_Mo_end
  rw [← t1]
  by_cases hx : 0 ≤ x ∧ x ≤ V 16 1
  · rw [if_neg (show ¬ isFromV x 0 (V 16 1) = 0 by rw [isFromV_1 hx.1 hx.2]; omega), if_neg (show ¬ f_Mo_isIn U x 0 (V 16 1) = 0 by rw [isIn_1 hx.1 hx.2]; omega)]
    refine ⟨rfl, g.tq (W := up V 16 1 x) (X := up U 62 40 x) ⟨⟨?_, ?_, fun i hi => ?_⟩, fun i a b => up_na _ _ _ a, fun i a b => up_na _ _ _ a, fun k hk => up_nf _ _ hk, fun k hk => up_nf _ _ hk⟩⟩
    · rw [up_eq, up_eq]
    · rw [up_eq]; omega
    · rw [up_eq] at hi
      rw [up_na _ _ _ (by omega), up_na _ _ _ (by omega)]
      exact tp.2.2 i (by omega)
  · rw [if_pos (isFromV_0.mpr hx), if_pos (isIn_0.mpr hx)]
    exact ⟨rfl, g.more⟩
