/-! (3) the plants one by one -/
theorem up_comm {V : VV} {a b c d : Nat} {x y : Int} (h : a ≠ c) : up (up V a b x) c d y = up (up V c d y) a b x := by
  funext i j
  rw [up_ap, up_ap, up_ap, up_ap]
  by_cases e : i = c
  · have e2 : ¬ i = a := fun z => h (z.symm.trans e)
    simp only [if_pos e, if_neg e2]
  · simp only [if_neg e]
theorem RT.rho {U0 V U : VV} {t β : Int} {τ ρ ρ2 : Nat → Int} (r : RT U0 t β τ ρ V U) (h : ∀ q : Nat, (q : Int) < U0 62 17 → U 92 q ≠ -1 → ρ q ≤ U 93 q → ρ2 q ≤ U 93 q) : RT U0 t β τ ρ2 V U := by
  obtain ⟨a, b, c, d, pa, ps, ga⟩ := r
  refine ⟨a, b, c, d, fun q hq => ?_, ps, ga⟩
  obtain ⟨q1, q2, q3, q4⟩ := pa q hq
  refine ⟨q1, q2, q3, ?_⟩
  rcases q4 with q4 | ⟨z1, z2, z3, z4, z5, z6⟩
  · exact Or.inl q4
  · exact Or.inr ⟨z1, z2, z3, z4, h q hq (by omega) z5, z6⟩
theorem gLA.note {V U U0 : VV} {h : HP} (hh : HOK h) (r : gLA V h U0 U) {l f : Nat} {x : Int} (hf : 5 ≤ f ∧ f < 9) (hx : f = 5 → -1 ≤ x ∧ x ≤ 4319) : gLA (up V h.1 (9 * l + f) x) h U0 (up U (99 + f) l x) := by
  obtain ⟨a, b, c⟩ := r
  obtain ⟨l1, l2, l3⟩ := hh.lie
  unfold gLA
  rw [up_na V _ _ (show (28 : Nat) ≠ h.1 by omega), up_na U _ _ (show (62 : Nat) ≠ 99 + f by omega), up_na U _ _ (show (99 : Nat) ≠ 99 + f by omega), up_na U _ _ (show (100 : Nat) ≠ 99 + f by omega)]
  refine ⟨a, b, fun l' hl => ?_⟩
  obtain ⟨c1, c2, c3, c4⟩ := c l' hl
  refine ⟨fun f' hf' => ?_, c2, c3, ?_⟩
  · rw [up_ap, if_pos rfl, up_ap]
    by_cases e : f' = f
    · subst e
      rw [if_pos rfl]
      by_cases e2 : l' = l
      · subst e2; rw [if_pos rfl, if_pos rfl]
      · rw [if_neg (by omega), if_neg e2]; exact c1 f' hf'
    · rw [if_neg (by omega), if_neg (by omega)]; exact c1 f' hf'
  · rw [up_ap]
    by_cases e : 104 = 99 + f
    · rw [if_pos e]
      by_cases e2 : l' = l
      · rw [if_pos e2]; exact hx (by omega)
      · rw [if_neg e2]; exact c4
    · rw [if_neg e]; exact c4
/-- what stands still, as it is now -/
def NV (V0 U0 V U : VV) : Prop := (V 37 5 = U0 62 22 ∧ U 62 22 = U0 62 22 ∧ 1 ≤ U0 62 22 ∧ U0 62 22 ≤ 16) ∧ (V 10 4 = U0 62 17 ∧ U 62 17 = U0 62 17 ∧ 0 ≤ U0 62 17 ∧ U0 62 17 ≤ 3) ∧ (V 37 4 = V0 37 4 ∧ V 46 9 = V0 37 4 ∧ U 62 91 = V0 37 4) ∧ (V 46 10 = U0 62 92 ∧ U 62 92 = U0 62 92 ∧ 1 ≤ U0 62 92 ∧ U0 62 92 ≤ 20) ∧ (V 10 6 = U0 62 23 ∧ U 62 23 = U0 62 23 ∧ 5 ≤ U0 62 23 ∧ U0 62 23 ≤ 30) ∧ HA V U (V0 37 4)
theorem HC.tr {V0 V V2 : VV} (h : HC V0 V) (h2 : HC V V2) : HC V0 V2 := fun i a b => (h2 i a b).trans (h i a b)
theorem HM.tr {V0 V V2 : VV} (h : HM V0 V) (h2 : HM V V2) : HM V0 V2 := ⟨h2.1.trans h.1, fun i a b => (h2.2 i a b).trans (h.2 i a b)⟩
theorem EN.nv {V0 U0 V U : VV} {h : HP} (e : EN V0 U0) (r : R0 V0 U0 V h U) : NV V0 U0 V U := by
  obtain ⟨-, -, -, -, sp, -, n, w, pc, ha, -⟩ := e
  obtain ⟨c, m, -⟩ := r
  obtain ⟨s1, s2, s3, s4, -⟩ := sp
  refine ⟨⟨?_, m 62 22 rfl, n.2⟩, ⟨?_, m 62 17 rfl, by omega, by omega⟩, ⟨c 37 4 rfl, ?_, ?_⟩, ⟨?_, m 62 92 rfl, by omega, by omega⟩, ⟨?_, m 62 23 rfl, by omega, by omega⟩, ?_⟩
  · rw [c 37 5 rfl]; exact n.1
  · rw [c 10 4 rfl]; exact s1.symm
  · rw [c 46 9 rfl]; exact w.1
  · rw [m 62 91 rfl]; exact w.2
  · rw [c 46 10 rfl]; exact pc.1.symm
  · rw [c 10 6 rfl]; exact s3.symm
  · exact fun V' U' h1 h2 => ha V' U' (c.hc.tr h1) (m.hm.tr h2)
/-- of a plant -/
theorem EN.pl {V0 U0 V U : VV} {h : HP} (e : EN V0 U0) (r : R0 V0 U0 V h U) {p : Nat} (hp : (p : Int) < U0 62 17) : (V 11 p = U 71 p ∧ 0 ≤ U 71 p ∧ U 71 p ≤ 2) ∧ (V 12 p = U 72 p ∧ 1 ≤ U 72 p ∧ U 72 p ≤ 10) ∧ (V 13 p = U 73 p ∧ 10 ≤ U 73 p ∧ U 73 p ≤ 200) ∧ (V 14 p = U 74 p ∧ 1 ≤ U 74 p ∧ U 74 p ≤ 20) := by
  obtain ⟨-, -, -, -, sp, -⟩ := e
  obtain ⟨c, m, -⟩ := r
  obtain ⟨s1, -, -, -, s5⟩ := sp
  obtain ⟨a1, a2, a3, a4⟩ := s5 p (by omega)
  rw [c 11 p rfl, c 12 p rfl, c 13 p rfl, c 14 p rfl, m 71 p rfl, m 72 p rfl, m 73 p rfl, m 74 p rfl, a1.1, a2.1, a3.1, a4.1]
  exact ⟨⟨rfl, a1.2⟩, ⟨rfl, a2.2⟩, ⟨rfl, a3.2⟩, ⟨rfl, a4.2⟩⟩
def rhoN (t : Int) (p : Nat) : Nat → Int := fun q => if q < p then t + 1 else t
def plC : Nat → VV → HP → Int → Int → Option VV
  | 0, _, _, _, _ => none
  | n + 1, V, h, t, p => if p < V 10 4 then Option.bind (f_Haulage_servePlant V h p t) (fun q => plC n q h t (w32 (p + 1))) else some V
theorem plC_eq {k8 : VV → HP → Int → Option ((VV × HP) × Int)} {h : HP} {t : Int} : ∀ (n : Nat) (V : VV) (p : Int), f_Paving_isDone_13 k8 n V h t p = Option.bind (plC n V h t p) (fun V => Option.bind (f_Haulage_orderLoads V h t) (fun q2 => if (f_Hours_isOpen q2.1 (q2.1 46 9) t) = 0 then f_Paving_isDone_20 k8 q2.1 (q2.2) t else Option.bind (f_Paving_pave q2.1 (q2.2) t) (fun q5 => f_Paving_isDone_20 k8 q5 (q2.2) t))) := by
  intro n
  induction n with
  | zero => intro V p; rfl
  | succ n ih =>
    intro V p
    show (if p < V 10 4 then Option.bind (f_Haulage_servePlant V h p t) (fun q6 => f_Paving_isDone_13 k8 n q6 h t (w32 (p + 1))) else _) = Option.bind (if p < V 10 4 then Option.bind (f_Haulage_servePlant V h p t) (fun q => plC n q h t (w32 (p + 1))) else some V) _
    by_cases e : p < V 10 4
    · rw [if_pos e, if_pos e, Option.bind_assoc]
      congr 1
      funext q
      exact ih q _
    · rw [if_neg e, if_neg e]; rfl
theorem serve10 {V0 U0 V U : VV} {h : HP} {t β tl : Int} (e : EN V0 U0) (ht : 0 ≤ t ∧ t ≤ 4319) {α : Type} {F : VV → Option α} {k1 : VV → Int → Int → Option VV} {Q : α → VV → Prop} {p : Nat} (hp : (p : Int) < U0 62 17) (K : ∀ V U, FR V0 U0 h t β tl (fun _ => t + 1) (rhoN t (p + 1)) V U → Two (F V) (k1 U t ((p : Int) + 1)) Q) (r : FR V0 U0 h t β tl (fun _ => t + 1) (rhoN t (p + 1)) V U) : Two (Option.bind (f_Haulage_servePlant_10 V h (p : Int) t) F) (f_Mo_plantsGo_12 k1 U t (p : Int)) Q := by
  obtain ⟨r0, rt, rj, rp, l0, l1⟩ := id r
  obtain ⟨nN, nP, nw, -, -, ha⟩ := e.nv r0
  obtain ⟨hc, hm, hh⟩ := id r0
  obtain ⟨rA, rB, rC, rD, rPA, rPS, rGA⟩ := id rt
  obtain ⟨la, -, -, -⟩ := id rj
  obtain ⟨la1, la2, la3⟩ := id la
  obtain ⟨p1, p2, p3, p4⟩ := rPA p hp
  obtain ⟨-, -, -, pf⟩ := e.pl r0 hp
  obtain ⟨o1, o2, o3⟩ := hh.bd
  obtain ⟨i1, i2, i3⟩ := hh.lie
  have hsh := ((ha V U (fun _ _ _ => rfl) ⟨rfl, fun _ _ _ => rfl⟩ t ht.1 ht.2).2 p (by omega) (by omega)).1
  have nx : Two (F V) (f_Mo_plantsGo_33 k1 U t (p : Int)) Q := by
    show Two (F V) (k1 U t (w32 ((p : Int) + 1))) Q
    rw [w32_id (by omega) (by omega)]
    exact K V U r
  have a39 : atV V 39 3 (p : Int) = U 92 p := by rw [atV_in (by omega) (by omega), show ((p : Int)).toNat = p by omega, p3]
  have a38 : atV V 38 3 (p : Int) = U 91 p := by rw [atV_in (by omega) (by omega), show ((p : Int)).toNat = p by omega, p1]
  show Two (Option.bind (if (atV V 39 3 (p : Int)) = (-1) then if (f_Hours_isShut V (V 37 4) (p : Int) t) = 0 then Option.bind (f_Haulage_beginFilling V h (p : Int) t) (fun q5 => some q5) else some V else some V) F) (Option.bind (f_Mo_firstAtPlant U (p : Int)) (fun q1 => if 0 ≤ (p : Int) ∧ (p : Int) < (3 : Int) then if (U 92 ((p : Int)).toNat) < 0 then if q1 < 0 then f_Mo_plantsGo_33 k1 U t (p : Int) else Option.bind (f_Mo_isShut U (U 62 91) (p : Int) t) (fun q5 => if q5 = 0 then if 0 ≤ (p : Int) ∧ (p : Int) < (3 : Int) then if 0 ≤ q1 ∧ q1 < (16 : Int) then if 0 ≤ (U 90 q1.toNat) ∧ (U 90 q1.toNat) < (17400 : Int) then if (U 91 ((p : Int)).toNat) < (U 100 ((U 90 q1.toNat).toNat)) then f_Mo_plantsGo_33 k1 U t (p : Int) else if 0 ≤ (p : Int) ∧ (p : Int) < (3 : Int) then if 0 ≤ q1 ∧ q1 < (16 : Int) then if 0 ≤ (U 90 q1.toNat) ∧ (U 90 q1.toNat) < (17400 : Int) then if 0 ≤ (p : Int) ∧ (p : Int) < (3 : Int) then if 0 ≤ q1 ∧ q1 < (16 : Int) then if 0 ≤ (U 90 q1.toNat) ∧ (U 90 q1.toNat) < (17400 : Int) then if 0 ≤ (p : Int) ∧ (p : Int) < (3 : Int) then if 0 ≤ (p : Int) ∧ (p : Int) < (3 : Int) then if 0 ≤ (p : Int) ∧ (p : Int) < (3 : Int) then if 0 ≤ q1 ∧ q1 < (16 : Int) then f_Mo_plantsGo_33 k1 (up (up (up (up (up U 91 ((p : Int)).toNat (w32 ((U 91 ((p : Int)).toNat) - (U 100 ((U 90 q1.toNat).toNat))))) 104 ((U 90 q1.toNat).toNat) t) 92 ((p : Int)).toNat q1) 93 ((p : Int)).toNat (w32 (t + (U 74 ((p : Int)).toNat)))) 86 q1.toNat 3) t (p : Int) else none else none else none else none else none else none else none else none else none else none else none else none else none else f_Mo_plantsGo_33 k1 U t (p : Int)) else f_Mo_plantsGo_33 k1 U t (p : Int) else none)) Q
  rw [a39, nw.1, nw.2.2, show ((p : Int)).toNat = p by omega, hsh]
  refine Two.bindR (fsM (by omega)) (fun b hb => Two.posR (by omega) ?_)
  rw [nN.2.1] at hb
  by_cases g92 : U 92 p < 0
  · have g92' : U 92 p = -1 := by rcases p4 with p4 | ⟨z, -⟩ <;> omega
    rw [if_pos g92, if_pos g92']
    have fc : Sm (f_Haulage_firstStanding V h 2 3 (p : Int)) (fun x => x = b) := by
      refine (fsC (by omega)).imp (fun x hx => ?_)
      rw [nN.1] at hx
      have eqv : ∀ k, k < (U0 62 22).toNat → ((V 42 k = 2 ∧ f_Loads_of V h (V 44 k) 3 = (p : Int)) ↔ (U 86 k = 2 ∧ U 89 k = (p : Int))) := by
        intro k hk
        have t1 := rA k (by omega)
        rw [t1.1]
        by_cases z : U 86 k = 2
        · obtain ⟨b1, b2, b3, b4, b5, -⟩ := rB k (by omega) (by omega)
          have : f_Loads_of V h (V 44 k) 3 = U 89 k := by
            rw [b1, show U 90 k = ((U 90 k).toNat : Int) by omega]
            have := ld_of (V := V) (f := 3) hh (l := (U 90 k).toNat) (by omega) (by omega)
            rw [show (3 : Int) = ((3 : Nat) : Int) by omega, this, (la3 (U 90 k).toNat (by omega)).1 3 (by omega)]
            exact b4
          rw [this]
        · exact ⟨fun y => absurd y.1 z, fun y => absurd y.1 z⟩
      refine Fst.eq hx hb eqv (fun k k' hk hk' hP hP' o => ?_)
      have s1 := ((eqv k hk).mp hP).1
      have s2 := ((eqv k' hk').mp hP').1
      exact rD k k' (by omega) (by omega) (Or.inl s1) (Or.inl s2) o
    by_cases gb : b < 0
    · have gb' : b = -1 := by rcases hb with ⟨z, -⟩ | ⟨m, z, -⟩ <;> omega
      rw [if_pos gb]
      refine Two.biteL (fun _ => Two.bbindL ?_) (fun _ => nx)
      unfold f_Haulage_beginFilling
      refine Two.bbindL (Two.bindL fc (fun x hx => ?_))
      rw [hx, gb', if_pos rfl]
      exact nx
    · rw [if_neg gb]
      have hbm : ∃ m : Nat, b = (m : Int) ∧ (m : Int) < U0 62 22 ∧ U 86 m = 2 ∧ U 89 m = (p : Int) := by
        rcases hb with ⟨z, -⟩ | ⟨m, z1, z2, z3, -⟩
        · omega
        · exact ⟨m, z1, by omega, z3⟩
      obtain ⟨m, rfl, m1, m2, m3⟩ := hbm
      obtain ⟨b1, b2, b3, b4, b5, b6, b7⟩ := rB m m1 (by omega)
      refine Two.bindR (Sm.ok rfl) (fun s hs => ?_)
      subst hs
      obtain ⟨l, hl⟩ : ∃ l : Nat, U 90 m = (l : Int) := ⟨(U 90 m).toNat, by omega⟩
      have a44 : atV V 44 16 (m : Int) = (l : Int) := by rw [atV_in (by omega) (by omega), show ((m : Int)).toNat = m by omega, b1, hl]
      have lt1 : f_Loads_of V h (l : Int) 1 = U 100 l := by
        have := ld_of (V := V) (f := 1) hh (l := l) (by omega) (by omega)
        rw [show (1 : Int) = ((1 : Nat) : Int) by omega, this, (la3 l (by omega)).1 1 (by omega)]
      have lr := (la3 l (by omega)).2.2.1
      rw [show ((m : Int)).toNat = m by omega, hl, show ((l : Int)).toNat = l by omega]
      by_cases gs : f_Hours_isShut V (V0 37 4) (p : Int) t = 0
      · rw [if_pos gs, if_pos gs]
        refine Two.bbindL ?_
        unfold f_Haulage_beginFilling
        refine Two.bbindL (Two.bindL fc (fun x hx => ?_))
        subst hx
        refine Two.posR (by omega) (Two.posR (by omega) (Two.posR (by omega) ?_))
        rw [if_neg (by omega), a44, a38, lt1]
        refine Two.iteR (fun gt => ?_) (fun gt => Two.posR (by omega) (Two.posR (by omega) (Two.posR (by omega) (Two.posR (by omega) (Two.posR (by omega) (Two.posR (by omega) (Two.posR (by omega) (Two.posR (by omega) (Two.posR (by omega) (Two.posR (by omega) ?_))))))))))
        · rw [if_pos gt]; exact nx
        · rw [if_neg gt, lt_eq, lt_eq, lt_eq, lt_eq, lt_eq]
          show Two (F _) (k1 _ t (w32 ((p : Int) + 1))) Q
          rw [w32_id (x := (p : Int) + 1) (by omega) (by omega), w32_id (x := U 91 p - U 100 l) (by omega) (by omega), setV_in (V := V) (id := 38) (by omega) (by omega), setV_in (id := 39) (by omega) (by omega), setV_in (id := 40) (by omega) (by omega), setV_in (id := 42) (by omega) (by omega), atV_in (id := 14) (by omega) (by omega), show ((p : Int)).toNat = p by omega, show ((m : Int)).toNat = m by omega, up_na _ _ _ (show (14 : Nat) ≠ 39 by omega), up_na _ _ _ (show (14 : Nat) ≠ 38 by omega), pf.1, w32_id (x := t + U 74 p) (by omega) (by omega)]
          rw [show (5 : Int) = ((5 : Nat) : Int) by omega, ld_note hh (by omega) (by omega)]
          rw [up_comm (a := 104) (c := 92) (by omega), up_comm (a := 104) (c := 93) (by omega), up_comm (a := 104) (c := 86) (by omega)]
          have RT1 := rt.load (p := p) (f := m) (x := U 91 p - U 100 l) (y := t + U 74 p) (by omega) hp g92' ⟨m1, m2, m3⟩ (by omega) (by omega) ht
          have er : (fun q => if q = p then t + 1 else rhoN t (p + 1) q) = rhoN t (p + 1) := by
            funext q; unfold rhoN
            by_cases z : q = p
            · rw [if_pos z, if_pos (by omega)]
            · rw [if_neg z]
          rw [er] at RT1
          obtain ⟨v0, -, -, -, -⟩ := loadV_at V p m (U 91 p - U 100 l) (t + U 74 p)
          obtain ⟨u0, -, -, -, u86⟩ := loadU_at U p m (U 91 p - U 100 l) (t + U 74 p)
          have cf : CFr V0 (loadV V p m (U 91 p - U 100 l) (t + U 74 p)) := (((hc.up rfl).up rfl).up rfl).up rfl
          have mf : MFr U0 (loadU U p m (U 91 p - U 100 l) (t + U 74 p)) := (((hm.up rfl).up rfl).up rfl).up rfl
          refine K (up (loadV V p m (U 91 p - U 100 l) (t + U 74 p)) h.1 (9 * l + 5) t) (up (loadU U p m (U 91 p - U 100 l) (t + U 74 p)) 104 l t) ?_
          generalize loadV V p m (U 91 p - U 100 l) (t + U 74 p) = V2 at *
          generalize loadU U p m (U 91 p - U 100 l) (t + U 74 p) = U2 at *
          have u62 : U2 62 = U 62 := u0 62 (by omega) (by omega) (by omega) (by omega)
          refine ⟨⟨cf.up ((kE_row hh).1 _), mf.up rfl, hh⟩, ?_, ?_, ?_, ?_, ?_⟩
          · exact RT1.frame (fun i x1 x2 => up_na _ _ _ (by omega)) (fun i x1 => up_na _ _ _ (by omega)) (by rw [up_na _ _ _ (by omega)]) (by rw [up_na _ _ _ (by omega)])
          · have la' : gLA V2 h U0 U2 := by
              unfold gLA
              rw [v0 28 (by omega) (by omega) (by omega) (by omega), u62, v0 h.1 (by omega) (by omega) (by omega) (by omega), u0 99 (by omega) (by omega) (by omega) (by omega), u0 100 (by omega) (by omega) (by omega) (by omega), u0 104 (by omega) (by omega) (by omega) (by omega)]
              refine ⟨la1, la2, fun l' hl' => ⟨fun f hf => ?_, (la3 l' hl').2⟩⟩
              rw [u0 (99 + f) (by omega) (by omega) (by omega) (by omega)]
              exact (la3 l' hl').1 f hf
            refine rj.frame (la'.note hh (l := l) (f := 5) (x := t) (by omega) (by omega)) ?_ ?_ ?_ ?_ ?_ ?_ ?_ ?_ ?_ ?_ ?_ ?_ ?_
            · rw [up_na _ _ _ (by omega)]; exact v0 28 (by omega) (by omega) (by omega) (by omega)
            · rw [up_na _ _ _ (by omega)]; exact v0 _ (by omega) (by omega) (by omega) (by omega)
            · rw [up_na _ _ _ (by omega), v0 37 (by omega) (by omega) (by omega) (by omega)]
            · rw [up_na _ _ _ (by omega)]; exact v0 _ (by omega) (by omega) (by omega) (by omega)
            · rw [up_na _ _ _ (by omega)]; exact v0 _ (by omega) (by omega) (by omega) (by omega)
            · rw [up_na _ _ _ (by omega)]; exact u62
            · rw [up_na _ _ _ (by omega)]; exact u0 _ (by omega) (by omega) (by omega) (by omega)
            · rw [up_na _ _ _ (by omega)]; exact u0 _ (by omega) (by omega) (by omega) (by omega)
            · rw [up_na _ _ _ (by omega)]; exact u0 _ (by omega) (by omega) (by omega) (by omega)
            · rw [up_na _ _ _ (by omega)]; exact u0 _ (by omega) (by omega) (by omega) (by omega)
            · rw [up_na _ _ _ (by omega)]; exact u0 _ (by omega) (by omega) (by omega) (by omega)
            · rw [up_na _ _ _ (by omega)]; exact u0 _ (by omega) (by omega) (by omega) (by omega)
            · intro k hk
              rw [up_na _ _ _ (by omega), u86]
              by_cases z : k = m
              · subst z; rw [if_pos rfl, m2]; omega
              · rw [if_neg z]
          · exact rp.frame (fun i x1 => by rw [up_na _ _ _ (by omega)]; exact v0 i (by omega) (by omega) (by omega) (by omega)) (fun i x1 => by rw [up_na _ _ _ (by omega)]; exact u0 i (by omega) (by omega) (by omega) (by omega))
          · rw [up_na _ _ _ (by omega), u62]; exact l0
          · refine ⟨by rw [up_na _ _ _ (by omega), u62]; exact l1.1, ?_⟩
            unfold BGN
            rw [up_na _ _ _ (show (62 : Nat) ≠ 104 by omega), u62, up_na _ _ _ (show (107 : Nat) ≠ 104 by omega), u0 107 (by omega) (by omega) (by omega) (by omega)]
            intro l' hl'
            rw [up_ap, if_pos rfl, u0 104 (by omega) (by omega) (by omega) (by omega)]
            have := l1.2 l' hl'
            refine ⟨?_, this.2⟩
            split <;> omega
      · rw [if_neg gs, if_neg gs]; exact nx
  · rw [if_neg g92, if_neg (by omega)]; exact nx
theorem plants {V0 U0 : VV} {h : HP} {t β tl : Int} (e : EN V0 U0) (ht : 0 ≤ t ∧ t ≤ 4319) : ∀ (k n m : Nat) (V U : VV) (p : Nat), U0 62 17 - (p : Int) ≤ (k : Int) → k < n → k < m → (p : Int) ≤ U0 62 17 → FR V0 U0 h t β tl (fun _ => t + 1) (rhoN t p) V U → Two (plC n V h t (p : Int)) (f_Mo_plantsGo_1 m U t (p : Int)) (fun V U => FR V0 U0 h t β tl (fun _ => t + 1) (fun _ => t + 1) V U) := by
  have fin : ∀ (V U : VV) (p : Nat), ¬ (p : Int) < U0 62 17 → FR V0 U0 h t β tl (fun _ => t + 1) (rhoN t p) V U → Two (some V) (some U) (fun V U => FR V0 U0 h t β tl (fun _ => t + 1) (fun _ => t + 1) V U) := by
    intro V U p hp r
    obtain ⟨r0, rt, rj, rp, l0, l1⟩ := r
    refine Two.ok ⟨r0, rt.rho (fun q hq _ z => ?_), rj, rp, l0, l1⟩
    unfold rhoN at z
    rw [if_pos (by omega)] at z; exact z
  intro k
  induction k with
  | zero =>
    intro n m V U p e1 e2 e3 e4 r
    cases n with
    | zero => omega
    | succ n =>
      cases m with
      | zero => omega
      | succ m =>
        obtain ⟨nN, nP, -⟩ := e.nv r.1
        show Two (if (p : Int) < V 10 4 then _ else some V) (if (p : Int) < U 62 17 then _ else some U) _
        exact Two.negL (by omega) (Two.negR (by omega) (fin V U p (by omega) r))
  | succ k ih =>
    intro n m V U p e1 e2 e3 e4 r
    cases n with
    | zero => omega
    | succ n =>
      cases m with
      | zero => omega
      | succ m =>
        obtain ⟨r0, rt, rj, rp, l0, l1⟩ := id r
        obtain ⟨nN, nP, nw, -, -, ha⟩ := e.nv r0
        show Two (if (p : Int) < V 10 4 then Option.bind (f_Haulage_servePlant V h (p : Int) t) (fun q => plC n q h t (w32 ((p : Int) + 1))) else some V) (if (p : Int) < U 62 17 then if 0 ≤ (p : Int) ∧ (p : Int) < (3 : Int) then if (U 92 ((p : Int)).toNat) < 0 then f_Mo_plantsGo_12 (f_Mo_plantsGo_1 m) U t (p : Int) else if 0 ≤ (p : Int) ∧ (p : Int) < (3 : Int) then if (U 93 ((p : Int)).toNat) = t then if 0 ≤ (p : Int) ∧ (p : Int) < (3 : Int) then if 0 ≤ (U 92 ((p : Int)).toNat) ∧ (U 92 ((p : Int)).toNat) < (16 : Int) then if 0 ≤ (p : Int) ∧ (p : Int) < (3 : Int) then Option.bind (f_Mo_haulOf (up U 86 ((U 92 ((p : Int)).toNat).toNat) 4) (U 62 91) (p : Int) t) (fun q9 => if 0 ≤ (U 92 ((p : Int)).toNat) ∧ (U 92 ((p : Int)).toNat) < (16 : Int) then if 0 ≤ (p : Int) ∧ (p : Int) < (3 : Int) then f_Mo_plantsGo_12 (f_Mo_plantsGo_1 m) (up (up (up U 86 ((U 92 ((p : Int)).toNat).toNat) 4) 87 ((U 92 ((p : Int)).toNat).toNat) (w32 (t + q9))) 92 ((p : Int)).toNat (-1)) t (p : Int) else none else none) else none else none else none else f_Mo_plantsGo_12 (f_Mo_plantsGo_1 m) U t (p : Int) else none else none else some U) _
        refine Two.iteL (fun g => ?_) (fun g => Two.negR (by omega) (fin V U p (by omega) r))
        have hp : (p : Int) < U0 62 17 := by omega
        rw [if_pos (show (p : Int) < U 62 17 by omega), show ((p : Int)).toNat = p by omega]
        obtain ⟨rA, rB, rC, rD, rPA, rPS, rGA⟩ := id rt
        obtain ⟨p1, p2, p3, p4⟩ := rPA p hp
        have a39 : atV V 39 3 (p : Int) = U 92 p := by rw [atV_in (by omega) (by omega), show ((p : Int)).toNat = p by omega, p3]
        have K : ∀ V U, FR V0 U0 h t β tl (fun _ => t + 1) (rhoN t (p + 1)) V U → Two (plC n V h t (w32 ((p : Int) + 1))) (f_Mo_plantsGo_1 m U t ((p : Int) + 1)) (fun V U => FR V0 U0 h t β tl (fun _ => t + 1) (fun _ => t + 1) V U) := by
          intro V U r
          rw [w32_id (by omega) (by omega), show (p : Int) + 1 = ((p + 1 : Nat) : Int) by omega]
          exact ih n m V U (p + 1) (by omega) (by omega) (by omega) (by omega) r
        unfold f_Haulage_servePlant
        rw [a39]
        refine Two.posR (by omega) ?_
        have rhoS : (U 92 p = -1 ∨ t + 1 ≤ U 93 p) → FR V0 U0 h t β tl (fun _ => t + 1) (rhoN t (p + 1)) V U := by
          intro hz
          refine ⟨r0, rt.rho (fun q hq hne z => ?_), rj, rp, l0, l1⟩
          unfold rhoN at z ⊢
          by_cases eq : q = p
          · subst eq; rw [if_pos (by omega)]; omega
          · by_cases lq : q < p
            · rw [if_pos lq] at z; rw [if_pos (by omega)]; exact z
            · rw [if_neg lq] at z; rw [if_neg (by omega)]; exact z
        by_cases g92 : U 92 p < 0
        · have g92' : U 92 p = -1 := by rcases p4 with p4 | ⟨z, -⟩ <;> omega
          rw [if_pos g92, if_pos g92']
          exact serve10 e ht hp K (rhoS (Or.inl g92'))
        · have p5 : (0 ≤ U 92 p ∧ U 92 p < U0 62 22) ∧ U 86 (U 92 p).toNat = 3 ∧ U 89 (U 92 p).toNat = (p : Int) ∧ V 40 p = U 93 p ∧ rhoN t p p ≤ U 93 p ∧ U 93 p ≤ 5000 := by
            rcases p4 with p4 | p4
            · omega
            · exact p4
          obtain ⟨q1, q2, q3, q4, q5, q6⟩ := p5
          have hr : rhoN t p p = t := by unfold rhoN; rw [if_neg (by omega)]
          rw [hr] at q5
          have a40 : atV V 40 3 (p : Int) = U 93 p := by rw [atV_in (by omega) (by omega), show ((p : Int)).toNat = p by omega, q4]
          obtain ⟨f, hf⟩ : ∃ f : Nat, U 92 p = (f : Int) := ⟨(U 92 p).toNat, by omega⟩
          rw [if_neg g92, if_neg (show ¬ U 92 p = -1 by omega), a40, hf, show ((f : Int)).toNat = f by omega]
          refine Two.posR (by omega) ?_
          by_cases g93 : U 93 p = t
          · rw [if_pos g93, if_neg (by omega), lt_eq]
            refine Two.posR (by omega) (Two.posR (by omega) (Two.posR (by omega) ?_))
            obtain ⟨mm_, mm1, mm2, mm3, mm4⟩ := ((ha (setV V 42 16 (f : Int) 4) (up U 86 f 4) (by
              rw [setV_in (by omega) (by omega)]
              exact fun i x1 x2 => up_na _ _ _ (by omega)) ⟨by rw [up_na _ _ _ (by omega)], fun i x1 x2 => up_na _ _ _ (by omega)⟩ t ht.1 ht.2).2 p (by omega) (by omega)).2
            rw [nw.2.2, mm4]
            have e37 : setV V 42 16 (f : Int) 4 37 4 = V0 37 4 := by rw [setV_in (by omega) (by omega), up_na _ _ _ (by omega)]; exact nw.1
            rw [e37, mm3]
            refine Two.bindR (P := fun x => x = mm_) (Sm.ok rfl) (fun q9 h9 => ?_)
            rw [h9]
            refine Two.posR (by omega) (Two.posR (by omega) ?_)
            refine Two.bbindL (Two.bindL (P := fun x => x = mm_) (Sm.ok rfl) (fun q6 h6 => ?_))
            rw [h6]
            rw [lt_eq, lt_eq, lt_eq, setV_in (id := 42) (by omega) (by omega), setV_in (id := 43) (by omega) (by omega), atV_in (id := 41) (by omega) (by omega), setV_in (id := 41) (by omega) (by omega), setV_in (id := 39) (by omega) (by omega), show ((f : Int)).toNat = f by omega, show ((p : Int)).toNat = p by omega, up_na _ _ _ (show (41 : Nat) ≠ 43 by omega), up_na _ _ _ (show (41 : Nat) ≠ 42 by omega)]
            have s41 := rPS p hp
            have s41b := sm_nn (f := cntS U p) (n := (U0 62 22).toNat) (fun k _ => by unfold cntS; split <;> omega)
            have s41c := sm_le (f := cntS U p) (B := 1) (n := (U0 62 22).toNat) (fun k _ => by unfold cntS; split <;> omega)
            rw [w32_id (x := t + mm_) (by omega) (by omega), w32_id (x := V 41 p - 1) (by omega) (by omega)]
            refine serve10 e ht hp K (V := sendV V p f (t + mm_) (V 41 p - 1)) (U := sendU U p f (t + mm_)) ?_
            have RT1 := rt.send (p := p) (f := f) (m := mm_) (by omega) hp hf g93 ⟨mm1, mm2⟩ ht
            obtain ⟨v0, -, -, -, -⟩ := sendV_at V p f (t + mm_) (V 41 p - 1)
            obtain ⟨u0, u86, -, -⟩ := sendU_at U p f (t + mm_)
            obtain ⟨hc, hm, hh⟩ := id r0
            obtain ⟨i1, i2, i3⟩ := hh.lie
            have cf : CFr V0 (sendV V p f (t + mm_) (V 41 p - 1)) := (((hc.up rfl).up rfl).up rfl).up rfl
            have mf : MFr U0 (sendU U p f (t + mm_)) := ((hm.up rfl).up rfl).up rfl
            generalize sendV V p f (t + mm_) (V 41 p - 1) = V2 at *
            generalize sendU U p f (t + mm_) = U2 at *
            have u62 : U2 62 = U 62 := u0 62 (by omega) (by omega) (by omega)
            obtain ⟨la1, la2, la3⟩ := rj.1
            refine ⟨⟨cf, mf, hh⟩, RT1.rho (fun q hq hne z => ?_), ?_, ?_, ?_, ?_⟩
            · unfold rhoN at z ⊢
              by_cases eq : q = p
              · rw [if_pos eq] at z; rw [if_pos (by omega)]; exact z
              · rw [if_neg eq] at z
                by_cases lq : q < p
                · rw [if_pos lq] at z; rw [if_pos (by omega)]; exact z
                · rw [if_neg lq] at z; rw [if_neg (by omega)]; exact z
            · refine rj.frame ?_ (v0 _ (by omega) (by omega) (by omega) (by omega)) (v0 _ (by omega) (by omega) (by omega) (by omega)) (by rw [v0 37 (by omega) (by omega) (by omega) (by omega)]) (v0 _ (by omega) (by omega) (by omega) (by omega)) (v0 _ (by omega) (by omega) (by omega) (by omega)) u62 (u0 _ (by omega) (by omega) (by omega)) (u0 _ (by omega) (by omega) (by omega)) (u0 _ (by omega) (by omega) (by omega)) (u0 _ (by omega) (by omega) (by omega)) (u0 _ (by omega) (by omega) (by omega)) (u0 _ (by omega) (by omega) (by omega)) ?_
              · unfold gLA
                rw [v0 28 (by omega) (by omega) (by omega) (by omega), u62, v0 h.1 (by omega) (by omega) (by omega) (by omega), u0 99 (by omega) (by omega) (by omega), u0 100 (by omega) (by omega) (by omega), u0 104 (by omega) (by omega) (by omega)]
                refine ⟨la1, la2, fun l' hl' => ⟨fun f hf => ?_, (la3 l' hl').2⟩⟩
                rw [u0 (99 + f) (by omega) (by omega) (by omega)]
                exact (la3 l' hl').1 f hf
              · intro k hk
                rw [u86]
                by_cases z : k = f
                · subst z
                  rw [hf, show ((k : Int)).toNat = k by omega] at q2
                  rw [if_pos rfl, q2]; omega
                · rw [if_neg z]
            · exact rp.frame (fun i x1 => v0 i (by omega) (by omega) (by omega) (by omega)) (fun i x1 => u0 i (by omega) (by omega) (by omega))
            · rw [u62]; exact l0
            · unfold BGN; rw [u62, u0 104 (by omega) (by omega) (by omega), u0 107 (by omega) (by omega) (by omega)]; exact l1
          · rw [if_neg g93, if_pos (by omega)]
            exact serve10 e ht hp K (rhoS (Or.inr (by omega)))
