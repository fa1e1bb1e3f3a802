/-! (4) all orders of a minute -/
def orM : Nat → VV → Int → Int → Option VV
  | 0, _, _, _ => none
  | n + 1, U, t, k => if k < U 62 22 then if 0 ≤ k ∧ k < (16 : Int) then if U 86 k.toNat = 0 then Option.bind (f_Mo_order U k t) (fun q => orM n q t (w32 (k + 1))) else orM n U t (w32 (k + 1)) else none else some U
theorem orM_eq {k7 : VV → Int → Int → Option (VV × Int)} {w t : Int} : ∀ (n : Nat) (U : VV) (k : Int), f_Mo_goes_28 k7 n U w t k = Option.bind (orM n U t k) (fun U => Option.bind (f_Mo_isOpen U w t) (fun q2 => if q2 = 0 then f_Mo_goes_40 k7 U w t else Option.bind (f_Mo_paves U t) (fun q4 => if (q4 62 73) = (U 62 73) then if (q4 62 78) < 0 then f_Mo_goes_40 k7 q4 w t else f_Mo_goes_40 k7 (up q4 62 76 (w32 ((q4 62 76) + 1))) w t else f_Mo_goes_40 k7 q4 w t))) := by
  intro n
  induction n with
  | zero => intro U k; rfl
  | succ n ih =>
    intro U k
    show (if k < U 62 22 then if 0 ≤ k ∧ k < (16 : Int) then if (U 86 k.toNat) = 0 then Option.bind (f_Mo_order U k t) (fun q9 => f_Mo_goes_28 k7 n q9 w t (w32 (k + 1))) else f_Mo_goes_28 k7 n U w t (w32 (k + 1)) else none else _) = Option.bind (if k < U 62 22 then if 0 ≤ k ∧ k < (16 : Int) then if U 86 k.toNat = 0 then Option.bind (f_Mo_order U k t) (fun q => orM n q t (w32 (k + 1))) else orM n U t (w32 (k + 1)) else none else some U) _
    by_cases e : k < U 62 22
    · rw [if_pos e, if_pos e]
      by_cases e2 : 0 ≤ k ∧ k < (16 : Int)
      · rw [if_pos e2, if_pos e2]
        by_cases e3 : U 86 k.toNat = 0
        · rw [if_pos e3, if_pos e3, Option.bind_assoc]
          congr 1
          funext q
          exact ih q _
        · rw [if_neg e3, if_neg e3]
          exact ih U _
      · rw [if_neg e2, if_neg e2]; rfl
    · rw [if_neg e, if_neg e]; rfl
theorem ord_none {U : VV} {n kk t : Int} {j : Nat} (hn : n ≤ 36) (hj : U 62 13 = n) (ho : ∀ j : Nat, (j : Int) < n → U 94 j ≤ U 70 j) (f : FirstJ n (U 94) (U 70) j) (e : (j : Int) = n) : Sm (f_Mo_order U kk t) (fun W => W = U) := by
  refine orM1 (o := U 94) (T := U 70) hn hj (fun j hj => ⟨rfl, rfl, ho j hj⟩) (fun i hi => ?_) 36 FU 0 (by omega) (by decide) (by have := f.1; omega) (fun i hi => by omega)
  have : i = j := hi.uniq f
  subst this
  unfold f_Mo_order_6
  rw [if_pos (by omega)]
  exact Sm.ok rfl
theorem orM_none {U : VV} {n t : Int} {j : Nat} (hN : U 62 22 ≤ 16) (hn : n ≤ 36) (hj : U 62 13 = n) (ho : ∀ j : Nat, (j : Int) < n → U 94 j ≤ U 70 j) (f : FirstJ n (U 94) (U 70) j) (e : (j : Int) = n) : ∀ (k m : Nat) (i : Nat), U 62 22 - (i : Int) ≤ (k : Int) → k < m → (i : Int) ≤ U 62 22 → Sm (orM m U t (i : Int)) (fun W => W = U) := by
  intro k
  induction k with
  | zero =>
    intro m i e1 e2 e3
    cases m with
    | zero => omega
    | succ m =>
      show Sm (if (i : Int) < U 62 22 then _ else some U) _
      exact Sm.neg (by omega) (Sm.ok rfl)
  | succ k ih =>
    intro m i e1 e2 e3
    cases m with
    | zero => omega
    | succ m =>
      show Sm (if (i : Int) < U 62 22 then if 0 ≤ (i : Int) ∧ (i : Int) < (16 : Int) then if U 86 ((i : Int)).toNat = 0 then Option.bind (f_Mo_order U (i : Int) t) (fun q => orM m q t (w32 ((i : Int) + 1))) else orM m U t (w32 ((i : Int) + 1)) else none else some U) _
      refine Sm.ite (fun g => Sm.pos (by omega) ?_) (fun g => Sm.ok rfl)
      rw [w32_id (by omega) (by omega), show (i : Int) + 1 = ((i + 1 : Nat) : Int) by omega]
      refine Sm.ite (fun _ => Sm.bind (ord_none hn hj ho f e) (fun q _ hq => ?_)) (fun _ => ih m (i + 1) (by omega) (by omega) (by omega))
      rw [hq]
      exact ih m (i + 1) (by omega) (by omega) (by omega)
theorem RT.cnt {U0 V U : VV} {t β : Int} {τ ρ : Nat → Int} {k : Nat} (r : RT U0 t β τ ρ V U) (hN : U0 62 22 ≤ 16) (hk : (k : Int) < U0 62 22) (h86 : U 86 k = 0) (hβ : β ≤ 4319) : U 62 72 < 17280 := by
  obtain ⟨A, A1, A2⟩ := r.2.2.2.2.2.2
  have h1 := sm_upd (f := A) (g := fun x => if x = k then A k + 1 else A x) (k := k) (n := (U0 62 22).toNat) (by omega) (fun i _ hi => if_neg hi)
  rw [if_pos rfl] at h1
  have h2 := sm_le (f := fun x => if x = k then A k + 1 else A x) (B := 1080) (n := (U0 62 22).toNat) (fun i hi => by
    by_cases e : i = k
    · rw [if_pos e]
      have := (A2 k hk).2.1 h86
      omega
    · rw [if_neg e]
      exact (A2 i (by omega)).1.2)
  omega
theorem orders {V0 U0 : VV} {t tl : Int} (e : EN V0 U0) (ht : 0 ≤ t ∧ t ≤ 4319) : ∀ (kk n m : Nat) (V : VV) (h : HP) (U : VV) (k : Nat), U0 62 22 - (k : Int) ≤ (kk : Int) → kk < n → kk < m → (k : Int) ≤ U0 62 22 → FR V0 U0 h t t tl (fun _ => t + 1) (fun _ => t + 1) V U → Two (f_Haulage_orderLoads_1 n V h t (k : Int)) (orM m U t (k : Int)) (fun q U => FR V0 U0 q.2 t t tl (fun _ => t + 1) (fun _ => t + 1) q.1 U) := by
  intro kk
  induction kk with
  | zero =>
    intro n m V h U k e1 e2 e3 e4 r
    cases n with
    | zero => omega
    | succ n =>
      cases m with
      | zero => omega
      | succ m =>
        obtain ⟨nN, -⟩ := e.nv r.1
        show Two (if (k : Int) < V 37 5 then _ else some (V, h)) (if (k : Int) < U 62 22 then _ else some U) _
        exact Two.negL (by omega) (Two.negR (by omega) (Two.ok r))
  | succ kk ih =>
    intro n m V h U k e1 e2 e3 e4 r
    cases n with
    | zero => omega
    | succ n =>
      cases m with
      | zero => omega
      | succ m =>
        obtain ⟨r0, rt, rj, rp, l0, l1⟩ := id r
        obtain ⟨nN, nP, nw, -, nc, ha⟩ := e.nv r0
        obtain ⟨jb1, jb2, jb3, jb4, -, -, -⟩ := e.jobs r0
        obtain ⟨la, lo, jo, jl⟩ := id rj
        show Two (if (k : Int) < V 37 5 then if (atV V 42 16 (k : Int)) = 0 then Option.bind (f_Haulage_nextToOrder V) (fun q4 => if q4.2 = (-1) then some (q4.1, h) else Option.bind (f_Haulage_orderLoad q4.1 h (k : Int) q4.2 t) (fun q6 => f_Haulage_orderLoads_1 n q6.1 (q6.2) t (w32 ((k : Int) + 1)))) else f_Haulage_orderLoads_1 n V h t (w32 ((k : Int) + 1)) else some (V, h)) (if (k : Int) < U 62 22 then if 0 ≤ (k : Int) ∧ (k : Int) < (16 : Int) then if U 86 ((k : Int)).toNat = 0 then Option.bind (f_Mo_order U (k : Int) t) (fun q => orM m q t (w32 ((k : Int) + 1))) else orM m U t (w32 ((k : Int) + 1)) else none else some U) _
        refine Two.iteL (fun g => ?_) (fun g => Two.negR (by omega) (Two.ok r))
        have hk : (k : Int) < U0 62 22 := by omega
        refine Two.posR (by omega) (Two.posR (by omega) ?_)
        have a42 : atV V 42 16 (k : Int) = U 86 k := by rw [atV_in (by omega) (by omega), Int.toNat_natCast]; exact (rt.1 k hk).1
        have nx : ∀ (V : VV) (h : HP) (U : VV), FR V0 U0 h t t tl (fun _ => t + 1) (fun _ => t + 1) V U → Two (f_Haulage_orderLoads_1 n V h t (w32 ((k : Int) + 1))) (orM m U t (w32 ((k : Int) + 1))) (fun q U => FR V0 U0 q.2 t t tl (fun _ => t + 1) (fun _ => t + 1) q.1 U) := by
          intro V h U r
          rw [w32_id (by omega) (by omega), show (k : Int) + 1 = ((k + 1 : Nat) : Int) by omega]
          exact ih n m V h U (k + 1) (by omega) (by omega) (by omega) (by omega) r
        rw [a42, Int.toNat_natCast]
        by_cases h86 : U 86 k = 0
        · rw [if_pos h86, if_pos h86]
          have T := fun (j : Nat) hj => e.ton r0 (j := j) hj
          have ho : ∀ j : Nat, (j : Int) < U0 62 13 → V 45 j = U 94 j ∧ V 9 j = U0 70 j ∧ U 94 j ≤ U0 70 j := fun j hj => ⟨(jo.2.2 j hj).1, (T j hj).1, (jo.2.2 j hj).2.2⟩
          have hoU : ∀ j : Nat, (j : Int) < U0 62 13 → U 94 j = U 94 j ∧ U 70 j = U0 70 j ∧ U 94 j ≤ U0 70 j := fun j hj => ⟨rfl, (T j hj).2.1, (jo.2.2 j hj).2.2⟩
          refine Two.bindL (nextC (n := U0 62 13) (o := U 94) (T := U0 70) jb4 jb1 ho jo.1 jo.2.1) (fun q hq => ?_)
          obtain ⟨j, fj, q1, q2⟩ := hq
          have rs := r.seek fj
          rw [q1, q2]
          by_cases hjn : (j : Int) < U0 62 13
          · rw [if_pos hjn, if_neg (by omega)]
            obtain ⟨r0s, rts, rjs, -, -, -⟩ := id rs
            generalize hW : up V 37 6 (j : Int) = W at *
            have h6 : W 37 6 = (j : Int) := by rw [← hW, up_eq]
            obtain ⟨nN2, nP2, nw2, -, nc2, ha2⟩ := e.nv r0s
            obtain ⟨t1, t2, t3, t4, -⟩ := e.ton r0s hjn
            obtain ⟨kd, k1, k2, k3, k4, pk, pk1, pk2⟩ := e.kind r0s hjn
            obtain ⟨hcf, hmf, hh⟩ := id r0s
            obtain ⟨o1, o2, o3⟩ := hh.bd
            obtain ⟨z1, z2, z3⟩ := rjs.2.2.1.2.2 j hjn
            have olt := fj.2.2 hjn
            obtain ⟨c, hc⟩ : ∃ c : Nat, U 62 72 = (c : Int) := ⟨(U 62 72).toNat, by have := la.2.1; omega⟩
            have c17 := rt.cnt (by omega) hk h86 ht.2
            have w28 : W 28 3 = (c : Int) := by rw [← hc]; exact rjs.1.1
            have w28b : (c : Int) ≤ (ordN h : Int) := by have := rjs.1.2.1; omega
            -- the tonnes of the load
            have o94 : 0 ≤ U 94 j := by
              have x1 := jl.2.2.1 j hjn
              have x2 := sm_nn (f := pend U j) (n := (U0 62 22).toNat) (fun k hk => by
                unfold pend
                split
                · next y =>
                  have := rt.2.1 k (by omega) y.1
                  have := (la.2.2 (U 90 k).toNat (by omega)).2.2.1
                  omega
                · omega)
              have x3 : 0 ≤ U 95 j := by
                rw [x1]
                split
                · omega
                · split
                  · exact jl.2.2.2.1
                  · omega
              have x4 : 0 ≤ U 62 75 := jl.2.2.2.2.2.2.1
              rw [z2]
              split <;> omega
            have en : min (W 10 6) (w32 ((atV W 9 36 (j : Int)) - (atV W 45 36 (j : Int)))) = min (U0 62 23) (U0 70 j - U 94 j) := by
              rw [atV_in (by omega) (by omega), atV_in (by omega) (by omega), Int.toNat_natCast, t1, z1, w32_id (by omega) (by omega), nc2.1]
            have hn : 1 ≤ min (U0 62 23) (U0 70 j - U 94 j) ∧ min (U0 62 23) (U0 70 j - U 94 j) ≤ 30 ∧ U 94 j + min (U0 62 23) (U0 70 j - U 94 j) ≤ U0 70 j := by omega
            have right : ∀ {n' : Int}, n' = min (U0 62 23) (U0 70 j - U 94 j) → ∀ {α : Type} {A : Option α} {G : VV → Option VV} {Q : α → VV → Prop}, Two A (Option.bind (f_Mo_order_15 U (k : Int) t (j : Int) n') G) Q → Two A (Option.bind (f_Mo_order U (k : Int) t) G) Q := by
              intro n' hn' α A G Q hh
              have : f_Mo_order U (k : Int) t = f_Mo_order_15 U (k : Int) t (j : Int) n' := by
                have key : Sm (f_Mo_order U (k : Int) t) (fun x => f_Mo_order_15 U (k : Int) t (j : Int) n' = some x) := by
                  obtain ⟨a, b, c1, c2, c3⟩ := hh
                  have hx : ∃ x, f_Mo_order_15 U (k : Int) t (j : Int) n' = some x := by
                    cases hz : f_Mo_order_15 U (k : Int) t (j : Int) n' with
                    | none => rw [hz] at c2; cases c2
                    | some x => exact ⟨x, rfl⟩
                  obtain ⟨x, hx⟩ := hx
                  refine orM1 (n := U0 62 13) (o := U 94) (T := U0 70) jb4 jb2 hoU (fun i hi => ?_) 36 FU 0 (by omega) (by decide) (by omega) (fun i hi => by omega)
                  have : i = j := hi.uniq fj
                  subst this
                  unfold f_Mo_order_6
                  rw [if_neg (by omega), if_pos (by omega), if_pos (by omega), Int.toNat_natCast, (T i hjn).2.1, w32_id (by omega) (by omega), nc.2.1]
                  by_cases hlt : U0 70 i - U 94 i < U0 62 23
                  · rw [if_pos hlt, if_pos (by omega), if_pos (by omega), show U0 70 i - U 94 i = n' by omega, hx]
                    exact Sm.ok rfl
                  · rw [if_neg hlt, show U0 62 23 = n' by omega, hx]
                    exact Sm.ok rfl
                obtain ⟨x, x1, x2⟩ := key
                rw [x1, x2]
              rw [this]; exact hh
            unfold f_Haulage_orderLoad
            rw [k1, en]
            refine Two.bbindL (Two.bindL (lsC (by omega)) (fun p hp => ?_))
            rw [nP2.1] at hp
            obtain ⟨pn, rfl, pn1, pn2⟩ : ∃ pn : Nat, p = (pn : Int) ∧ pn < (U0 62 17).toNat ∧ Fst (fun k => W 11 k = kd) (W 41) (U0 62 17).toNat (pn : Int) := by
              rcases id hp with ⟨-, y⟩ | ⟨m', y1, y2, -⟩
              · exact absurd pk2 (y pk (by omega))
              · rw [y1] at hp; exact ⟨m', y1, y2, hp⟩
            rw [if_neg (by omega)]
            have hpf : ∀ kd', (U 62 0 ≠ 0 ∧ (0 ≤ w32 (Int.tdiv (j : Int) (U 62 0)) ∧ w32 (Int.tdiv (j : Int) (U 62 0)) < 3) ∧ U 66 (w32 (Int.tdiv (j : Int) (U 62 0))).toNat = kd') → Sm (f_Mo_plantFor U kd') (fun x => x = (pn : Int)) := by
              intro kd' ⟨_, _, hk'⟩
              have : kd' = kd := hk'.symm.trans k4
              subst this
              refine (pfM (U := U) (v := kd') (by omega) (by omega)).imp (fun x hx => ?_)
              rw [nP2.2.1, nN2.2.1] at hx
              exact (pn2.eq2 hx (fun q hq => by
                have := (e.pl r0s (p := q) (by omega)).1.1
                rw [this]) (fun q hq => rts.2.2.2.2.2.1 q (by omega))).symm
            refine Two.bltL ?_
            unfold f_Loads_add
            rw [w28, if_neg (by omega), w32_id (x := (c : Int) + 1) (by omega) (by omega)]
            by_cases hlt : (c : Int) < (ordN h : Int)
            · rw [if_pos hlt]
              refine right rfl ?_
              dsimp only
              refine Two.bind2 (order2 e ht rs hk h86 (by omega) hpf fj hjn h6 hn hc (by omega)) (fun q6 W2 hq6 => nx _ _ _ hq6)
            · rw [if_neg hlt]
              have gr := rs.grow (by omega) (by omega)
              refine right rfl ?_
              have h6g : growV W h (hg (h.2.2.length / 2 + 1)) 37 6 = (j : Int) := by
                rw [← h6]
                unfold growV
                have : (37 : Nat) ≠ (hg (h.2.2.length / 2 + 1)).2.1 ∧ (37 : Nat) ≠ (hg (h.2.2.length / 2 + 1)).1 := by
                  obtain ⟨i1, i2, i3⟩ := gr.1.1.2.2.lie
                  omega
                rw [if_neg this.1, if_neg this.2]
              dsimp only
              refine Two.bind2 (order2 e ht gr.1 hk h86 (by omega) hpf fj hjn h6g hn hc (by have := gr.2; omega)) (fun q6 W2 hq6 => nx _ _ _ hq6)
          · rw [if_neg hjn, if_pos rfl]
            have ej : (j : Int) = U0 62 13 := by have := fj.1; omega
            have fj2 : FirstJ (U0 62 13) (U 94) (U 70) j := ⟨fj.1, fun i hi => by rw [(T i (by omega)).2.1]; exact fj.2.1 i hi, fun z => by omega⟩
            have ho2 : ∀ j : Nat, (j : Int) < U0 62 13 → U 94 j ≤ U 70 j := fun j hj => by rw [(T j hj).2.1]; exact (jo.2.2 j hj).2.2
            refine Two.bindR (ord_none jb4 jb2 ho2 fj2 ej) (fun y hy => ?_)
            rw [hy, w32_id (by omega) (by omega), show (k : Int) + 1 = ((k + 1 : Nat) : Int) by omega]
            refine Two.ofR ((orM_none (by omega) jb4 jb2 ho2 fj2 ej kk m (k + 1) (by omega) (by omega) (by omega)).imp (fun y hy => ?_))
            rw [hy]
            exact Sm.ok rs
        · rw [if_neg h86, if_neg h86]
          exact nx V h U r
