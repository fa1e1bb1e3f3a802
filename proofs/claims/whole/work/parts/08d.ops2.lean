/-! each instruction of a row, in the real machine: fields, made things, and all of them together -/
theorem kind_x {kd : Nat} {t : FieldType} (h : kindOk (some kd) t = true) : (kd = 0 ∧ t = .int) ∨ (kd = 1 ∧ t = .boolean) ∨ (kd = 2 ∧ t = .long) ∨ (kd = 3 ∧ ((∃ n, t = .object n) ∨ ∃ u, t = .array u)) := by
  unfold kindOk at h
  split at h
  · next z => cases z; exact Or.inl ⟨rfl, rfl⟩
  · next z => cases z; exact Or.inr (Or.inl ⟨rfl, rfl⟩)
  · next z => cases z; exact Or.inr (Or.inr (Or.inl ⟨rfl, rfl⟩))
  · next z => cases z; exact Or.inr (Or.inr (Or.inr ⟨rfl, Or.inl ⟨_, rfl⟩⟩))
  · next z => cases z; exact Or.inr (Or.inr (Or.inr ⟨rfl, Or.inr ⟨_, rfl⟩⟩))
  · cases h
theorem fk_eq (c k : Nat) : fk c k = gl ((gl FDL c).getD []) k := by
  unfold fk
  cases gl FDL c <;> rfl
theorem fvs_set {g : GP} {M M2 : Mm} {id k : Nat} {kd : Nat} (l : List Nat) (hV : ∀ j, j ≠ k → M2.1 id j = M.1 id j) (hG : ∀ j, j ≠ k → M2.2.1 id j = M.2.1 id j) (hk : gl l k = some kd) : fvs g M2 id 0 l = (fvs g M id 0 l).set k (fv g M2 id k kd) := by
  apply List.ext_getElem?
  intro j
  rw [fvs_get, List.getElem?_set, Nat.zero_add]
  by_cases h : k = j
  · subst h
    rw [if_pos rfl, if_pos (by rw [fvs_len]; exact gl_lt hk), hk]; rfl
  · rw [if_neg h, fvs_get, Nat.zero_add]
    cases gl l j with
    | none => rfl
    | some z =>
      show some _ = some _
      unfold fv
      rw [hV j (fun e => h e.symm), hG j (fun e => h e.symm)]
theorem ent_obj {g : GP} {M : Mm} {id : Nat} {q : Nat × Nat} (h : q.1 < 100) : ent g M id q = .inr (q.1, fvs g M id 0 ((gl FDL q.1).getD [])) := by unfold ent; rw [if_pos h]
theorem ent_int {g : GP} {M : Mm} {id n : Nat} : ent g M id (100, n) = .inl (gA g 0, n, .inl (fun i => Int32.ofInt (M.1 id i))) := rfl
theorem ent_long {g : GP} {M : Mm} {id n : Nat} : ent g M id (101, n) = .inl (gA g 1, n, .inr (.inl (fun i => Int64.ofInt (M.1 id i)))) := rfl
theorem ent_short {g : GP} {M : Mm} {id n : Nat} : ent g M id (102, n) = .inl (gA g 2, n, .inl (fun i => Int32.ofInt (M.1 id i))) := rfl
theorem ent_bool {g : GP} {M : Mm} {id n : Nat} : ent g M id (103, n) = .inl (gA g 3, n, .inl (fun i => Int32.ofInt (M.1 id i))) := rfl
theorem gl_none_of {α : Type} {l : List α} {k : Nat} (h : l.length ≤ k) : gl l k = none := by rw [gl_get]; exact List.getElem?_eq_none h
theorem wfM_up {M : Mm} {id k : Nat} {x : Int} {q : Nat × Nat} (hw : wfM M) (hq : gl M.2.2 id = some q) (h : (cellL q k → inJ x) ∧ (¬ cellL q k → inI x)) : wfM (up M.1 id k x, M.2.1, M.2.2) := by
  intro i r hr
  refine ⟨(hw i r hr).1, fun j => ?_⟩
  show (cellL r j → inJ (up M.1 id k x i j)) ∧ (¬ cellL r j → inI (up M.1 id k x i j))
  unfold up
  by_cases e1 : i = id
  · subst e1
    have hr2 : gl M.2.2 i = some r := hr
    rw [hq] at hr2; cases hr2
    rw [if_pos rfl]
    by_cases e2 : j = k
    · subst e2; rw [if_pos rfl]; exact h
    · rw [if_neg e2]; exact (hw i q hq).2 j
  · rw [if_neg e1]; exact (hw i r hr).2 j
section OPS
variable {p : Program} {l : Launch} {e : Env} {R : Room} {s : State} {m : MethodId} {args : Array Value} {below : List Frame} {meth : Method} {c : Code} {H : Heap} {locs : List Loc} {cells slots : Nat} {Q : State → Prop} {g : GP} {X : Xs} {y k0 z0 : Nat} {pc : Nat} {ls : Array Slot} {L : List (Option AV)} {S : List AV} {M : Mm}
theorem o_getf {i : Instr} {len r a : Nat} {v : AV} (C : CTX g X y p s m args meth c) (hd : decode (yc y) pc = .ok (i, len)) (hl : len = lenOf i) (hok : opOk (yo y) (yin y) (ml y) (.getfield r) i = true) {rest : List Value} (I : INV g s k0 z0 M H locs cells slots)
    (h : getf (r / 1000) (r % 1000) a M = some v) (kk : wfV v → W p l e R s m args below meth c H locs cells slots Q (F0 m (pc + len) ls (vv g v :: rest))) : W p l e R s m args below meth c H locs cells slots Q (F0 m pc ls (vv g (.inr (.inr (.inl a))) :: rest)) := by
  obtain ⟨hx, hb, -, hown, hts, -, hE, -⟩ := C
  obtain ⟨hP, hD, hS, hw, -⟩ := I
  subst hl
  unfold opOk at hok
  dsimp only at hok
  generalize r / 1000 = cc at *
  generalize r % 1000 = k at *
  split at hok
  · next idx =>
    rw [Bool.and_eq_true, Bool.and_eq_true] at hok
    obtain ⟨h1, h2, h3⟩ := hok
    have hc : cc < 13 := Nat.le_of_ble_eq_true h2
    have hk : k < (cT cc).2.2 := Nat.le_of_ble_eq_true h3
    unfold getf at h
    split at h
    · cases h
    · next id =>
      cases hq : gl M.2.2 id with
      | none => rw [hq] at h; cases h
      | some q =>
        rw [hq] at h
        dsimp only at h
        cases hqc : Nat.beq q.1 cc with
        | false => rw [hqc] at h; cases h
        | true =>
          rw [hqc] at h
          dsimp only at h
          have e0 := Nat.eq_of_beq_eq_true hqc
          have hent := ent_obj (g := g) (M := M) (id := id) (q := q) (by omega)
          have hat := wld_at (g := g) hq
          rw [hent, e0] at hat
          obtain ⟨-, -, hdecl⟩ := knd_ok hc hk
          cases hf : fk cc k with
          | none => rw [hf] at h; cases h
          | some kd =>
            rw [hf] at h
            try dsimp only at h
            have hfs : (fvs g M id 0 ((gl FDL cc).getD []))[k]? = some (fv g M id k kd) := by
              rw [fvs_get, ← fk_eq, hf, Nat.zero_add]; rfl
            have hcl : cellL q k ↔ kd = 2 := by
              unfold cellL; rw [e0, hf]
              constructor
              · rintro (z | z)
                · omega
                · exact Option.some.inj z.2
              · rintro rfl; exact Or.inr ⟨by omega, rfl⟩
            have hv : vv g v = fv g M id k kd ∧ wfV v := by
              have hwk := (hw id q hq).2 k
              split at h
              · cases h
              · next z => cases z; cases h; exact ⟨rfl, trivial⟩
              · next z => cases z; cases h; exact ⟨rfl, hwk.1 (hcl.mpr rfl)⟩
              · next z1 z2 z => cases z; cases h; exact ⟨by unfold fv; split <;> first | rfl | (exfalso; first | exact z1 rfl | exact z2 rfl), hwk.2 (fun z => by have := hcl.mp z; subst this; first | exact z1 rfl | exact z2 rfl)⟩
            have kk2 := kk hv.2
            rw [hv.1] at kk2
            exact va_get hx hb hts (lay_w hc) hown hE.1 hP id hat (cls_hc cc hc) k hk (hts _ (fldT_w (of_decide_eq_true h1))) (fun x hx => by rw [← hdecl]; exact hx) hfs hd kk2
  · cases hok
theorem o_putf {i : Instr} {len r a : Nat} {v : AV} {M2 : Mm} (C : CTX g X y p s m args meth c) (hd : decode (yc y) pc = .ok (i, len)) (hl : len = lenOf i) (hok : opOk (yo y) (yin y) (ml y) (.putfield r) i = true) {rest : List Value} (I : INV g s k0 z0 M H locs cells slots) (hvw : wfV v)
    (h : putf (r / 1000) (r % 1000) a v M = some M2) (kk : ∀ H2 locs2, INV g s k0 z0 M2 H2 locs2 cells slots → W p l e R s m args below meth c H2 locs2 cells slots Q (F0 m (pc + len) ls rest)) : W p l e R s m args below meth c H locs cells slots Q (F0 m pc ls (vv g v :: vv g (.inr (.inr (.inl a))) :: rest)) := by
  obtain ⟨hx, hb, -, hown, hts, hini, hE, -⟩ := C
  obtain ⟨hP, hD, hS, hw, hn0, hn1, hn2⟩ := I
  subst hl
  unfold opOk at hok
  dsimp only at hok
  generalize r / 1000 = cc at *
  generalize r % 1000 = k at *
  split at hok
  · next idx =>
    rw [Bool.and_eq_true, Bool.and_eq_true, Bool.and_eq_true] at hok
    obtain ⟨h1, ⟨h2, h3⟩, h4⟩ := hok
    have hc : cc < 13 := Nat.le_of_ble_eq_true h2
    have hk : k < (cT cc).2.2 := Nat.le_of_ble_eq_true h3
    unfold putf at h
    split at h
    · cases h
    · next id =>
      cases hq : gl M.2.2 id with
      | none => rw [hq] at h; cases h
      | some q =>
        rw [hq] at h
        dsimp only at h
        cases hqc : Nat.beq q.1 cc with
        | false => rw [hqc] at h; cases h
        | true =>
          rw [hqc] at h
          dsimp only at h
          have e0 := Nat.eq_of_beq_eq_true hqc
          have hent := fun M => ent_obj (g := g) (M := M) (id := id) (q := q) (by omega)
          have hat := wld_at (g := g) hq
          rw [hent, e0] at hat
          obtain ⟨hlen, hkind, hdecl⟩ := knd_ok hc hk
          have key : ∃ kd, fk cc k = some kd ∧ M2.2.2 = M.2.2 ∧ (∀ i j, (i ≠ id ∨ j ≠ k) → M2.1 i j = M.1 i j ∧ M2.2.1 i j = M.2.1 i j) ∧ vv g v = fv g M2 id k kd ∧ wfM M2 ∧ narrow (tyf cc k) (vv g v) = vv g v ∧ fits (tyf cc k) (vv g v) = true := by
            have hcl : ∀ kd, fk cc k = some kd → (cellL q k ↔ kd = 2) := by
              intro kd hf
              unfold cellL; rw [e0, hf]
              constructor
              · rintro (z | z)
                · omega
                · exact Option.some.inj z.2
              · rintro rfl; exact Or.inr ⟨by omega, rfl⟩
            have hup : ∀ x : Int, up M.1 id k x id k = x := fun x => by unfold up; rw [if_pos rfl, if_pos rfl]
            have hupn : ∀ (x : Int) (i j : Nat), (i ≠ id ∨ j ≠ k) → up M.1 id k x i j = M.1 i j := fun x i j hij => by
              unfold up
              by_cases e1 : i = id
              · rw [if_pos e1]
                by_cases e2 : j = k
                · exact (hij.elim (fun z => z e1) (fun z => z e2)).elim
                · rw [if_neg e2]
              · rw [if_neg e1]
            have hupG : ∀ (x : Nat) (i j : Nat), (i ≠ id ∨ j ≠ k) → upG M.2.1 id k x i j = M.2.1 i j := fun x i j hij => by
              unfold upG
              by_cases e1 : i = id
              · rw [if_pos e1]
                by_cases e2 : j = k
                · exact (hij.elim (fun z => z e1) (fun z => z e2)).elim
                · rw [if_neg e2]
              · rw [if_neg e1]
            split at h
            · next hf =>
              cases h
              refine ⟨3, hf, rfl, fun i j hij => ⟨rfl, hupG _ i j hij⟩, ?_, ?_, ?_⟩
              · show rv g _ = rv g (upG M.2.1 id k _ id k)
                unfold upG; rw [if_pos rfl, if_pos rfl]
              · exact fun i r hr => hw i r hr
              · rw [hf] at hkind
                next r => cases ht : tyf cc k with
                  | object n => cases r <;> exact ⟨rfl, rfl⟩
                  | array t => cases r <;> exact ⟨rfl, rfl⟩
                  | _ => rw [ht] at hkind; cases hkind
            · next x hf =>
              cases h
              refine ⟨2, hf, rfl, fun i j hij => ⟨hupn x i j hij, rfl⟩, ?_, wfM_up hw hq ⟨fun _ => hvw, fun z => absurd ((hcl 2 hf).mpr rfl) z⟩, ?_⟩
              · show Value.long _ = Value.long (Int64.ofInt (up M.1 id k x id k)); rw [hup]
              · rw [hf] at hkind
                cases ht : tyf cc k <;> rw [ht] at hkind <;> first | (cases hkind; done) | exact ⟨rfl, rfl⟩
            · next x hf =>
              cases hb2 : isB x with
              | false => rw [hb2] at h; cases h
              | true =>
                rw [hb2] at h; cases h
                refine ⟨1, hf, rfl, fun i j hij => ⟨hupn x i j hij, rfl⟩, ?_, wfM_up hw hq ⟨fun z => by have := (hcl 1 hf).mp z; omega, fun _ => hvw⟩, ?_⟩
                · show Value.int _ = Value.int (Int32.ofInt (up M.1 id k x id k)); rw [hup]
                · rw [hf] at hkind
                  have hx01 : x = 0 ∨ x = 1 := by
                    unfold isB at hb2
                    rw [Bool.or_eq_true] at hb2
                    exact hb2.imp (fun z => eq_of_beq z) (fun z => eq_of_beq z)
                  cases ht : tyf cc k <;> rw [ht] at hkind <;> first | (cases hkind; done) | (rcases hx01 with rfl | rfl <;> exact ⟨rfl, rfl⟩)
            · next x hf =>
              cases h
              refine ⟨0, hf, rfl, fun i j hij => ⟨hupn x i j hij, rfl⟩, ?_, wfM_up hw hq ⟨fun z => by have := (hcl 0 hf).mp z; omega, fun _ => hvw⟩, ?_⟩
              · show Value.int _ = Value.int (Int32.ofInt (up M.1 id k x id k)); rw [hup]
              · rw [hf] at hkind
                cases ht : tyf cc k <;> rw [ht] at hkind <;> first | (cases hkind; done) | exact ⟨rfl, rfl⟩
            · cases h
          obtain ⟨kd, hf, hK2, hoth, hv, hw2, hnar, hfit⟩ := key
          have hset : wld g M2 = (wld g M).set id (g.1 + id, .inr (cc, (fvs g M id 0 ((gl FDL cc).getD [])).set k (vv g v))) := by
            rw [wld_set (g := g) (M := M) (M2 := M2) hq hK2 (fun i j hi => (hoth i j (Or.inl hi)).1) (fun i j hi => (hoth i j (Or.inl hi)).2), hent, e0, hv]
            rw [fvs_set (g := g) (M := M) (M2 := M2) (id := id) (k := k) (kd := kd) _ (fun j hj => (hoth id j (Or.inr hj)).1) (fun j hj => (hoth id j (Or.inr hj)).2) (by rw [← fk_eq]; exact hf)]
          have kk2 : ∀ (H1 : Heap) (locs1 : List Loc), va_P (gD g) vwCl ((wld g M).set id (g.1 + id, .inr (cc, (fvs g M id 0 ((gl FDL cc).getD [])).set k (vv g v)))) H1 → va_D (Afn g) ((wld g M).set id (g.1 + id, .inr (cc, (fvs g M id 0 ((gl FDL cc).getD [])).set k (vv g v)))) → va_S (Afn g) s.heap H1 locs1 → W p l e R s m args below meth c H1 locs1 cells slots Q (F0 m (pc + 3) ls rest) := by
            intro H1 locs1 a1 a2 a3
            rw [← hset] at a1 a2
            exact kk H1 locs1 ⟨a1, a2, a3, hw2, hn0, by rw [hK2]; exact hn1, by rw [hK2]; exact hn2⟩
          have hkl : k < (fvs g M id 0 ((gl FDL cc).getD [])).length := by rw [fvs_len, hlen]; exact hk
          cases hfin : ((cT cc).2.1 k).2.2.2 with
          | false => exact va_put hx hb hts (lay_w hc) (tyf cc) (tyf_ok cc hc) (nmf_ok cc hc) hown hE.1 hP hD hS id hat (cls_hc cc hc) k hk (hts _ (fldT_w (of_decide_eq_true h1))) (fun x hx => by rw [← hdecl]; exact hx) hfin (tyf_ok cc hc k hk) hnar hfit hkl hd kk2
          | true =>
            rw [hfin] at h4
            have h4' : (yin y && Nat.beq cc (yo y)) = true := h4
            rw [Bool.and_eq_true] at h4'
            exact va_putF hx hb hts (lay_w hc) (tyf cc) (tyf_ok cc hc) (nmf_ok cc hc) hown hE.1 hP hD hS id hat (cls_hc cc hc) k hk (hts _ (fldT_w (of_decide_eq_true h1))) (fun x hx => by rw [← hdecl]; exact hx) hfin (hini h4'.1) (by rw [hdecl, Nat.eq_of_beq_eq_true h4'.2]) (tyf_ok cc hc k hk) hnar hfit hkl hd kk2
  · cases hok
theorem wfM_new {M : Mm} (hw : wfM M) (q : Nat × Nat) (hq : (q.1 < 13 ∨ (100 ≤ q.1 ∧ q.1 ≤ 103)) ∧ q.2 ≤ 1000000) : wfM (zr M.1 M.2.2.length, zrG M.2.1 M.2.2.length, M.2.2 ++ [q]) := by
  intro id r hr
  have hr' : gl (M.2.2 ++ [q]) id = some r := hr
  rw [gl_app] at hr'
  by_cases h : id = M.2.2.length
  · rw [if_pos h] at hr'; cases hr'
    refine ⟨hq, fun k => ?_⟩
    show (_ → inJ (zr M.1 M.2.2.length id k)) ∧ (_ → inI (zr M.1 M.2.2.length id k))
    unfold zr; rw [if_pos h]
    exact ⟨fun _ => by unfold inJ; omega, fun _ => in0⟩
  · rw [if_neg h] at hr'
    refine ⟨(hw id r hr').1, fun k => ?_⟩
    show (_ → inJ (zr M.1 M.2.2.length id k)) ∧ (_ → inI (zr M.1 M.2.2.length id k))
    unfold zr; rw [if_neg h]
    exact (hw id r hr').2 k
theorem wld_new {g : GP} {M : Mm} (q : Nat × Nat) : wld g (zr M.1 M.2.2.length, zrG M.2.1 M.2.2.length, M.2.2 ++ [q]) = wld g M ++ [(g.1 + M.2.2.length, ent g (zr M.1 M.2.2.length, zrG M.2.1 M.2.2.length, M.2.2 ++ [q]) M.2.2.length q)] :=
  wld_push rfl (fun i k h => by show zr _ _ i k = _; unfold zr; rw [if_neg (by omega)]) (fun i k h => by show zrG _ _ i k = _; unfold zrG; rw [if_neg (by omega)])
theorem o_new {i : Instr} {len cc : Nat} (C : CTX g X y p s m args meth c) (hd : decode (yc y) pc = .ok (i, len)) (hl : len = lenOf i) (hok : opOk (yo y) (yin y) (ml y) (.new cc) i = true) (hc : cc < 13) {rest : List Value} (I : INV g s k0 z0 M H locs cells slots)
    (hr1 : (newO cc M).2.2.length ≤ k0 + R.cells) (hr2 : ksz (newO cc M).2.2 ≤ z0 + R.slots)
    (kk : ∀ H2, INV g s k0 z0 (newO cc M) H2 locs (cells + 1) (slots + (cT cc).2.2) → W p l e R s m args below meth c H2 locs (cells + 1) (slots + (cT cc).2.2) Q (F0 m (pc + len) ls (.ref (g.1 + M.2.2.length) :: rest))) : W p l e R s m args below meth c H locs cells slots Q (F0 m pc ls rest) := by
  obtain ⟨hx, hb, -, hown, hts, -, hE, hA0, -⟩ := C
  refine W_size (fun hsz => ?_)
  have hH := inv_size I hsz
  obtain ⟨hP, hD, hS, hw, hn0, hn1, hn2⟩ := I
  subst hl
  unfold opOk at hok
  dsimp only at hok
  split at hok
  · obtain ⟨hin1, hin2, hcn⟩ := clp_w hc
    have hcl := hts _ (clsT_w (of_decide_eq_true hok))
    rw [hcn] at hcl
    have hlen : (newO cc M).2.2.length = M.2.2.length + 1 := by show (M.2.2 ++ [(cc, 0)]).length = _; simp
    have hks : ksz (newO cc M).2.2 = ksz M.2.2 + (cT cc).2.2 := by show ksz (M.2.2 ++ [(cc, 0)]) = _; rw [ksz_app, if_pos (show cc < 100 by omega)]
    have hKn := hE.1.1 cc _ (cls_hc cc hc)
    refine W.newcK hx hb hown hcl (hts _ hin1) (hts _ hin2) rfl hd (by omega) (by omega) hKn.2.1 rfl fun H1 kC hkC e1 z1 o1 => ?_
    have hk : ∀ (k : Nat) (x : Nat × va_E), (wld g M)[k]? = some x → H1[x.1]? = H[x.1]? := fun k x hx => o1 x.1 ((hP k x hx).lt)
    rw [hH] at e1 z1 o1 ⊢
    refine kk H1 ⟨?_, ?_, ⟨Nat.le_trans hS.1 (by omega), fun x h1 h2 => (o1 x (by have := hS.1; omega)).trans (hS.2.1 x h1 h2), hS.2.2⟩, wfM_new hw _ ⟨Or.inl hc, Nat.zero_le _⟩, hn0, by omega, by omega⟩
    · unfold newO
      rw [wld_new]
      refine (hP.kept hk).app (fun k x hx => ?_)
      have hz : k < 1 := (List.getElem?_eq_some_iff.mp hx).1
      rw [show k = 0 by omega] at hx
      cases hx
      rw [ent_obj (show cc < 100 by omega)]
      refine ⟨_, cls_hc cc hc, (u_born (tyf cc) hts (lay_w hc) hKn hkC e1 (tyf_ok cc hc)).to (fun j hj => ?_)⟩
      obtain ⟨-, hkind, -⟩ := knd_ok hc hj
      have hv : (fvs g (newO cc M) M.2.2.length 0 ((gl FDL cc).getD []))[j]? = (fk cc j).map (fv g (newO cc M) M.2.2.length j) := by
        rw [fvs_get, ← fk_eq, Nat.zero_add]
      have hv2 : vp_V (fvs g (newO cc M) M.2.2.length 0 ((gl FDL cc).getD [])) j = ((fk cc j).map (fv g (newO cc M) M.2.2.length j)).getD .null := by
        unfold vp_V
        rw [List.getD_eq_getElem?_getD, hv]
      refine Eq.trans ?_ hv2.symm
      have z1 : (newO cc M).1 M.2.2.length j = 0 := by show zr _ _ _ _ = _; unfold zr; rw [if_pos rfl]
      have z2 : (newO cc M).2.1 M.2.2.length j = 0 := by show zrG _ _ _ _ = _; unfold zrG; rw [if_pos rfl]
      cases hf : fk cc j with
      | none => rw [hf] at hkind; cases hkind
      | some kd =>
        rw [hf] at hkind
        show defaultValue (tyf cc j) = fv g (newO cc M) M.2.2.length j kd
        rcases kind_x hkind with ⟨rfl, ht⟩ | ⟨rfl, ht⟩ | ⟨rfl, ht⟩ | ⟨rfl, ⟨n9, ht⟩ | ⟨n9, ht⟩⟩
        · rw [ht]; show Value.int 0 = Value.int (Int32.ofInt ((newO cc M).1 M.2.2.length j)); rw [z1]; rfl
        · rw [ht]; show Value.int 0 = Value.int (Int32.ofInt ((newO cc M).1 M.2.2.length j)); rw [z1]; rfl
        · rw [ht]; show Value.long 0 = Value.long (Int64.ofInt ((newO cc M).1 M.2.2.length j)); rw [z1]; rfl
        · rw [ht]; show Value.null = rv g ((newO cc M).2.1 M.2.2.length j); rw [z2]; rfl
        · rw [ht]; show Value.null = rv g ((newO cc M).2.1 M.2.2.length j); rw [z2]; rfl
    · unfold newO
      rw [wld_new]
      exact hD.push hP hH.symm (by show g.1 ≤ g.1 + _; omega)
  · cases hok
end OPS
