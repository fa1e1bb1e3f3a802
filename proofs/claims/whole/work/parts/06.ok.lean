def Ok (X : Xs) (d y b : Nat) (s : Fr) (Q : Mm → Option AV → Prop) : Prop := ∃ (n : Nat) (M : Mm) (r : Option AV), run X n d y b s = some (M, r) ∧ Q M r
theorem Ok.imp {X : Xs} {d y b : Nat} {s : Fr} {Q Q2 : Mm → Option AV → Prop} (h : Ok X d y b s Q) (hQ : ∀ M r, Q M r → Q2 M r) : Ok X d y b s Q2 := by
  obtain ⟨n, M, r, h1, h2⟩ := h
  exact ⟨n, M, r, h1, hQ _ _ h2⟩
theorem Ok.at {X : Xs} {d y b : Nat} {s s2 : Fr} {Q : Mm → Option AV → Prop} (h : Ok X d y b s Q) (e : s2 = s) : Ok X d y b s2 Q := e ▸ h
theorem run_trm {X : Xs} {n d y b : Nat} {s : Fr} {ops : List Instr} {t : Instr} {tg : List Nat} {L : List (Option AV)} {S : List AV} {M : Mm} (hb : blkOf y b = some (ops, t, tg)) (hr : runB X ops s = some (L, S, M)) : run X (n + 1) d y b s = trm X (run X n) d y t tg L S M := by
  show stp X (run X n) d y b s = _
  unfold stp
  rw [hb]
  dsimp only
  rw [hr]
theorem Ok.of {X : Xs} {d y b : Nat} {s : Fr} {ops : List Instr} {t : Instr} {tg : List Nat} {L : List (Option AV)} {S : List AV} {M : Mm} {Q : Mm → Option AV → Prop} {d2 y2 b2 : Nat} {s2 : Fr} (hb : blkOf y b = some (ops, t, tg)) (hr : runB X ops s = some (L, S, M)) (ht : ∀ rec, trm X rec d y t tg L S M = rec d2 y2 b2 s2) (k : Ok X d2 y2 b2 s2 Q) : Ok X d y b s Q := by
  obtain ⟨n, M', r, h, hq⟩ := k
  exact ⟨n + 1, M', r, by rw [run_trm hb hr, ht]; exact h, hq⟩
theorem Ok.fin {X : Xs} {d y b : Nat} {s : Fr} {ops : List Instr} {t : Instr} {tg : List Nat} {L : List (Option AV)} {S : List AV} {M M2 : Mm} {v : Option AV} {Q : Mm → Option AV → Prop} (hb : blkOf y b = some (ops, t, tg)) (hr : runB X ops s = some (L, S, M)) (ht : ∀ rec, trm X rec d y t tg L S M = some (M2, v)) (k : Q M2 v) : Ok X d y b s Q :=
  ⟨1, M2, v, by rw [run_trm hb hr, ht], k⟩
theorem ok_goto {X : Xs} {d y b : Nat} {s : Fr} {ops : List Instr} {L : List (Option AV)} {S : List AV} {M : Mm} {Q : Mm → Option AV → Prop} {o : Int} {b1 : Nat} (hb : blkOf y b = some (ops, .goto o, [b1])) (hr : runB X ops s = some (L, S, M)) (k : Ok X d y b1 (L, S, M) Q) : Ok X d y b s Q := Ok.of hb hr (fun _ => rfl) k
theorem ok_thru {X : Xs} {d y b : Nat} {s : Fr} {ops : List Instr} {L : List (Option AV)} {S : List AV} {M : Mm} {Q : Mm → Option AV → Prop} {b1 : Nat} (hb : blkOf y b = some (ops, .nop, [b1])) (hr : runB X ops s = some (L, S, M)) (k : Ok X d y b1 (L, S, M) Q) : Ok X d y b s Q := Ok.of hb hr (fun _ => rfl) k
theorem ok_ifB {X : Xs} {d y b : Nat} {s : Fr} {ops : List Instr} {L : List (Option AV)} {S : List AV} {M : Mm} {Q : Mm → Option AV → Prop} {x : Int} {c : ClassFile.Cond} {o : Int} {b1 b2 : Nat} (hb : blkOf y b = some (ops, .ifCond c o, [b1, b2])) (hr : runB X ops s = some (L, .inl x :: S, M)) (k1 : cnd c x 0 = true → Ok X d y b1 (L, S, M) Q) (k2 : ¬ cnd c x 0 = true → Ok X d y b2 (L, S, M) Q) : Ok X d y b s Q := by
  by_cases h : cnd c x 0 = true
  · exact Ok.of hb hr (fun rec => by show rec d y (if cnd c x 0 = true then _ else _) _ = _; rw [if_pos h]; rfl) (k1 h)
  · exact Ok.of hb hr (fun rec => by show rec d y (if cnd c x 0 = true then _ else _) _ = _; rw [if_neg h]; rfl) (k2 h)
theorem ok_icB {X : Xs} {d y b : Nat} {s : Fr} {ops : List Instr} {L : List (Option AV)} {S : List AV} {M : Mm} {Q : Mm → Option AV → Prop} {x u : Int} {c : ClassFile.Cond} {o : Int} {b1 b2 : Nat} (hb : blkOf y b = some (ops, .if_icmp c o, [b1, b2])) (hr : runB X ops s = some (L, .inl u :: .inl x :: S, M)) (k1 : cnd c x u = true → Ok X d y b1 (L, S, M) Q) (k2 : ¬ cnd c x u = true → Ok X d y b2 (L, S, M) Q) : Ok X d y b s Q := by
  by_cases h : cnd c x u = true
  · exact Ok.of hb hr (fun rec => by show rec d y (if cnd c x u = true then _ else _) _ = _; rw [if_pos h]; rfl) (k1 h)
  · exact Ok.of hb hr (fun rec => by show rec d y (if cnd c x u = true then _ else _) _ = _; rw [if_neg h]; rfl) (k2 h)
theorem cn_if_eq1 {x u : Int} (h : cnd .eq x 0 = true) : x = 0 := by
  simp only [cnd, decide_eq_true_eq, Bool.not_eq_true', decide_eq_false_iff_not] at h; exact h
theorem cn_if_eq2 {x u : Int} (h : ¬ cnd .eq x 0 = true) : ¬ x = 0 := by
  simp only [cnd, decide_eq_true_eq, Bool.not_eq_true', decide_eq_false_iff_not] at h; omega
theorem cn_ic_eq1 {x u : Int} (h : cnd .eq x u = true) : x = u := by
  simp only [cnd, decide_eq_true_eq, Bool.not_eq_true', decide_eq_false_iff_not] at h; exact h
theorem cn_ic_eq2 {x u : Int} (h : ¬ cnd .eq x u = true) : ¬ x = u := by
  simp only [cnd, decide_eq_true_eq, Bool.not_eq_true', decide_eq_false_iff_not] at h; omega
theorem cn_if_ne1 {x u : Int} (h : cnd .ne x 0 = true) : ¬ x = 0 := by
  simp only [cnd, decide_eq_true_eq, Bool.not_eq_true', decide_eq_false_iff_not] at h; exact h
theorem cn_if_ne2 {x u : Int} (h : ¬ cnd .ne x 0 = true) : x = 0 := by
  simp only [cnd, decide_eq_true_eq, Bool.not_eq_true', decide_eq_false_iff_not] at h; omega
theorem cn_ic_ne1 {x u : Int} (h : cnd .ne x u = true) : ¬ x = u := by
  simp only [cnd, decide_eq_true_eq, Bool.not_eq_true', decide_eq_false_iff_not] at h; exact h
theorem cn_ic_ne2 {x u : Int} (h : ¬ cnd .ne x u = true) : x = u := by
  simp only [cnd, decide_eq_true_eq, Bool.not_eq_true', decide_eq_false_iff_not] at h; omega
theorem cn_if_lt1 {x u : Int} (h : cnd .lt x 0 = true) : x < 0 := by
  simp only [cnd, decide_eq_true_eq, Bool.not_eq_true', decide_eq_false_iff_not] at h; exact h
theorem cn_if_lt2 {x u : Int} (h : ¬ cnd .lt x 0 = true) : 0 ≤ x := by
  simp only [cnd, decide_eq_true_eq, Bool.not_eq_true', decide_eq_false_iff_not] at h; omega
theorem cn_ic_lt1 {x u : Int} (h : cnd .lt x u = true) : x < u := by
  simp only [cnd, decide_eq_true_eq, Bool.not_eq_true', decide_eq_false_iff_not] at h; exact h
theorem cn_ic_lt2 {x u : Int} (h : ¬ cnd .lt x u = true) : u ≤ x := by
  simp only [cnd, decide_eq_true_eq, Bool.not_eq_true', decide_eq_false_iff_not] at h; omega
theorem cn_if_ge1 {x u : Int} (h : cnd .ge x 0 = true) : 0 ≤ x := by
  simp only [cnd, decide_eq_true_eq, Bool.not_eq_true', decide_eq_false_iff_not] at h; exact h
theorem cn_if_ge2 {x u : Int} (h : ¬ cnd .ge x 0 = true) : x < 0 := by
  simp only [cnd, decide_eq_true_eq, Bool.not_eq_true', decide_eq_false_iff_not] at h; omega
theorem cn_ic_ge1 {x u : Int} (h : cnd .ge x u = true) : u ≤ x := by
  simp only [cnd, decide_eq_true_eq, Bool.not_eq_true', decide_eq_false_iff_not] at h; exact h
theorem cn_ic_ge2 {x u : Int} (h : ¬ cnd .ge x u = true) : x < u := by
  simp only [cnd, decide_eq_true_eq, Bool.not_eq_true', decide_eq_false_iff_not] at h; omega
theorem cn_if_gt1 {x u : Int} (h : cnd .gt x 0 = true) : 0 < x := by
  simp only [cnd, decide_eq_true_eq, Bool.not_eq_true', decide_eq_false_iff_not] at h; exact h
theorem cn_if_gt2 {x u : Int} (h : ¬ cnd .gt x 0 = true) : x ≤ 0 := by
  simp only [cnd, decide_eq_true_eq, Bool.not_eq_true', decide_eq_false_iff_not] at h; omega
theorem cn_ic_gt1 {x u : Int} (h : cnd .gt x u = true) : u < x := by
  simp only [cnd, decide_eq_true_eq, Bool.not_eq_true', decide_eq_false_iff_not] at h; exact h
theorem cn_ic_gt2 {x u : Int} (h : ¬ cnd .gt x u = true) : x ≤ u := by
  simp only [cnd, decide_eq_true_eq, Bool.not_eq_true', decide_eq_false_iff_not] at h; omega
theorem cn_if_le1 {x u : Int} (h : cnd .le x 0 = true) : x ≤ 0 := by
  simp only [cnd, decide_eq_true_eq, Bool.not_eq_true', decide_eq_false_iff_not] at h; exact h
theorem cn_if_le2 {x u : Int} (h : ¬ cnd .le x 0 = true) : 0 < x := by
  simp only [cnd, decide_eq_true_eq, Bool.not_eq_true', decide_eq_false_iff_not] at h; omega
theorem cn_ic_le1 {x u : Int} (h : cnd .le x u = true) : x ≤ u := by
  simp only [cnd, decide_eq_true_eq, Bool.not_eq_true', decide_eq_false_iff_not] at h; exact h
theorem cn_ic_le2 {x u : Int} (h : ¬ cnd .le x u = true) : u < x := by
  simp only [cnd, decide_eq_true_eq, Bool.not_eq_true', decide_eq_false_iff_not] at h; omega
theorem ok_if_eq {X : Xs} {d y b : Nat} {s : Fr} {ops : List Instr} {L : List (Option AV)} {S : List AV} {M : Mm} {Q : Mm → Option AV → Prop} {x : Int} {o : Int} {b1 b2 : Nat} (hb : blkOf y b = some (ops, .ifCond .eq o, [b1, b2])) (hr : runB X ops s = some (L, .inl x :: S, M)) (k1 : x = 0 → Ok X d y b1 (L, S, M) Q) (k2 : ¬ x = 0 → Ok X d y b2 (L, S, M) Q) : Ok X d y b s Q :=
  ok_ifB hb hr (fun h => k1 (cn_if_eq1 (u := 0) h)) (fun h => k2 (cn_if_eq2 (u := 0) h))
theorem ok_ic_eq {X : Xs} {d y b : Nat} {s : Fr} {ops : List Instr} {L : List (Option AV)} {S : List AV} {M : Mm} {Q : Mm → Option AV → Prop} {x u : Int} {o : Int} {b1 b2 : Nat} (hb : blkOf y b = some (ops, .if_icmp .eq o, [b1, b2])) (hr : runB X ops s = some (L, .inl u :: .inl x :: S, M)) (k1 : x = u → Ok X d y b1 (L, S, M) Q) (k2 : ¬ x = u → Ok X d y b2 (L, S, M) Q) : Ok X d y b s Q :=
  ok_icB hb hr (fun h => k1 (cn_ic_eq1 h)) (fun h => k2 (cn_ic_eq2 h))
theorem ok_if_ne {X : Xs} {d y b : Nat} {s : Fr} {ops : List Instr} {L : List (Option AV)} {S : List AV} {M : Mm} {Q : Mm → Option AV → Prop} {x : Int} {o : Int} {b1 b2 : Nat} (hb : blkOf y b = some (ops, .ifCond .ne o, [b1, b2])) (hr : runB X ops s = some (L, .inl x :: S, M)) (k1 : ¬ x = 0 → Ok X d y b1 (L, S, M) Q) (k2 : x = 0 → Ok X d y b2 (L, S, M) Q) : Ok X d y b s Q :=
  ok_ifB hb hr (fun h => k1 (cn_if_ne1 (u := 0) h)) (fun h => k2 (cn_if_ne2 (u := 0) h))
theorem ok_ic_ne {X : Xs} {d y b : Nat} {s : Fr} {ops : List Instr} {L : List (Option AV)} {S : List AV} {M : Mm} {Q : Mm → Option AV → Prop} {x u : Int} {o : Int} {b1 b2 : Nat} (hb : blkOf y b = some (ops, .if_icmp .ne o, [b1, b2])) (hr : runB X ops s = some (L, .inl u :: .inl x :: S, M)) (k1 : ¬ x = u → Ok X d y b1 (L, S, M) Q) (k2 : x = u → Ok X d y b2 (L, S, M) Q) : Ok X d y b s Q :=
  ok_icB hb hr (fun h => k1 (cn_ic_ne1 h)) (fun h => k2 (cn_ic_ne2 h))
theorem ok_if_lt {X : Xs} {d y b : Nat} {s : Fr} {ops : List Instr} {L : List (Option AV)} {S : List AV} {M : Mm} {Q : Mm → Option AV → Prop} {x : Int} {o : Int} {b1 b2 : Nat} (hb : blkOf y b = some (ops, .ifCond .lt o, [b1, b2])) (hr : runB X ops s = some (L, .inl x :: S, M)) (k1 : x < 0 → Ok X d y b1 (L, S, M) Q) (k2 : 0 ≤ x → Ok X d y b2 (L, S, M) Q) : Ok X d y b s Q :=
  ok_ifB hb hr (fun h => k1 (cn_if_lt1 (u := 0) h)) (fun h => k2 (cn_if_lt2 (u := 0) h))
theorem ok_ic_lt {X : Xs} {d y b : Nat} {s : Fr} {ops : List Instr} {L : List (Option AV)} {S : List AV} {M : Mm} {Q : Mm → Option AV → Prop} {x u : Int} {o : Int} {b1 b2 : Nat} (hb : blkOf y b = some (ops, .if_icmp .lt o, [b1, b2])) (hr : runB X ops s = some (L, .inl u :: .inl x :: S, M)) (k1 : x < u → Ok X d y b1 (L, S, M) Q) (k2 : u ≤ x → Ok X d y b2 (L, S, M) Q) : Ok X d y b s Q :=
  ok_icB hb hr (fun h => k1 (cn_ic_lt1 h)) (fun h => k2 (cn_ic_lt2 h))
theorem ok_if_ge {X : Xs} {d y b : Nat} {s : Fr} {ops : List Instr} {L : List (Option AV)} {S : List AV} {M : Mm} {Q : Mm → Option AV → Prop} {x : Int} {o : Int} {b1 b2 : Nat} (hb : blkOf y b = some (ops, .ifCond .ge o, [b1, b2])) (hr : runB X ops s = some (L, .inl x :: S, M)) (k1 : 0 ≤ x → Ok X d y b1 (L, S, M) Q) (k2 : x < 0 → Ok X d y b2 (L, S, M) Q) : Ok X d y b s Q :=
  ok_ifB hb hr (fun h => k1 (cn_if_ge1 (u := 0) h)) (fun h => k2 (cn_if_ge2 (u := 0) h))
theorem ok_ic_ge {X : Xs} {d y b : Nat} {s : Fr} {ops : List Instr} {L : List (Option AV)} {S : List AV} {M : Mm} {Q : Mm → Option AV → Prop} {x u : Int} {o : Int} {b1 b2 : Nat} (hb : blkOf y b = some (ops, .if_icmp .ge o, [b1, b2])) (hr : runB X ops s = some (L, .inl u :: .inl x :: S, M)) (k1 : u ≤ x → Ok X d y b1 (L, S, M) Q) (k2 : x < u → Ok X d y b2 (L, S, M) Q) : Ok X d y b s Q :=
  ok_icB hb hr (fun h => k1 (cn_ic_ge1 h)) (fun h => k2 (cn_ic_ge2 h))
theorem ok_if_gt {X : Xs} {d y b : Nat} {s : Fr} {ops : List Instr} {L : List (Option AV)} {S : List AV} {M : Mm} {Q : Mm → Option AV → Prop} {x : Int} {o : Int} {b1 b2 : Nat} (hb : blkOf y b = some (ops, .ifCond .gt o, [b1, b2])) (hr : runB X ops s = some (L, .inl x :: S, M)) (k1 : 0 < x → Ok X d y b1 (L, S, M) Q) (k2 : x ≤ 0 → Ok X d y b2 (L, S, M) Q) : Ok X d y b s Q :=
  ok_ifB hb hr (fun h => k1 (cn_if_gt1 (u := 0) h)) (fun h => k2 (cn_if_gt2 (u := 0) h))
theorem ok_ic_gt {X : Xs} {d y b : Nat} {s : Fr} {ops : List Instr} {L : List (Option AV)} {S : List AV} {M : Mm} {Q : Mm → Option AV → Prop} {x u : Int} {o : Int} {b1 b2 : Nat} (hb : blkOf y b = some (ops, .if_icmp .gt o, [b1, b2])) (hr : runB X ops s = some (L, .inl u :: .inl x :: S, M)) (k1 : u < x → Ok X d y b1 (L, S, M) Q) (k2 : x ≤ u → Ok X d y b2 (L, S, M) Q) : Ok X d y b s Q :=
  ok_icB hb hr (fun h => k1 (cn_ic_gt1 h)) (fun h => k2 (cn_ic_gt2 h))
theorem ok_if_le {X : Xs} {d y b : Nat} {s : Fr} {ops : List Instr} {L : List (Option AV)} {S : List AV} {M : Mm} {Q : Mm → Option AV → Prop} {x : Int} {o : Int} {b1 b2 : Nat} (hb : blkOf y b = some (ops, .ifCond .le o, [b1, b2])) (hr : runB X ops s = some (L, .inl x :: S, M)) (k1 : x ≤ 0 → Ok X d y b1 (L, S, M) Q) (k2 : 0 < x → Ok X d y b2 (L, S, M) Q) : Ok X d y b s Q :=
  ok_ifB hb hr (fun h => k1 (cn_if_le1 (u := 0) h)) (fun h => k2 (cn_if_le2 (u := 0) h))
theorem ok_ic_le {X : Xs} {d y b : Nat} {s : Fr} {ops : List Instr} {L : List (Option AV)} {S : List AV} {M : Mm} {Q : Mm → Option AV → Prop} {x u : Int} {o : Int} {b1 b2 : Nat} (hb : blkOf y b = some (ops, .if_icmp .le o, [b1, b2])) (hr : runB X ops s = some (L, .inl u :: .inl x :: S, M)) (k1 : x ≤ u → Ok X d y b1 (L, S, M) Q) (k2 : u < x → Ok X d y b2 (L, S, M) Q) : Ok X d y b s Q :=
  ok_icB hb hr (fun h => k1 (cn_ic_le1 h)) (fun h => k2 (cn_ic_le2 h))
theorem ok_ireturn {X : Xs} {d y b : Nat} {s : Fr} {ops : List Instr} {L : List (Option AV)} {M : Mm} {Q : Mm → Option AV → Prop} {x : Int} (hb : blkOf y b = some (ops, .ireturn, [])) (hr : runB X ops s = some (L, [.inl x], M)) (k : Q M (some (.inl x))) : Ok X d y b s Q := Ok.fin hb hr (fun _ => rfl) k
theorem ok_lreturn {X : Xs} {d y b : Nat} {s : Fr} {ops : List Instr} {L : List (Option AV)} {M : Mm} {Q : Mm → Option AV → Prop} {x : Int} (hb : blkOf y b = some (ops, .lreturn, [])) (hr : runB X ops s = some (L, [.inr (.inl x)], M)) (k : Q M (some (.inr (.inl x)))) : Ok X d y b s Q := Ok.fin hb hr (fun _ => rfl) k
theorem ok_areturn {X : Xs} {d y b : Nat} {s : Fr} {ops : List Instr} {L : List (Option AV)} {M : Mm} {Q : Mm → Option AV → Prop} {r : Nat} (hb : blkOf y b = some (ops, .areturn, [])) (hr : runB X ops s = some (L, [.inr (.inr (.inl (r + 1)))], M)) (k : Q M (some (.inr (.inr (.inl (r + 1)))))) : Ok X d y b s Q := Ok.fin hb hr (fun _ => rfl) k
theorem ok_return {X : Xs} {d y b : Nat} {s : Fr} {ops : List Instr} {L : List (Option AV)} {M : Mm} {Q : Mm → Option AV → Prop} (hb : blkOf y b = some (ops, .return_, [])) (hr : runB X ops s = some (L, [], M)) (k : Q M none) : Ok X d y b s Q := Ok.fin hb hr (fun _ => rfl) k
theorem isB_of {x : Int} (h : x = 0 ∨ x = 1) : isB x = true := by rcases h with rfl | rfl <;> rfl
theorem ok_zreturn {X : Xs} {d y b : Nat} {s : Fr} {ops : List Instr} {L : List (Option AV)} {M : Mm} {Q : Mm → Option AV → Prop} {x : Int} (hb : blkOf y b = some (ops, .freturn, [])) (hr : runB X ops s = some (L, [.inl x], M)) (h : x = 0 ∨ x = 1) (k : Q M (some (.inl x))) : Ok X d y b s Q := Ok.fin hb hr (fun _ => by show (if isB x = true then _ else _) = _; rw [if_pos (isB_of h)]) k
theorem ok_creturn {X : Xs} {d y b : Nat} {s : Fr} {ops : List Instr} {L : List (Option AV)} {M : Mm} {Q : Mm → Option AV → Prop} {x : Int} (hb : blkOf y b = some (ops, .dreturn, [])) (hr : runB X ops s = some (L, [.inl x], M)) (h : 0 ≤ x ∧ x < 128) (k : Q M (some (.inl x))) : Ok X d y b s Q := Ok.fin hb hr (fun _ => by show (if 0 ≤ x ∧ x < 128 then _ else _) = _; rw [if_pos h]) k
theorem aidx_of {k id n : Nat} {i : Int} {M : Mm} (hk : gl M.2.2 id = some (k, n)) (h0 : 0 ≤ i) (h1 : i < (n : Int)) : aidx k (id + 1) i M = true := by
  simp [aidx, hk, h0, h1]
theorem ok_iald {X : Xs} {d y b : Nat} {s : Fr} {ops : List Instr} {L : List (Option AV)} {S : List AV} {M : Mm} {Q : Mm → Option AV → Prop} {i : Int} {id n b1 : Nat} (hb : blkOf y b = some (ops, .iaload, [b1])) (hr : runB X ops s = some (L, .inl i :: .inr (.inr (.inl (id + 1))) :: S, M)) (hk : gl M.2.2 id = some (100, n)) (h0 : 0 ≤ i) (h1 : i < (n : Int)) (k : Ok X d y b1 (L, .inl (M.1 id i.toNat) :: S, M) Q) : Ok X d y b s Q :=
  Ok.of hb hr (fun _ => by show (if aidx 100 (id + 1) i M = true then _ else _) = _; rw [if_pos (aidx_of hk h0 h1)]; rfl) k
theorem ok_lald {X : Xs} {d y b : Nat} {s : Fr} {ops : List Instr} {L : List (Option AV)} {S : List AV} {M : Mm} {Q : Mm → Option AV → Prop} {i : Int} {id n b1 : Nat} (hb : blkOf y b = some (ops, .laload, [b1])) (hr : runB X ops s = some (L, .inl i :: .inr (.inr (.inl (id + 1))) :: S, M)) (hk : gl M.2.2 id = some (101, n)) (h0 : 0 ≤ i) (h1 : i < (n : Int)) (k : Ok X d y b1 (L, .inr (.inl (M.1 id i.toNat)) :: S, M) Q) : Ok X d y b s Q :=
  Ok.of hb hr (fun _ => by show (if aidx 101 (id + 1) i M = true then _ else _) = _; rw [if_pos (aidx_of hk h0 h1)]; rfl) k
theorem ok_sald {X : Xs} {d y b : Nat} {s : Fr} {ops : List Instr} {L : List (Option AV)} {S : List AV} {M : Mm} {Q : Mm → Option AV → Prop} {i : Int} {id n b1 : Nat} (hb : blkOf y b = some (ops, .saload, [b1])) (hr : runB X ops s = some (L, .inl i :: .inr (.inr (.inl (id + 1))) :: S, M)) (hk : gl M.2.2 id = some (102, n)) (h0 : 0 ≤ i) (h1 : i < (n : Int)) (k : Ok X d y b1 (L, .inl (M.1 id i.toNat) :: S, M) Q) : Ok X d y b s Q :=
  Ok.of hb hr (fun _ => by show (if aidx 102 (id + 1) i M = true then _ else _) = _; rw [if_pos (aidx_of hk h0 h1)]; rfl) k
theorem ok_zald {X : Xs} {d y b : Nat} {s : Fr} {ops : List Instr} {L : List (Option AV)} {S : List AV} {M : Mm} {Q : Mm → Option AV → Prop} {i : Int} {id n b1 : Nat} (hb : blkOf y b = some (ops, .baload, [b1])) (hr : runB X ops s = some (L, .inl i :: .inr (.inr (.inl (id + 1))) :: S, M)) (hk : gl M.2.2 id = some (103, n)) (h0 : 0 ≤ i) (h1 : i < (n : Int)) (k : Ok X d y b1 (L, .inl (M.1 id i.toNat) :: S, M) Q) : Ok X d y b s Q :=
  Ok.of hb hr (fun _ => by show (if aidx 103 (id + 1) i M = true then _ else _) = _; rw [if_pos (aidx_of hk h0 h1)]; rfl) k
theorem ok_iast {X : Xs} {d y b : Nat} {s : Fr} {ops : List Instr} {L : List (Option AV)} {S : List AV} {M : Mm} {Q : Mm → Option AV → Prop} {i v : Int} {id n b1 : Nat} (hb : blkOf y b = some (ops, .iastore, [b1])) (hr : runB X ops s = some (L, .inl v :: .inl i :: .inr (.inr (.inl (id + 1))) :: S, M)) (hk : gl M.2.2 id = some (100, n)) (h0 : 0 ≤ i) (h1 : i < (n : Int)) (k : Ok X d y b1 (L, S, (up M.1 id i.toNat v, M.2.1, M.2.2)) Q) : Ok X d y b s Q :=
  Ok.of hb hr (fun _ => by show (if aidx 100 (id + 1) i M = true then _ else _) = _; rw [if_pos (aidx_of hk h0 h1)]; rfl) k
theorem ok_last {X : Xs} {d y b : Nat} {s : Fr} {ops : List Instr} {L : List (Option AV)} {S : List AV} {M : Mm} {Q : Mm → Option AV → Prop} {i v : Int} {id n b1 : Nat} (hb : blkOf y b = some (ops, .lastore, [b1])) (hr : runB X ops s = some (L, .inr (.inl v) :: .inl i :: .inr (.inr (.inl (id + 1))) :: S, M)) (hk : gl M.2.2 id = some (101, n)) (h0 : 0 ≤ i) (h1 : i < (n : Int)) (k : Ok X d y b1 (L, S, (up M.1 id i.toNat v, M.2.1, M.2.2)) Q) : Ok X d y b s Q :=
  Ok.of hb hr (fun _ => by show (if aidx 101 (id + 1) i M = true then _ else _) = _; rw [if_pos (aidx_of hk h0 h1)]; rfl) k
theorem ok_sast {X : Xs} {d y b : Nat} {s : Fr} {ops : List Instr} {L : List (Option AV)} {S : List AV} {M : Mm} {Q : Mm → Option AV → Prop} {i v : Int} {id n b1 : Nat} (hb : blkOf y b = some (ops, .sastore, [b1])) (hr : runB X ops s = some (L, .inl v :: .inl i :: .inr (.inr (.inl (id + 1))) :: S, M)) (hk : gl M.2.2 id = some (102, n)) (h0 : 0 ≤ i) (h1 : i < (n : Int)) (k : Ok X d y b1 (L, S, (up M.1 id i.toNat (w16 v), M.2.1, M.2.2)) Q) : Ok X d y b s Q :=
  Ok.of hb hr (fun _ => by show (if aidx 102 (id + 1) i M = true then _ else _) = _; rw [if_pos (aidx_of hk h0 h1)]; rfl) k
theorem ok_zast {X : Xs} {d y b : Nat} {s : Fr} {ops : List Instr} {L : List (Option AV)} {S : List AV} {M : Mm} {Q : Mm → Option AV → Prop} {i v : Int} {id n b1 : Nat} (hb : blkOf y b = some (ops, .bastore, [b1])) (hr : runB X ops s = some (L, .inl v :: .inl i :: .inr (.inr (.inl (id + 1))) :: S, M)) (hk : gl M.2.2 id = some (103, n)) (h0 : 0 ≤ i) (h1 : i < (n : Int)) (hv : v = 0 ∨ v = 1) (k : Ok X d y b1 (L, S, (up M.1 id i.toNat v, M.2.1, M.2.2)) Q) : Ok X d y b s Q :=
  Ok.of hb hr (fun _ => by show (if aidx 103 (id + 1) i M = true ∧ isB v = true then _ else _) = _; rw [if_pos ⟨aidx_of hk h0 h1, isB_of hv⟩]; rfl) k
theorem ok_scr {X : Xs} {d y b : Nat} {s : Fr} {ops : List Instr} {L : List (Option AV)} {S : List AV} {M : Mm} {Q : Mm → Option AV → Prop} {i : Int} {b1 : Nat} (hb : blkOf y b = some (ops, .faload, [b1])) (hr : runB X ops s = some (L, .inl i :: .inr (.inr (.inr 0)) :: S, M)) (h0 : 0 ≤ i) (h1 : i < (X.1 : Int)) (k : Ok X d y b1 (L, .inl (X.2 i.toNat) :: S, M) Q) : Ok X d y b s Q :=
  Ok.of hb hr (fun _ => by show (if 0 ≤ i ∧ i < (X.1 : Int) then _ else _) = _; rw [if_pos ⟨h0, h1⟩]; rfl) k
theorem ok_idiv {X : Xs} {d y b : Nat} {s : Fr} {ops : List Instr} {L : List (Option AV)} {S : List AV} {M : Mm} {Q : Mm → Option AV → Prop} {u v : Int} {b1 : Nat} (hb : blkOf y b = some (ops, .idiv, [b1])) (hr : runB X ops s = some (L, .inl v :: .inl u :: S, M)) (h : v ≠ 0) (k : Ok X d y b1 (L, .inl (w32 (u.tdiv v)) :: S, M) Q) : Ok X d y b s Q :=
  Ok.of hb hr (fun _ => by show (if v = 0 then _ else _) = _; rw [if_neg h]; rfl) k
theorem ok_irem {X : Xs} {d y b : Nat} {s : Fr} {ops : List Instr} {L : List (Option AV)} {S : List AV} {M : Mm} {Q : Mm → Option AV → Prop} {u v : Int} {b1 : Nat} (hb : blkOf y b = some (ops, .irem, [b1])) (hr : runB X ops s = some (L, .inl v :: .inl u :: S, M)) (h : v ≠ 0) (k : Ok X d y b1 (L, .inl (u.tmod v) :: S, M) Q) : Ok X d y b s Q :=
  Ok.of hb hr (fun _ => by show (if v = 0 then _ else _) = _; rw [if_neg h]; rfl) k
theorem ok_ldiv {X : Xs} {d y b : Nat} {s : Fr} {ops : List Instr} {L : List (Option AV)} {S : List AV} {M : Mm} {Q : Mm → Option AV → Prop} {u v : Int} {b1 : Nat} (hb : blkOf y b = some (ops, .ldiv, [b1])) (hr : runB X ops s = some (L, .inr (.inl v) :: .inr (.inl u) :: S, M)) (h : v ≠ 0) (k : Ok X d y b1 (L, .inr (.inl (w64 (u.tdiv v))) :: S, M) Q) : Ok X d y b s Q :=
  Ok.of hb hr (fun _ => by show (if v = 0 then _ else _) = _; rw [if_neg h]; rfl) k
theorem ok_sw {X : Xs} {d y b : Nat} {s : Fr} {ops : List Instr} {L : List (Option AV)} {S : List AV} {M : Mm} {Q : Mm → Option AV → Prop} {x o lo hi : Int} {os : Array Int} {b0 b1 : Nat} {bs : List Nat} (hb : blkOf y b = some (ops, .tableswitch o lo hi os, b0 :: bs)) (hr : runB X ops s = some (L, .inl x :: S, M)) (hx : (if x < lo ∨ hi < x then b0 else tb bs (x - lo).toNat) = b1) (k : Ok X d y b1 (L, S, M) Q) : Ok X d y b s Q :=
  Ok.of hb hr (fun rec => by subst hx; show rec d y (if x < lo ∨ hi < x then _ else _) _ = _; split <;> rfl) k
theorem ok_lsw {X : Xs} {d y b : Nat} {s : Fr} {ops : List Instr} {L : List (Option AV)} {S : List AV} {M : Mm} {Q : Mm → Option AV → Prop} {x o : Int} {ps : Array (Int × Int)} {b0 b1 : Nat} {bs : List Nat} (hb : blkOf y b = some (ops, .lookupswitch o ps, b0 :: bs)) (hr : runB X ops s = some (L, .inl x :: S, M)) (hx : luk ps.toList bs b0 x = b1) (k : Ok X d y b1 (L, S, M) Q) : Ok X d y b s Q :=
  Ok.of hb hr (fun rec => by subst hx; rfl) k
/-- a call: the contract of what is called, and how it goes on -/
theorem ok_callA {X : Xs} {d y b : Nat} {s : Fr} {ops : List Instr} {L : List (Option AV)} {S : List AV} {M : Mm} {Q : Mm → Option AV → Prop} {args rest : List AV} {y2 b1 ml : Nat} {t : Instr} {d1 : Nat} {Q1 : Mm → Option AV → Prop} (hd : d = d1 + 1) (hb : blkOf y b = some (ops, t, [b1])) (hr : runB X ops s = some (L, S, M)) (ht : t = .invokevirtual y2 ∨ t = .invokestatic y2 ∨ t = .invokespecial y2) (hS : (S.take ((gl NARG y2).getD 0)).reverse = args) (hR : S.drop ((gl NARG y2).getD 0) = rest) (hl : (gl NARG y2).getD 0 ≤ S.length) (hm : (gl MAXL y2).getD 0 = ml) (hc : rcvOk y2 args M = true) (hw : catS rest ≤ 8) (hcat : catS args ≤ ml) (h1 : Ok X d1 y2 0 (entL args ml, [], M) Q1) (k : ∀ M1 r, Q1 M1 r → Ok X d y b1 (L, r.toList ++ rest, M1) Q) : Ok X d y b s Q := by
  subst hd; subst hS; subst hR; subst hm
  obtain ⟨n1, M1, r1, e1, q1⟩ := h1
  obtain ⟨n2, M2, r2, e2, q2⟩ := k M1 r1 q1
  refine ⟨n1 + n2 + 1, M2, r2, ?_, q2⟩
  rw [run_trm hb hr]
  have f1 := run_mono X (k := n2) e1
  have f2 := run_mono X (k := n1) e2
  rw [Nat.add_comm] at f2
  have key : (if rcvOk y2 (S.take ((gl NARG y2).getD 0)).reverse M = true ∧ catS (S.drop ((gl NARG y2).getD 0)) ≤ 8 ∧ (gl NARG y2).getD 0 ≤ S.length ∧ catS (S.take ((gl NARG y2).getD 0)).reverse ≤ (gl MAXL y2).getD 0 then
      (match run X (n1 + n2) d1 y2 0 (entL (S.take ((gl NARG y2).getD 0)).reverse ((gl MAXL y2).getD 0), [], M) with
        | some (M1, r) => run X (n1 + n2) (d1 + 1) y (tb [b1] 0) (L, r.toList ++ S.drop ((gl NARG y2).getD 0), M1)
        | none => none)
      else none) = some (M2, r2) := by
    rw [if_pos ⟨hc, hw, hl, hcat⟩, f1]
    exact f2
  rcases ht with rfl | rfl | rfl
  · exact key
  · exact key
  · exact key
theorem alen_of {id k n : Nat} {M : Mm} (hk : gl M.2.2 id = some (k, n)) (h : 100 ≤ k) : alen (id + 1) M = some (n : Int) := by
  simp [alen, hk, h]
theorem ok_alen {X : Xs} {d y b : Nat} {s : Fr} {ops : List Instr} {L : List (Option AV)} {S : List AV} {M : Mm} {Q : Mm → Option AV → Prop} {id n b1 : Nat} (hb : blkOf y b = some (ops, .arraylength, [b1])) (hr : runB X ops s = some (L, .inr (.inr (.inl (id + 1))) :: S, M)) (hk : gl M.2.2 id = some (100, n)) (k : Ok X d y b1 (L, .inl (n : Int) :: S, M) Q) : Ok X d y b s Q :=
  Ok.of hb hr (fun rec => by show (match alen (id + 1) M with | some v => rec d y (tb [b1] 0) (L, .inl v :: S, M) | none => none) = _; rw [alen_of hk (by decide)]; rfl) k
theorem ok_mmax {X : Xs} {d y b : Nat} {s : Fr} {ops : List Instr} {L : List (Option AV)} {S : List AV} {M : Mm} {Q : Mm → Option AV → Prop} {u v : Int} {b1 d1 : Nat} (hd : d = d1 + 1) (hb : blkOf y b = some (ops, .invokedynamic 1, [b1])) (hr : runB X ops s = some (L, .inl v :: .inl u :: S, M)) (hw : catS S ≤ 8) (k : Ok X d y b1 (L, .inl (max u v) :: S, M) Q) : Ok X d y b s Q :=
  Ok.of hb hr (fun rec => by show (if 1 ≤ d ∧ catS S ≤ 8 then _ else _) = _; rw [if_pos ⟨by omega, hw⟩]; rfl) k
theorem ok_mmin {X : Xs} {d y b : Nat} {s : Fr} {ops : List Instr} {L : List (Option AV)} {S : List AV} {M : Mm} {Q : Mm → Option AV → Prop} {u v : Int} {b1 d1 : Nat} (hd : d = d1 + 1) (hb : blkOf y b = some (ops, .invokedynamic 2, [b1])) (hr : runB X ops s = some (L, .inl v :: .inl u :: S, M)) (hw : catS S ≤ 8) (k : Ok X d y b1 (L, .inl (min u v) :: S, M) Q) : Ok X d y b s Q :=
  Ok.of hb hr (fun rec => by show (if 1 ≤ d ∧ catS S ≤ 8 then _ else _) = _; rw [if_pos ⟨by omega, hw⟩]; rfl) k
theorem ok_lmax {X : Xs} {d y b : Nat} {s : Fr} {ops : List Instr} {L : List (Option AV)} {S : List AV} {M : Mm} {Q : Mm → Option AV → Prop} {u v : Int} {b1 d1 : Nat} (hd : d = d1 + 1) (hb : blkOf y b = some (ops, .invokedynamic 3, [b1])) (hr : runB X ops s = some (L, .inr (.inl v) :: .inr (.inl u) :: S, M)) (hw : catS S ≤ 8) (k : Ok X d y b1 (L, .inr (.inl (max u v)) :: S, M) Q) : Ok X d y b s Q :=
  Ok.of hb hr (fun rec => by show (if 1 ≤ d ∧ catS S ≤ 8 then _ else _) = _; rw [if_pos ⟨by omega, hw⟩]; rfl) k
theorem ok_lmin {X : Xs} {d y b : Nat} {s : Fr} {ops : List Instr} {L : List (Option AV)} {S : List AV} {M : Mm} {Q : Mm → Option AV → Prop} {u v : Int} {b1 d1 : Nat} (hd : d = d1 + 1) (hb : blkOf y b = some (ops, .invokedynamic 4, [b1])) (hr : runB X ops s = some (L, .inr (.inl v) :: .inr (.inl u) :: S, M)) (hw : catS S ≤ 8) (k : Ok X d y b1 (L, .inr (.inl (min u v)) :: S, M) Q) : Ok X d y b s Q :=
  Ok.of hb hr (fun rec => by show (if 1 ≤ d ∧ catS S ≤ 8 then _ else _) = _; rw [if_pos ⟨by omega, hw⟩]; rfl) k
