/-! a whole run, in the real machine -/
section RUN
variable {p : Program} {l : Launch} {e : Env} {R : Room} {s : State} {m : MethodId} {args : Array Value} {below : List Frame} {meth : Method} {c : Code} {H : Heap} {locs : List Loc} {cells slots : Nat} {Q : State → Prop} {g : GP} {X : Xs} {y k0 z0 : Nat} {pc : Nat} {ls : Array Slot} {L : List (Option AV)} {S : List AV} {M : Mm}
theorem ops_snd (rs0 : List Instr) : ∀ {pc pe : Nat} {L L2 : List (Option AV)} {S S2 : List AV} {M M2 Mf : Mm} {ls : Array Slot} {H : Heap} {locs : List Loc} {cells slots : Nat}, CTX g X y p s m args meth c → chkOps (yo y) (yin y) (ml y) (yc y) pc rs0 = some pe → runB X rs0 (L, S, M) = some (L2, S2, M2) → lrel g L ls → L.length = ml y → wfL L → wfS S → INV g s k0 z0 M H locs cells slots → Gr M2 Mf → Mf.2.2.length ≤ k0 + R.cells → ksz Mf.2.2 ≤ z0 + R.slots → 1 ≤ R.frames → 64 ≤ R.locals →
    (∀ ls2 H2 locs2 cells2 slots2, lrel g L2 ls2 → L2.length = ml y → wfL L2 → wfS S2 → INV g s k0 z0 M2 H2 locs2 cells2 slots2 → W p l e R s m args below meth c H2 locs2 cells2 slots2 Q (F0 m pe ls2 (S2.map (vv g)))) →
    W p l e R s m args below meth c H locs cells slots Q (F0 m pc ls (S.map (vv g))) := by
  induction rs0 with
  | nil =>
    intro pc pe L L2 S S2 M M2 Mf ls H locs cells slots C hck hrun hr hL wL wS I hG rc rs rf rl kk
    cases hck; cases hrun
    exact kk _ _ _ _ _ hr hL wL wS I
  | cons r rs0 ih =>
    intro pc pe L L2 S S2 M M2 Mf ls H locs cells slots C hck hrun hr hL wL wS I hG rc rs rf rl kk
    unfold chkOps at hck
    split at hck
    · next i len hd =>
      split at hck
      · next hok =>
        rw [Bool.and_eq_true] at hok
        have hlen := Nat.eq_of_beq_eq_true hok.1
        unfold runB at hrun
        cases hs : op1 X r (L, S, M).1 (L, S, M).2.1 (L, S, M).2.2 with
        | none => rw [hs] at hrun; cases hrun
        | some v =>
          rw [hs] at hrun
          obtain ⟨L1, S1, M1⟩ := v
          have hg1 : Gr M1 Mf := (runB_Gr _ _ _ hrun).tr hG
          have hgl := hg1.len
          refine op_snd C hd hlen hok.2 hs hr hL wL wS I (by omega) (by omega) rf rl (fun ls1 H1 locs1 cells1 slots1 r1 l1 w1 w2 I1 => ?_)
          exact ih C hck hrun r1 (l1.trans hL) w1 w2 I1 hG rc rs rf rl kk
      · cases hck
    · cases hck
theorem body_snd (n : Nat) : BodyOK l g X n := by
  induction n with
  | zero => intro d y b L S M M2 r h; cases h
  | succ n ih =>
    intro d y b L S M M2 r h hy pc hpc p e R s m args below meth c H locs cells slots Q ls k0 z0 C hr hL wL wS I rc rs rf rl hret
    have h2 : stp X (run X n) d y b (L, S, M) = some (M2, r) := h
    unfold stp at h2
    cases hb : blkOf y b with
    | none => rw [hb] at h2; cases h2
    | some q =>
      rw [hb] at h2
      dsimp only at h2
      cases hru : runB X q.1 (L, S, M) with
      | none => rw [hru] at h2; cases h2
      | some u =>
        rw [hru] at h2
        obtain ⟨L2, S2, M3⟩ := u
        dsimp only at h2
        have hgr : Gr M3 M2 := trm_Gr (fun d y b s r h => run_Gr X n d y b s r h) h2
        obtain ⟨pc', hpc', hck⟩ := chk_at (y := y) (by unfold NM at hy; omega) hb
        rw [hpc] at hpc'; cases hpc'
        unfold chkB at hck
        split at hck
        · cases hck
        · next pe hpe =>
          refine ops_snd q.1 C hpe hru hr hL wL wS I hgr rc rs (by omega) (by omega) (fun ls2 H2 locs2 cells2 slots2 r1 l1 w1 w2 I1 => ?_)
          have hnl := nl_of hb
          obtain ⟨ops, t, tg⟩ := q
          dsimp only at hck h2 hnl
          split at hck
          · obtain ⟨q9, q1, q2⟩ := goTo_x hck
            have : q9 = pe := by omega
            subst this
            exact ih d y _ _ _ _ M2 r h2 hy _ q1 C r1 l1 w1 w2 I1 rc rs rf rl hret
          · split at hck
            · next i len hd => exact trm_snd ih hnl h2 hy hd hck C r1 l1 w1 w2 I1 rc rs rf rl hret
            · cases hck
end RUN
