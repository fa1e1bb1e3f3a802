/-! contracts written by hand: texts, and the loads' rows that grow -/
def lenW (j : Nat) : Int := ((gl SBY j).getD []).length
def chrO (j : Nat) (i : Int) : Option Int := if 0 ≤ i ∧ i < lenW j then some ((gl ((gl SBY j).getD []) i.toNat).getD 0) else none
theorem j_13 {P : Nat → Prop} (h0 : P 0) (h1 : P 1) (h2 : P 2) (h3 : P 3) (h4 : P 4) (h5 : P 5) (h6 : P 6) (h7 : P 7) (h8 : P 8) (h9 : P 9) (h10 : P 10) (h11 : P 11) (h12 : P 12) {j : Nat} (h : j < 13) : P j := by
  have : j = 0 ∨ j = 1 ∨ j = 2 ∨ j = 3 ∨ j = 4 ∨ j = 5 ∨ j = 6 ∨ j = 7 ∨ j = 8 ∨ j = 9 ∨ j = 10 ∨ j = 11 ∨ j = 12 := by omega
  rcases this with rfl | rfl | rfl | rfl | rfl | rfl | rfl | rfl | rfl | rfl | rfl | rfl | rfl <;> assumption
theorem t_13 {j : Nat} (h : j < 13) : (Nat.ble 10 (10 + j) && Nat.blt (10 + j) 23) = true := j_13 (P := fun j => (Nat.ble 10 (10 + j) && Nat.blt (10 + j) 23) = true) rfl rfl rfl rfl rfl rfl rfl rfl rfl rfl rfl rfl rfl h
theorem t_rcv {y j : Nat} {a : List AV} {M : Mm} (hj : j < 13) (hy : (gl RCV y).getD 99 = 50) : rcvOk y (.inr (.inr (.inr (10 + j))) :: a) M = true := by
  unfold rcvOk
  rw [hy]
  show (Nat.beq 50 50 && (Nat.ble 10 (10 + j) && Nat.blt (10 + j) 23)) = true
  rw [t_13 hj]; rfl
theorem t_op1 {X : Xs} {j : Nat} {L : List (Option AV)} {S : List AV} {M : Mm} (hj : j < 13) : op1 X (.instanceof 1) L (.inr (.inr (.inr (10 + j))) :: S) M = some (L, .inl 0 :: S, M) := by
  unfold op1
  simp only [t_13 hj]
theorem t_op0 {X : Xs} {j : Nat} {L : List (Option AV)} {S : List AV} {M : Mm} (hj : j < 13) : op1 X (.instanceof 0) L (.inr (.inr (.inr (10 + j))) :: S) M = some (L, .inr (.inr (.inr (10 + j + 30))) :: S, M) := by
  unfold op1
  simp only [t_13 hj]
theorem t_opl {X : Xs} {j : Nat} {L : List (Option AV)} {S : List AV} {M : Mm} (hj : j < 13) : op1 X .fsub L (.inr (.inr (.inr (10 + j + 30))) :: S) M = some (L, .inl (lenW j) :: S, M) :=
  j_13 (P := fun j => op1 X .fsub L (.inr (.inr (.inr (10 + j + 30))) :: S) M = some (L, .inl (lenW j) :: S, M)) rfl rfl rfl rfl rfl rfl rfl rfl rfl rfl rfl rfl rfl hj
theorem runB_2 {X : Xs} {i : Instr} {is : List Instr} {s u : Fr} (h : op1 X i s.1 s.2.1 s.2.2 = some u) : runB X (i :: is) s = runB X is u := by
  show (match op1 X i s.1 s.2.1 s.2.2 with | some s' => runB X is s' | none => none) = _
  rw [h]

set_option maxRecDepth 20000 in
set_option maxHeartbeats 4000000 in
theorem w_coder {X : Xs} {d j : Nat} {V : VV} {h : HP} (hj : j < 13) : Ok X (d + 1) 61 0 ([some (.inr (.inr (.inr (10 + j))))], [], mm V h) (fun M r => M = mm V h ∧ r = some (.inl 0)) := by
  refine ok_if_eq (x := 1) (L := [some (.inr (.inr (.inr (10 + j))))]) (S := []) (M := mm V h) rfl rfl (fun c => absurd c (by decide)) (fun _ => ?_)
  refine ok_goto (L := [some (.inr (.inr (.inr (10 + j))))]) (S := [.inl 0]) (M := mm V h) rfl (by rw [runB_2 (u := ([some (.inr (.inr (.inr (10 + j))))], [.inr (.inr (.inr (10 + j)))], mm V h)) rfl, runB_2 (t_op1 hj)]; rfl) ?_
  exact ok_creturn (L := [some (.inr (.inr (.inr (10 + j))))]) (M := mm V h) (x := 0) rfl rfl (by decide) ⟨rfl, rfl⟩
set_option maxRecDepth 20000 in
set_option maxHeartbeats 4000000 in
theorem w_latin {X : Xs} {d j : Nat} {V : VV} {h : HP} (hj : j < 13) : Ok X (d + 1) 63 0 ([some (.inr (.inr (.inr (10 + j))))], [], mm V h) (fun M r => M = mm V h ∧ r = some (.inl 1)) := by
  refine ok_if_eq (x := 1) (L := [some (.inr (.inr (.inr (10 + j))))]) (S := []) (M := mm V h) rfl rfl (fun c => absurd c (by decide)) (fun _ => ?_)
  refine ok_if_ne (x := 0) (L := [some (.inr (.inr (.inr (10 + j))))]) (S := []) (M := mm V h) rfl (by rw [runB_2 (u := ([some (.inr (.inr (.inr (10 + j))))], [.inr (.inr (.inr (10 + j)))], mm V h)) rfl, runB_2 (t_op1 hj)]; rfl) (fun c => absurd rfl c) (fun _ => ?_)
  refine ok_goto (L := [some (.inr (.inr (.inr (10 + j))))]) (S := [.inl 1]) (M := mm V h) rfl rfl ?_
  exact ok_zreturn (L := [some (.inr (.inr (.inr (10 + j))))]) (M := mm V h) (x := 1) rfl rfl (Or.inr rfl) ⟨rfl, rfl⟩
theorem t_shr : SBY.all (fun l => decide (ishrI (l.length : Int) 0 = (l.length : Int)) && l.all (fun v => decide (iandI v 255 % 65536 = v ∧ 0 ≤ v ∧ v < 128))) = true := by decide +kernel
theorem t_shr2 {j : Nat} (hj : j < 13) : ishrI (lenW j) 0 = lenW j := j_13 (P := fun j => ishrI (lenW j) 0 = lenW j) (by decide +kernel) (by decide +kernel) (by decide +kernel) (by decide +kernel) (by decide +kernel) (by decide +kernel) (by decide +kernel) (by decide +kernel) (by decide +kernel) (by decide +kernel) (by decide +kernel) (by decide +kernel) (by decide +kernel) hj
theorem gl_mem_ {α : Type} {l : List α} {k : Nat} {a : α} (h : gl l k = some a) : a ∈ l := by
  induction l generalizing k with
  | nil => cases h
  | cons b l ih =>
    cases k with
    | zero => cases h; exact List.mem_cons_self ..
    | succ k => exact List.mem_cons_of_mem _ (ih h)
theorem t_chr {j i : Nat} {v : Int} (h : gl ((gl SBY j).getD []) i = some v) : iandI v 255 % 65536 = v ∧ 0 ≤ v ∧ v < 128 := by
  cases hl : gl SBY j with
  | none => rw [hl] at h; cases h
  | some l =>
    rw [hl] at h
    have h1 := List.all_eq_true.mp t_shr l (gl_mem_ hl)
    rw [Bool.and_eq_true] at h1
    exact of_decide_eq_true (List.all_eq_true.mp h1.2 v (gl_mem_ h))
theorem gl_some_ {α : Type} {l : List α} {k : Nat} (h : k < l.length) : ∃ a, gl l k = some a := by
  induction l generalizing k with
  | nil => exact absurd h (Nat.not_lt_zero _)
  | cons b l ih =>
    cases k with
    | zero => exact ⟨b, rfl⟩
    | succ k => exact ih (Nat.lt_of_succ_lt_succ h)
set_option maxRecDepth 20000 in
set_option maxHeartbeats 4000000 in
theorem w_strlen {X : Xs} {d j : Nat} {V : VV} {h : HP} {q : Int} (hj : j < 13) (e : lenW j = q) : Ok X (d + 3) 60 0 ([some (.inr (.inr (.inr (10 + j))))], [], mm V h) (fun M r => M = mm V h ∧ r = some (.inl q)) := by
  subst e
  refine ok_callA (L := [some (.inr (.inr (.inr (10 + j))))]) (S := [.inr (.inr (.inr (10 + j))), .inl (lenW j)]) (M := mm V h) (args := [.inr (.inr (.inr (10 + j)))]) (rest := [.inl (lenW j)]) (y2 := 61) rfl rfl (by rw [runB_2 (u := ([some (.inr (.inr (.inr (10 + j))))], [.inr (.inr (.inr (10 + j)))], mm V h)) rfl, runB_2 (t_op0 hj), runB_2 (t_opl hj)]; rfl) (Or.inl rfl) rfl rfl (Nat.le_of_ble_eq_true rfl) rfl (t_rcv hj rfl) (Nat.le_of_ble_eq_true rfl) (Nat.le_of_ble_eq_true rfl) (w_coder hj) ?_
  rintro _ _ ⟨rfl, rfl⟩
  exact ok_ireturn (L := [some (.inr (.inr (.inr (10 + j))))]) (M := mm V h) (x := ishrI (lenW j) 0) rfl rfl ⟨rfl, by rw [t_shr2 hj]⟩
set_option maxRecDepth 20000 in
set_option maxHeartbeats 4000000 in
theorem w_chkI {X : Xs} {d : Nat} {V : VV} {h : HP} {i n : Int} (h0 : 0 ≤ i) (h1 : i < n) : Ok X (d + 1) 66 0 ([some (.inl i), some (.inl n), some (.inr (.inr (.inr 1)))], [], mm V h) (fun M r => M = mm V h ∧ r = some (.inl i)) := by
  refine ok_if_lt (x := i) (L := [some (.inl i), some (.inl n), some (.inr (.inr (.inr 1)))]) (S := []) (M := mm V h) rfl rfl (fun c => absurd c (Int.not_lt.mpr h0)) (fun _ => ?_)
  refine ok_ic_lt (x := i) (u := n) (L := [some (.inl i), some (.inl n), some (.inr (.inr (.inr 1)))]) (S := []) (M := mm V h) rfl rfl (fun _ => ?_) (fun c => absurd h1 (Int.not_lt.mpr c))
  exact ok_ireturn (L := [some (.inl i), some (.inl n), some (.inr (.inr (.inr 1)))]) (M := mm V h) (x := i) rfl rfl ⟨rfl, rfl⟩
set_option maxRecDepth 20000 in
set_option maxHeartbeats 4000000 in
theorem w_chkJ {X : Xs} {d : Nat} {V : VV} {h : HP} {i n : Int} (h0 : 0 ≤ i) (h1 : i < n) : Ok X (d + 2) 65 0 ([some (.inl i), some (.inl n)], [], mm V h) (fun M r => M = mm V h ∧ r = none) := by
  refine ok_callA (L := [some (.inl i), some (.inl n)]) (M := mm V h) (args := [.inl i, .inl n, .inr (.inr (.inr 1))]) (rest := []) (y2 := 66) rfl rfl rfl (Or.inr (Or.inl rfl)) rfl rfl (Nat.le_of_ble_eq_true rfl) rfl rfl (Nat.le_of_ble_eq_true rfl) (Nat.le_of_ble_eq_true rfl) (w_chkI h0 h1) ?_
  rintro _ _ ⟨rfl, rfl⟩
  exact ok_return (L := [some (.inl i), some (.inl n)]) (M := mm V h) rfl rfl ⟨rfl, rfl⟩
set_option maxRecDepth 20000 in
set_option maxHeartbeats 4000000 in
theorem w_latc {X : Xs} {d j : Nat} {V : VV} {h : HP} {i q : Int} (hj : j < 13) (e : chrO j i = some q) : Ok X (d + 3) 64 0 ([some (.inr (.inr (.inr (10 + j + 30)))), some (.inl i)], [], mm V h) (fun M r => M = mm V h ∧ r = some (.inl q) ∧ (0 ≤ q ∧ q < 128)) := by
  unfold chrO at e
  split at e
  case isFalse => cases e
  case isTrue hi =>
  have hl : i.toNat < ((gl SBY j).getD []).length := by
    have := hi.2; unfold lenW at this; omega
  obtain ⟨v, hv⟩ := gl_some_ hl
  have hq : v = q := by rw [hv] at e; exact Option.some.inj e
  have hc := t_chr hv
  refine ok_callA (L := [some (.inr (.inr (.inr (10 + j + 30)))), some (.inl i)]) (S := [.inl (lenW j), .inl i]) (M := mm V h) (args := [.inl i, .inl (lenW j)]) (rest := []) (y2 := 65) rfl rfl (by rw [runB_2 (u := ([some (.inr (.inr (.inr (10 + j + 30)))), some (.inl i)], [.inl i], mm V h)) rfl, runB_2 (u := ([some (.inr (.inr (.inr (10 + j + 30)))), some (.inl i)], [.inr (.inr (.inr (10 + j + 30))), .inl i], mm V h)) rfl, runB_2 (t_opl hj)]; rfl) (Or.inr (Or.inl rfl)) rfl rfl (Nat.le_of_ble_eq_true rfl) rfl rfl (Nat.le_of_ble_eq_true rfl) (Nat.le_of_ble_eq_true rfl) (w_chkJ hi.1 hi.2) ?_
  rintro _ _ ⟨rfl, rfl⟩
  have hg : gl (SBY.getD (10 + j + 30 - 40) []) i.toNat = some v := by
    rw [show 10 + j + 30 - 40 = j by omega, ← hv]
    exact congrArg (fun z => gl z i.toNat) (j_13 (P := fun j => SBY.getD j [] = (gl SBY j).getD []) rfl rfl rfl rfl rfl rfl rfl rfl rfl rfl rfl rfl rfl hj)
  refine Ok.of (ops := [.aload 0, .iload 1]) (t := .baload) (tg := [2]) (d2 := d + 3) (y2 := 64) (b2 := 2) (s2 := ([some (.inr (.inr (.inr (10 + j + 30)))), some (.inl i)], [.inl v], mm V h)) (L := [some (.inr (.inr (.inr (10 + j + 30)))), some (.inl i)]) (S := [.inl i, .inr (.inr (.inr (10 + j + 30)))]) (M := mm V h) rfl rfl (fun rec => ?_) ?_
  · show (match gl (SBY.getD (10 + j + 30 - 40) []) i.toNat with | some v => if 40 ≤ 10 + j + 30 ∧ 0 ≤ i then rec (d + 3) 64 (tb [2] 0) ([some (.inr (.inr (.inr (10 + j + 30)))), some (.inl i)], [.inl v], mm V h) else none | none => none) = _
    rw [hg]
    exact if_pos ⟨by omega, hi.1⟩
  refine ok_creturn (L := [some (.inr (.inr (.inr (10 + j + 30)))), some (.inl i)]) (M := mm V h) (x := iandI v 255 % 65536) rfl rfl ?_ ⟨rfl, ?_, ?_⟩
  · rw [hc.1]; exact hc.2
  · rw [hc.1, hq]
  · rw [← hq]; exact hc.2
set_option maxRecDepth 20000 in
set_option maxHeartbeats 4000000 in
theorem w_strchar {X : Xs} {d j : Nat} {V : VV} {h : HP} {i q : Int} (hj : j < 13) (e : chrO j i = some q) : Ok X (d + 5) 62 0 ([some (.inr (.inr (.inr (10 + j)))), some (.inl i)], [], mm V h) (fun M r => M = mm V h ∧ r = some (.inl q) ∧ (0 ≤ q ∧ q < 128)) := by
  refine ok_callA (L := [some (.inr (.inr (.inr (10 + j)))), some (.inl i)]) (M := mm V h) (args := [.inr (.inr (.inr (10 + j)))]) (rest := []) (y2 := 63) rfl rfl rfl (Or.inl rfl) rfl rfl (Nat.le_of_ble_eq_true rfl) rfl (t_rcv hj rfl) (Nat.le_of_ble_eq_true rfl) (Nat.le_of_ble_eq_true rfl) (w_latin hj) ?_
  rintro _ _ ⟨rfl, rfl⟩
  refine ok_if_eq (x := 1) (L := [some (.inr (.inr (.inr (10 + j)))), some (.inl i)]) (S := []) (M := mm V h) rfl rfl (fun c => absurd c (by decide)) (fun _ => ?_)
  refine ok_callA (L := [some (.inr (.inr (.inr (10 + j)))), some (.inl i)]) (S := [.inl i, .inr (.inr (.inr (10 + j + 30)))]) (M := mm V h) (args := [.inr (.inr (.inr (10 + j + 30))), .inl i]) (rest := []) (y2 := 64) rfl rfl (by rw [runB_2 (u := ([some (.inr (.inr (.inr (10 + j)))), some (.inl i)], [.inr (.inr (.inr (10 + j)))], mm V h)) rfl, runB_2 (t_op0 hj)]; rfl) (Or.inr (Or.inl rfl)) rfl rfl (Nat.le_of_ble_eq_true rfl) rfl rfl (Nat.le_of_ble_eq_true rfl) (Nat.le_of_ble_eq_true rfl) (w_latc hj e) ?_
  rintro _ _ ⟨rfl, rfl, hz⟩
  exact ok_creturn (L := [some (.inr (.inr (.inr (10 + j)))), some (.inl i)]) (M := mm V h) (x := q) rfl rfl hz ⟨rfl, rfl, hz⟩
/-- the rows of loads, copied into longer ones -/
def growV (V : VV) (h h2 : HP) : VV := fun a b => if a = h2.2.1 then (if b < ordN h then V h.2.1 b else 0) else if a = h2.1 then (if b < rowN h then V h.1 b else 0) else V a b
def noteV (V : VV) (h : HP) (l f x : Int) : VV := setV V h.1 (rowN h) (w32 (w32 (l * 9) + f)) x
def addV (V : VV) (h : HP) (l j t k p m : Int) : VV := noteV (noteV (noteV (noteV (noteV (noteV (noteV (noteV (noteV V h l 0 j) h l 1 t) h l 2 k) h l 3 p) h l 4 m) h l 5 (-1)) h l 6 (-1)) h l 7 (-1)) h l 8 0
def f_Loads_add (V : VV) (h : HP) (j t k p m : Int) : (VV × HP) × Int :=
  if 17280 ≤ V 28 3 then ((V, h), -1)
  else if V 28 3 < (ordN h : Int) then ((addV (up V 28 3 (w32 (V 28 3 + 1))) h (V 28 3) j t k p m, h), V 28 3)
  else ((addV (up (growV V h (hg (h.2.2.length / 2 + 1))) 28 3 (w32 (V 28 3 + 1))) (hg (h.2.2.length / 2 + 1)) (V 28 3) j t k p m, hg (h.2.2.length / 2 + 1)), V 28 3)
set_option maxRecDepth 20000 in
set_option maxHeartbeats 4000000 in
theorem w_note {X : Xs} {d : Nat} {V : VV} {h : HP} {l f x : Int} (hh : HOK h) : Ok X (d + 2) 106 0 ([some (.inr (.inr (.inl 29))), some (.inl l), some (.inl f), some (.inl x)], [], mm V h) (fun M r => M = mm (noteV V h l f x) h ∧ r = none) := by
  refine ok_callA (L := [some (.inr (.inr (.inl 29))), some (.inl l), some (.inl f), some (.inl x)]) (M := mm V h) (args := [.inr (.inr (.inl (h.1 + 1))), .inl (w32 ((w32 (l * 9)) + f)), .inl x]) (rest := []) (y2 := 9) rfl rfl rfl (Or.inr (Or.inl rfl)) rfl rfl (Nat.le_of_ble_eq_true rfl) rfl rfl (Nat.le_of_ble_eq_true rfl) (Nat.le_of_ble_eq_true rfl) (w_set hh.row rfl) ?_
  rintro _ _ ⟨rfl, rfl⟩
  exact ok_return (L := [some (.inr (.inr (.inl 29))), some (.inl l), some (.inl f), some (.inl x)]) (M := mm (noteV V h l f x) h) rfl rfl ⟨rfl, rfl⟩
set_option maxRecDepth 20000 in
set_option maxHeartbeats 4000000 in
theorem w_addT {X : Xs} {d : Nat} {V : VV} {h : HP} {j t k p m : Int} {z : Option AV} (hz : z = none ∨ ∃ x, z = some (.inl x)) (hh : HOK h) : Ok X (d + 3) 112 9 ([some (.inr (.inr (.inl 29))), some (.inl j), some (.inl t), some (.inl k), some (.inl p), some (.inl m), z], [], mm V h) (fun M r => M = mm (addV (up V 28 3 (w32 (V 28 3 + 1))) h (V 28 3) j t k p m) h ∧ r = some (.inl (V 28 3))) := by
  have hz2 : Ok X (d + 3) 112 9 ([some (.inr (.inr (.inl 29))), some (.inl j), some (.inl t), some (.inl k), some (.inl p), some (.inl m), z], [], mm V h) (fun M r => M = mm (addV (up V 28 3 (w32 (V 28 3 + 1))) h (V 28 3) j t k p m) h ∧ r = some (.inl (V 28 3))) := by
    refine ok_callA (L := [some (.inr (.inr (.inl 29))), some (.inl j), some (.inl t), some (.inl k), some (.inl p), some (.inl m), some (.inl (V 28 3))]) (M := mm (up V 28 3 (w32 (V 28 3 + 1))) h) (args := [.inr (.inr (.inl 29)), .inl (V 28 3), .inl 0, .inl j]) (rest := []) (y2 := 106) rfl rfl rfl (Or.inl rfl) rfl rfl (Nat.le_of_ble_eq_true rfl) rfl rfl (Nat.le_of_ble_eq_true rfl) (Nat.le_of_ble_eq_true rfl) (w_note hh) ?_
    rintro _ _ ⟨rfl, rfl⟩
    refine ok_callA (L := [some (.inr (.inr (.inl 29))), some (.inl j), some (.inl t), some (.inl k), some (.inl p), some (.inl m), some (.inl (V 28 3))]) (M := mm (noteV (up V 28 3 (w32 (V 28 3 + 1))) h (V 28 3) 0 j) h) (args := [.inr (.inr (.inl 29)), .inl (V 28 3), .inl 1, .inl t]) (rest := []) (y2 := 106) rfl rfl rfl (Or.inl rfl) rfl rfl (Nat.le_of_ble_eq_true rfl) rfl rfl (Nat.le_of_ble_eq_true rfl) (Nat.le_of_ble_eq_true rfl) (w_note hh) ?_
    rintro _ _ ⟨rfl, rfl⟩
    refine ok_callA (L := [some (.inr (.inr (.inl 29))), some (.inl j), some (.inl t), some (.inl k), some (.inl p), some (.inl m), some (.inl (V 28 3))]) (M := mm (noteV (noteV (up V 28 3 (w32 (V 28 3 + 1))) h (V 28 3) 0 j) h (V 28 3) 1 t) h) (args := [.inr (.inr (.inl 29)), .inl (V 28 3), .inl 2, .inl k]) (rest := []) (y2 := 106) rfl rfl rfl (Or.inl rfl) rfl rfl (Nat.le_of_ble_eq_true rfl) rfl rfl (Nat.le_of_ble_eq_true rfl) (Nat.le_of_ble_eq_true rfl) (w_note hh) ?_
    rintro _ _ ⟨rfl, rfl⟩
    refine ok_callA (L := [some (.inr (.inr (.inl 29))), some (.inl j), some (.inl t), some (.inl k), some (.inl p), some (.inl m), some (.inl (V 28 3))]) (M := mm (noteV (noteV (noteV (up V 28 3 (w32 (V 28 3 + 1))) h (V 28 3) 0 j) h (V 28 3) 1 t) h (V 28 3) 2 k) h) (args := [.inr (.inr (.inl 29)), .inl (V 28 3), .inl 3, .inl p]) (rest := []) (y2 := 106) rfl rfl rfl (Or.inl rfl) rfl rfl (Nat.le_of_ble_eq_true rfl) rfl rfl (Nat.le_of_ble_eq_true rfl) (Nat.le_of_ble_eq_true rfl) (w_note hh) ?_
    rintro _ _ ⟨rfl, rfl⟩
    refine ok_callA (L := [some (.inr (.inr (.inl 29))), some (.inl j), some (.inl t), some (.inl k), some (.inl p), some (.inl m), some (.inl (V 28 3))]) (M := mm (noteV (noteV (noteV (noteV (up V 28 3 (w32 (V 28 3 + 1))) h (V 28 3) 0 j) h (V 28 3) 1 t) h (V 28 3) 2 k) h (V 28 3) 3 p) h) (args := [.inr (.inr (.inl 29)), .inl (V 28 3), .inl 4, .inl m]) (rest := []) (y2 := 106) rfl rfl rfl (Or.inl rfl) rfl rfl (Nat.le_of_ble_eq_true rfl) rfl rfl (Nat.le_of_ble_eq_true rfl) (Nat.le_of_ble_eq_true rfl) (w_note hh) ?_
    rintro _ _ ⟨rfl, rfl⟩
    refine ok_callA (L := [some (.inr (.inr (.inl 29))), some (.inl j), some (.inl t), some (.inl k), some (.inl p), some (.inl m), some (.inl (V 28 3))]) (M := mm (noteV (noteV (noteV (noteV (noteV (up V 28 3 (w32 (V 28 3 + 1))) h (V 28 3) 0 j) h (V 28 3) 1 t) h (V 28 3) 2 k) h (V 28 3) 3 p) h (V 28 3) 4 m) h) (args := [.inr (.inr (.inl 29)), .inl (V 28 3), .inl 5, .inl (-1)]) (rest := []) (y2 := 106) rfl rfl rfl (Or.inl rfl) rfl rfl (Nat.le_of_ble_eq_true rfl) rfl rfl (Nat.le_of_ble_eq_true rfl) (Nat.le_of_ble_eq_true rfl) (w_note hh) ?_
    rintro _ _ ⟨rfl, rfl⟩
    refine ok_callA (L := [some (.inr (.inr (.inl 29))), some (.inl j), some (.inl t), some (.inl k), some (.inl p), some (.inl m), some (.inl (V 28 3))]) (M := mm (noteV (noteV (noteV (noteV (noteV (noteV (up V 28 3 (w32 (V 28 3 + 1))) h (V 28 3) 0 j) h (V 28 3) 1 t) h (V 28 3) 2 k) h (V 28 3) 3 p) h (V 28 3) 4 m) h (V 28 3) 5 (-1)) h) (args := [.inr (.inr (.inl 29)), .inl (V 28 3), .inl 6, .inl (-1)]) (rest := []) (y2 := 106) rfl rfl rfl (Or.inl rfl) rfl rfl (Nat.le_of_ble_eq_true rfl) rfl rfl (Nat.le_of_ble_eq_true rfl) (Nat.le_of_ble_eq_true rfl) (w_note hh) ?_
    rintro _ _ ⟨rfl, rfl⟩
    refine ok_callA (L := [some (.inr (.inr (.inl 29))), some (.inl j), some (.inl t), some (.inl k), some (.inl p), some (.inl m), some (.inl (V 28 3))]) (M := mm (noteV (noteV (noteV (noteV (noteV (noteV (noteV (up V 28 3 (w32 (V 28 3 + 1))) h (V 28 3) 0 j) h (V 28 3) 1 t) h (V 28 3) 2 k) h (V 28 3) 3 p) h (V 28 3) 4 m) h (V 28 3) 5 (-1)) h (V 28 3) 6 (-1)) h) (args := [.inr (.inr (.inl 29)), .inl (V 28 3), .inl 7, .inl (-1)]) (rest := []) (y2 := 106) rfl rfl rfl (Or.inl rfl) rfl rfl (Nat.le_of_ble_eq_true rfl) rfl rfl (Nat.le_of_ble_eq_true rfl) (Nat.le_of_ble_eq_true rfl) (w_note hh) ?_
    rintro _ _ ⟨rfl, rfl⟩
    refine ok_callA (L := [some (.inr (.inr (.inl 29))), some (.inl j), some (.inl t), some (.inl k), some (.inl p), some (.inl m), some (.inl (V 28 3))]) (M := mm (noteV (noteV (noteV (noteV (noteV (noteV (noteV (noteV (up V 28 3 (w32 (V 28 3 + 1))) h (V 28 3) 0 j) h (V 28 3) 1 t) h (V 28 3) 2 k) h (V 28 3) 3 p) h (V 28 3) 4 m) h (V 28 3) 5 (-1)) h (V 28 3) 6 (-1)) h (V 28 3) 7 (-1)) h) (args := [.inr (.inr (.inl 29)), .inl (V 28 3), .inl 8, .inl 0]) (rest := []) (y2 := 106) rfl rfl rfl (Or.inl rfl) rfl rfl (Nat.le_of_ble_eq_true rfl) rfl rfl (Nat.le_of_ble_eq_true rfl) (Nat.le_of_ble_eq_true rfl) (w_note hh) ?_
    rintro _ _ ⟨rfl, rfl⟩
    exact ok_ireturn (L := [some (.inr (.inr (.inl 29))), some (.inl j), some (.inl t), some (.inl k), some (.inl p), some (.inl m), some (.inl (V 28 3))]) (M := mm (noteV (noteV (noteV (noteV (noteV (noteV (noteV (noteV (noteV (up V 28 3 (w32 (V 28 3 + 1))) h (V 28 3) 0 j) h (V 28 3) 1 t) h (V 28 3) 2 k) h (V 28 3) 3 p) h (V 28 3) 4 m) h (V 28 3) 5 (-1)) h (V 28 3) 6 (-1)) h (V 28 3) 7 (-1)) h (V 28 3) 8 0) h) (x := V 28 3) rfl rfl ⟨rfl, rfl⟩
  exact hz2
theorem ok_cpy {X : Xs} {d y b : Nat} {s : Fr} {ops : List Instr} {L : List (Option AV)} {S : List AV} {M : Mm} {Q : Mm → Option AV → Prop} {k dp sp : Int} {p q b1 n1 n2 : Nat} (hd : 1 ≤ d) (hb : blkOf y b = some (ops, .invokedynamic 0, [b1])) (hr : runB X ops s = some (L, .inl k :: .inl dp :: .inr (.inr (.inl (q + 1))) :: .inl sp :: .inr (.inr (.inl (p + 1))) :: S, M)) (hw : catS S ≤ 8) (hpq : p ≠ q) (hk : 1 ≤ k) (hs : 0 ≤ sp) (hdp : 0 ≤ dp) (e1 : gl M.2.2 p = some (100, n1)) (h1 : sp + k ≤ (n1 : Int)) (e2 : gl M.2.2 q = some (100, n2)) (h2 : dp + k ≤ (n2 : Int)) (kk : Ok X d y b1 (L, S, (upR M.1 q (cpy (M.1 p) (M.1 q) sp.toNat dp.toNat k.toNat), M.2.1, M.2.2)) Q) : Ok X d y b s Q :=
  Ok.of hb hr (fun rec => by
    show (if 1 ≤ d ∧ catS S ≤ 8 ∧ p + 1 ≠ q + 1 ∧ 1 ≤ k ∧ 0 ≤ sp ∧ 0 ≤ dp ∧ aidx 100 (p + 1) (sp + k - 1) M = true ∧ aidx 100 (q + 1) (dp + k - 1) M = true then _ else none) = _
    rw [if_pos ⟨hd, hw, fun e => hpq (Nat.succ.inj e), hk, hs, hdp, aidx_of e1 (by omega) (by omega), aidx_of e2 (by omega) (by omega)⟩]
    rfl) kk
theorem gl_apl {α : Type} {l r : List α} {k : Nat} {a : α} (h : gl l k = some a) : gl (l ++ r) k = some a := by
  rw [gl_get] at h ⊢
  rw [List.getElem?_append_left (List.getElem?_eq_some_iff.mp h).1]; exact h
theorem gl_end {α : Type} {l : List α} {a : α} {n : Nat} (h : n = l.length) : gl (l ++ [a]) n = some a := by
  subst h
  rw [gl_get, List.getElem?_append_right (Nat.le_refl _), Nat.sub_self]; rfl
set_option maxRecDepth 20000 in
set_option maxHeartbeats 4000000 in
theorem w_copy {X : Xs} {d : Nat} {M : Mm} {id n n2 : Nat} (hk : gl M.2.2 id = some (100, n)) (hn : 1 ≤ n) (hn2 : n < n2) (hb : n2 ≤ 1000000) : Ok X (d + 2) 113 0 ([some (.inr (.inr (.inl (id + 1)))), some (.inl (n2 : Int)), none], [], M) (fun M' r => M' = (upR (zr M.1 M.2.2.length) M.2.2.length (cpy (M.1 id) (fun _ => 0) 0 0 n), zrG M.2.1 M.2.2.length, M.2.2 ++ [(100, n2)]) ∧ r = some (.inr (.inr (.inl (M.2.2.length + 1))))) := by
  have hid : id < M.2.2.length := gl_lt hk
  refine ok_alen (id := id) (n := n) (L := [some (.inr (.inr (.inl (id + 1)))), some (.inl (n2 : Int)), none]) (S := [.inl (n2 : Int)]) (M := M) rfl rfl hk ?_
  refine ok_ic_ne (x := (n2 : Int)) (u := (n : Int)) (L := [some (.inr (.inr (.inl (id + 1)))), some (.inl (n2 : Int)), none]) (S := []) (M := M) rfl rfl (fun _ => ?_) (fun c => absurd c (by omega))
  have c9 : (Nat.ble 100 100 && (decide ((0 : Int) ≤ (n2 : Int)) && decide ((n2 : Int) ≤ 1000000))) = true := by
    rw [decide_eq_true (by omega), decide_eq_true (by omega)]; rfl
  have e9 : op1 X (.newarray .int) ([some (.inr (.inr (.inl (id + 1)))), some (.inl (n2 : Int)), none]) [.inl (n2 : Int)] M = some ([some (.inr (.inr (.inl (id + 1)))), some (.inl (n2 : Int)), none], [.inr (.inr (.inl (M.2.2.length + 1)))], (zr M.1 M.2.2.length, zrG M.2.1 M.2.2.length, M.2.2 ++ [(100, n2)])) := by
    unfold op1
    simp only [c9, newA, atK, Int.toNat_natCast]
  refine ok_alen (id := id) (n := n) (L := [some (.inr (.inr (.inl (id + 1)))), some (.inl (n2 : Int)), some (.inr (.inr (.inl (M.2.2.length + 1))))]) (S := [.inl 0, .inr (.inr (.inl (M.2.2.length + 1))), .inl 0, .inr (.inr (.inl (id + 1)))]) (M := (zr M.1 M.2.2.length, zrG M.2.1 M.2.2.length, M.2.2 ++ [(100, n2)])) rfl ?_ (gl_apl hk) ?_
  · rw [runB_2 (u := ([some (.inr (.inr (.inl (id + 1)))), some (.inl (n2 : Int)), none], [.inl (n2 : Int)], M)) rfl, runB_2 e9]; rfl
  refine ok_mmin (u := (n : Int)) (v := (n2 : Int)) (L := [some (.inr (.inr (.inl (id + 1)))), some (.inl (n2 : Int)), some (.inr (.inr (.inl (M.2.2.length + 1))))]) (S := [.inl 0, .inr (.inr (.inl (M.2.2.length + 1))), .inl 0, .inr (.inr (.inl (id + 1)))]) (M := (zr M.1 M.2.2.length, zrG M.2.1 M.2.2.length, M.2.2 ++ [(100, n2)])) rfl rfl rfl (Nat.le_of_ble_eq_true rfl) ?_
  have hm : min (n : Int) (n2 : Int) = (n : Int) := by omega
  refine ok_cpy (k := min (n : Int) (n2 : Int)) (dp := 0) (sp := 0) (p := id) (q := M.2.2.length) (n1 := n) (n2 := n2) (L := [some (.inr (.inr (.inl (id + 1)))), some (.inl (n2 : Int)), some (.inr (.inr (.inl (M.2.2.length + 1))))]) (S := []) (M := (zr M.1 M.2.2.length, zrG M.2.1 M.2.2.length, M.2.2 ++ [(100, n2)])) (by omega) rfl rfl (Nat.le_of_ble_eq_true rfl) (by omega) (by omega) (by omega) (by omega) (gl_apl hk) (by omega) (gl_end rfl) (by omega) ?_
  refine ok_areturn (L := [some (.inr (.inr (.inl (id + 1)))), some (.inl (n2 : Int)), some (.inr (.inr (.inl (M.2.2.length + 1))))]) (r := M.2.2.length) rfl rfl ⟨?_, rfl⟩
  rw [hm]
  refine Prod.ext ?_ rfl
  funext a b
  show (if a = M.2.2.length then cpy (zr M.1 M.2.2.length id) (zr M.1 M.2.2.length M.2.2.length) (0 : Int).toNat (0 : Int).toNat (n : Int).toNat b else zr M.1 M.2.2.length a b) = (if a = M.2.2.length then cpy (M.1 id) (fun _ => 0) 0 0 n b else zr M.1 M.2.2.length a b)
  split
  · unfold cpy zr
    rw [if_neg (show ¬ id = M.2.2.length by omega), if_pos rfl]
    rfl
  · rfl
theorem gl_sl_ne {α : Type} (l : List α) (k j : Nat) (v : α) (h : j ≠ k) : gl (sl l k v) j = gl l j := by
  induction l generalizing k j with
  | nil => rfl
  | cons a l ih =>
    cases k with
    | zero =>
      cases j with
      | zero => exact absurd rfl h
      | succ j => rfl
    | succ k =>
      cases j with
      | zero => rfl
      | succ j => exact ih k j (fun e => h (by rw [e]))
theorem GT_sl (r o : Nat) : GT r o = sl (GT 0 0) 28 [r + 1, o + 1, 0, 0] := rfl
theorem G0_ne {r o i : Nat} (h : i ≠ 28) (k : Nat) : G0 r o i k = G0 0 0 i k := by
  unfold G0
  rw [GT_sl, gl_sl_ne _ _ _ _ h]
theorem G0_hi {r o i : Nat} (h : 123 ≤ i) (k : Nat) : G0 r o i k = 0 := by
  unfold G0
  have : gl (GT r o) i = none := by
    rw [gl_get, List.getElem?_eq_none_iff]
    exact Nat.le_trans (Nat.le_of_ble_eq_true rfl) h
  rw [this]
theorem hg_len {g : Nat} (h : g ≤ 9) : (K0 ++ (hg g).2.2).length = 123 + 2 * g ∧ (hg g).2.2.length = 2 * g :=
  g_10 (P := fun g => (K0 ++ (hg g).2.2).length = 123 + 2 * g ∧ (hg g).2.2.length = 2 * g) ⟨rfl, rfl⟩ ⟨rfl, rfl⟩ ⟨rfl, rfl⟩ ⟨rfl, rfl⟩ ⟨rfl, rfl⟩ ⟨rfl, rfl⟩ ⟨rfl, rfl⟩ ⟨rfl, rfl⟩ ⟨rfl, rfl⟩ ⟨rfl, rfl⟩ h
theorem zrG0 {r o n : Nat} (h : 123 ≤ n) : zrG (G0 r o) n = G0 r o := by
  funext i k
  unfold zrG
  split
  · next e => subst e; rw [G0_hi h]
  · rfl
theorem upG1 (r o x : Nat) : upG (G0 r o) 28 1 (x + 1) = G0 r x := by
  funext i k
  unfold upG
  by_cases hi : i = 28
  · subst hi
    rw [if_pos rfl]
    match k with
    | 0 => rfl
    | 1 => rfl
    | 2 => rfl
    | 3 => rfl
    | k + 4 => rfl
  · exact (if_neg hi).trans ((G0_ne hi k).trans (G0_ne hi k).symm)
theorem upG0 (r o x : Nat) : upG (G0 r o) 28 0 (x + 1) = G0 x o := by
  funext i k
  unfold upG
  by_cases hi : i = 28
  · subst hi
    rw [if_pos rfl]
    match k with
    | 0 => rfl
    | 1 => rfl
    | 2 => rfl
    | 3 => rfl
    | k + 4 => rfl
  · exact (if_neg hi).trans ((G0_ne hi k).trans (G0_ne hi k).symm)
theorem oN_up {g : Nat} (h : g ≤ 8) : 1 ≤ oN g ∧ oN g < oN (g + 1) ∧ oN (g + 1) ≤ 17280 ∧ min (17280 : Int) (w32 (2 * (oN g : Int))) = (oN (g + 1) : Int) ∧ (hg g).1 < 123 + 2 * g ∧ (hg g).2.1 < 123 + 2 * g := by
  have : g = 0 ∨ g = 1 ∨ g = 2 ∨ g = 3 ∨ g = 4 ∨ g = 5 ∨ g = 6 ∨ g = 7 ∨ g = 8 := by omega
  rcases this with rfl | rfl | rfl | rfl | rfl | rfl | rfl | rfl | rfl <;> decide +kernel
theorem upR_ap (V : VV) (a : Nat) (f : Nat → Int) (i j : Nat) : upR V a f i j = if i = a then f j else V i j := rfl
theorem zr_ap (V : VV) (a i j : Nat) : zr V a i j = if i = a then 0 else V i j := rfl
theorem cpy_ap (f g : Nat → Int) (a b n k : Nat) : cpy f g a b n k = if b ≤ k ∧ k < b + n then f (a + (k - b)) else g k := rfl
theorem w_copy2 {X : Xs} {d : Nat} {V : VV} {G : Nat → Nat → Nat} {K : List (Nat × Nat)} {id n n2 len : Nat} (hk : gl K id = some (100, n)) (hn : 1 ≤ n) (hn2 : n < n2) (hb : n2 ≤ 1000000) (hl : K.length = len) (hz : zrG G len = G) : Ok X (d + 2) 113 0 ([some (.inr (.inr (.inl (id + 1)))), some (.inl (n2 : Int)), none], [], (V, G, K)) (fun M' r => M' = (upR (zr V len) len (cpy (V id) (fun _ => 0) 0 0 n), G, K ++ [(100, n2)]) ∧ r = some (.inr (.inr (.inl (len + 1))))) := by
  subst hl
  refine (w_copy (M := (V, G, K)) hk hn hn2 hb).imp (fun M r z => ⟨?_, z.2⟩)
  rw [z.1]
  show (_, zrG G K.length, _) = _
  rw [hz]
theorem growE {V : VV} {g : Nat} (h : g ≤ 8) : (upR (zr (upR (zr V (123 + 2 * g)) (123 + 2 * g) (cpy (V (hg g).2.1) (fun _ => 0) 0 0 (oN g))) ((123 + 2 * g) + 1)) ((123 + 2 * g) + 1) (cpy ((upR (zr V (123 + 2 * g)) (123 + 2 * g) (cpy (V (hg g).2.1) (fun _ => 0) 0 0 (oN g))) (hg g).1) (fun _ => 0) 0 0 (9 * oN g))) = growV V (hg g) (hg (g + 1)) := by
  obtain ⟨-, -, -, -, h1, h2⟩ := oN_up h
  obtain ⟨h3, h4⟩ := rowN_hg (show g ≤ 9 by omega)
  funext a b
  unfold growV
  show _ = (if a = (123 + 2 * g) then (if b < ordN (hg g) then V (hg g).2.1 b else 0) else if a = 124 + 2 * g then (if b < rowN (hg g) then V (hg g).1 b else 0) else V a b)
  rw [h3, h4]
  simp only [upR_ap, zr_ap, cpy_ap]
  by_cases e1 : a = (123 + 2 * g)
  · subst e1
    rw [if_neg (by omega), if_neg (by omega), if_pos rfl, if_pos rfl]
    by_cases e2 : b < oN g
    · rw [if_pos (by omega), if_pos e2, show 0 + (b - 0) = b by omega]
    · rw [if_neg (by omega), if_neg e2]
  · by_cases e3 : a = 124 + 2 * g
    · subst e3
      rw [if_pos (by omega), if_neg e1, if_pos rfl]
      by_cases e2 : b < 9 * oN g
      · rw [if_pos (by omega), if_pos e2, show 0 + (b - 0) = b by omega, if_neg (by omega), if_neg (by omega)]
      · rw [if_neg (by omega), if_neg e2]
    · rw [if_neg (by omega), if_neg (by omega), if_neg e1, if_neg e1, if_neg e1, if_neg e3]
set_option maxRecDepth 20000 in
set_option maxHeartbeats 4000000 in
theorem w_grow {X : Xs} {d : Nat} {V : VV} {g : Nat} {j t k p m : Int} {Q : Mm → Option AV → Prop} (h : g ≤ 8) (kk : Ok X (d + 4) 112 9 ([some (.inr (.inr (.inl 29))), some (.inl j), some (.inl t), some (.inl k), some (.inl p), some (.inl m), some (.inl (oN (g + 1) : Int))], [], mm (growV V (hg g) (hg (g + 1))) (hg (g + 1))) Q) : Ok X (d + 4) 112 4 ([some (.inr (.inr (.inl 29))), some (.inl j), some (.inl t), some (.inl k), some (.inl p), some (.inl m), none], [], mm V (hg g)) Q := by
  obtain ⟨n1, n2, n3, n4, n5, n6⟩ := oN_up h
  obtain ⟨h3, h4⟩ := rowN_hg (show g ≤ 9 by omega)
  have hH : HOK (hg g) := ⟨g, by omega, rfl⟩
  obtain ⟨l1, l2⟩ := hg_len (show g ≤ 9 by omega)
  have ko := hH.ord
  have kr := hH.row
  rw [h4] at ko
  rw [h3] at kr
  refine ok_alen (id := (hg g).2.1) (n := oN g) (L := [some (.inr (.inr (.inl 29))), some (.inl j), some (.inl t), some (.inl k), some (.inl p), some (.inl m), none]) (S := [.inl 2, .inl 17280]) (M := mm V (hg g)) rfl rfl ko ?_
  refine ok_mmin (u := 17280) (v := w32 (2 * (oN g : Int))) (L := [some (.inr (.inr (.inl 29))), some (.inl j), some (.inl t), some (.inl k), some (.inl p), some (.inl m), none]) (S := []) (M := mm V (hg g)) rfl rfl rfl (Nat.le_of_ble_eq_true rfl) ?_
  rw [n4]
  refine ok_callA (L := [some (.inr (.inr (.inl 29))), some (.inl j), some (.inl t), some (.inl k), some (.inl p), some (.inl m), some (.inl (oN (g + 1) : Int))]) (S := [.inl (oN (g + 1) : Int), .inr (.inr (.inl ((hg g).2.1 + 1))), .inr (.inr (.inl 29))]) (M := mm V (hg g)) (args := [.inr (.inr (.inl ((hg g).2.1 + 1))), .inl (oN (g + 1) : Int)]) (rest := [.inr (.inr (.inl 29))]) (y2 := 113) rfl rfl rfl (Or.inr (Or.inl rfl)) rfl rfl (Nat.le_of_ble_eq_true rfl) rfl rfl (Nat.le_of_ble_eq_true rfl) (Nat.le_of_ble_eq_true rfl) (w_copy2 (len := (123 + 2 * g)) ko n1 n2 (by omega) l1 (zrG0 (by omega))) ?_
  rintro _ _ ⟨rfl, rfl⟩
  have q1 := upG1 (hg g).1 (hg g).2.1 (123 + 2 * g)
  refine ok_callA (L := [some (.inr (.inr (.inl 29))), some (.inl j), some (.inl t), some (.inl k), some (.inl p), some (.inl m), some (.inl (oN (g + 1) : Int))]) (S := [.inl (w32 ((oN (g + 1) : Int) * 9)), .inr (.inr (.inl ((hg g).1 + 1))), .inr (.inr (.inl 29))]) (M := ((upR (zr V (123 + 2 * g)) (123 + 2 * g) (cpy (V (hg g).2.1) (fun _ => 0) 0 0 (oN g))), G0 (hg g).1 (123 + 2 * g), (K0 ++ (hg g).2.2 ++ [(100, oN (g + 1))]))) (args := [.inr (.inr (.inl ((hg g).1 + 1))), .inl ((9 * oN (g + 1) : Nat) : Int)]) (rest := [.inr (.inr (.inl 29))]) (y2 := 113) rfl rfl ?_ (Or.inr (Or.inl rfl)) ?_ rfl (Nat.le_of_ble_eq_true rfl) rfl rfl (Nat.le_of_ble_eq_true rfl) (Nat.le_of_ble_eq_true rfl) (w_copy2 (id := (hg g).1) (n := 9 * oN g) (n2 := 9 * oN (g + 1)) (len := (123 + 2 * g) + 1) (gl_apl kr) (by omega) (by omega) (by omega) (by rw [List.length_append, l1]; rfl) (zrG0 (by omega))) ?_
  · rw [← q1]; rfl
  · rw [show ((9 * oN (g + 1) : Nat) : Int) = w32 ((oN (g + 1) : Int) * 9) by rw [w32_id (by omega) (by omega)]; omega]; rfl
  rintro _ _ ⟨rfl, rfl⟩
  have q2 := upG0 (hg g).1 (123 + 2 * g) ((123 + 2 * g) + 1)
  refine ok_thru (L := [some (.inr (.inr (.inl 29))), some (.inl j), some (.inl t), some (.inl k), some (.inl p), some (.inl m), some (.inl (oN (g + 1) : Int))]) (S := []) (M := ((upR (zr (upR (zr V (123 + 2 * g)) (123 + 2 * g) (cpy (V (hg g).2.1) (fun _ => 0) 0 0 (oN g))) ((123 + 2 * g) + 1)) ((123 + 2 * g) + 1) (cpy ((upR (zr V (123 + 2 * g)) (123 + 2 * g) (cpy (V (hg g).2.1) (fun _ => 0) 0 0 (oN g))) (hg g).1) (fun _ => 0) 0 0 (9 * oN g))), G0 ((123 + 2 * g) + 1) (123 + 2 * g), ((K0 ++ (hg g).2.2 ++ [(100, oN (g + 1))]) ++ [(100, 9 * oN (g + 1))]))) rfl (by rw [← q2]; rfl) ?_
  refine Ok.at kk ?_
  refine congrArg (fun z : Mm => (([some (.inr (.inr (.inl 29))), some (.inl j), some (.inl t), some (.inl k), some (.inl p), some (.inl m), some (.inl (oN (g + 1) : Int))] : List (Option AV)), ([] : List AV), z)) ?_
  rw [growE h]
  show (_, _, K0 ++ (hg g).2.2 ++ [(100, oN (g + 1))] ++ [(100, 9 * oN (g + 1))]) = (_, G0 (124 + 2 * g) (123 + 2 * g), K0 ++ (kxG g ++ [(100, oN (g + 1)), (100, 9 * oN (g + 1))]))
  have hk2 : (hg g).2.2 = kxG g := by cases g <;> rfl
  rw [hk2, List.append_assoc, List.append_assoc, show 123 + 2 * g + 1 = 124 + 2 * g by omega]
  rfl
set_option maxRecDepth 20000 in
set_option maxHeartbeats 4000000 in
theorem s_Loads_add {X : Xs} {d : Nat} {V : VV} {h : HP} {j t k p m : Int} {q : (VV × HP) × Int} (hh : HOK h) (e : f_Loads_add V h j t k p m = q) : Ok X (d + 4) 112 0 ([some (.inr (.inr (.inl 29))), some (.inl j), some (.inl t), some (.inl k), some (.inl p), some (.inl m), none], [], mm V h) (fun M r => M = mm q.1.1 q.1.2 ∧ HOK q.1.2 ∧ r = some (.inl q.2)) := by
  unfold f_Loads_add at e
  refine ok_ic_lt (x := V 28 3) (u := 17280) (L := [some (.inr (.inr (.inl 29))), some (.inl j), some (.inl t), some (.inl k), some (.inl p), some (.inl m), none]) (S := []) (M := mm V h) rfl rfl (fun c1 => ?_) (fun c1 => ?_)
  · rw [if_neg (by omega)] at e
    refine ok_alen (id := h.2.1) (n := ordN h) (L := [some (.inr (.inr (.inl 29))), some (.inl j), some (.inl t), some (.inl k), some (.inl p), some (.inl m), none]) (S := [.inl (V 28 3)]) (M := mm V h) rfl rfl hh.ord ?_
    refine ok_ic_lt (x := V 28 3) (u := (ordN h : Int)) (L := [some (.inr (.inr (.inl 29))), some (.inl j), some (.inl t), some (.inl k), some (.inl p), some (.inl m), none]) (S := []) (M := mm V h) rfl rfl (fun c2 => ?_) (fun c2 => ?_)
    · rw [if_pos c2] at e
      subst e
      exact (w_addT (d := d + 1) (Or.inl rfl) hh).imp (fun M r z => ⟨z.1, hh, z.2⟩)
    · rw [if_neg (by omega)] at e
      obtain ⟨g, hg9, rfl⟩ := hh
      obtain ⟨h3, h4⟩ := rowN_hg hg9
      have hg8 : g ≤ 8 := by
        apply Nat.le_of_not_lt
        intro c3
        have : g = 9 := by omega
        subst this
        rw [h4, show oN 9 = 17280 from rfl] at c2
        omega
      have hH : HOK (hg (g + 1)) := ⟨g + 1, by omega, rfl⟩
      obtain ⟨l1, l2⟩ := hg_len hg9
      rw [l2, show 2 * g / 2 + 1 = g + 1 by omega] at e
      subst e
      refine w_grow hg8 ?_
      have e28 : growV V (hg g) (hg (g + 1)) 28 3 = V 28 3 := by
        unfold growV
        show (if 28 = 123 + 2 * g then _ else if 28 = 124 + 2 * g then _ else V 28 3) = V 28 3
        rw [if_neg (by omega), if_neg (by omega)]
      have := w_addT (X := X) (d := d + 1) (V := growV V (hg g) (hg (g + 1))) (j := j) (t := t) (k := k) (p := p) (m := m) (z := some (.inl (oN (g + 1) : Int))) (Or.inr ⟨_, rfl⟩) hH
      rw [e28] at this
      exact this.imp (fun M r z => ⟨z.1, hH, z.2⟩)
  · rw [if_pos c1] at e
    subst e
    exact ok_ireturn (L := [some (.inr (.inr (.inl 29))), some (.inl j), some (.inl t), some (.inl k), some (.inl p), some (.inl m), none]) (M := mm V h) (x := -1) rfl rfl ⟨rfl, hh, rfl⟩
