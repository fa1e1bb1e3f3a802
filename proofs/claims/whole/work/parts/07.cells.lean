/-! which cell is which: the cells as the two constructors lay them, and how the walks name the memory (printed by wip/tools) -/
def K0 : List (Nat × Nat) := [(11, 0), (7, 0), (100, 12), (100, 12), (100, 12), (100, 732), (100, 3), (100, 3), (100, 36), (100, 36), (5, 0), (100, 3), (100, 3), (100, 3), (100, 3), (10, 0), (9, 0), (100, 400), (2, 0), (100, 40), (100, 40), (100, 40), (100, 40), (100, 40), (100, 12960), (6, 0), (9, 0), (100, 100), (3, 0), (100, 576), (100, 64), (0, 0), (100, 36), (100, 36), (100, 36), (100, 180), (100, 21636), (1, 0), (100, 3), (100, 3), (100, 3), (100, 3), (100, 16), (100, 16), (100, 16), (100, 36), (4, 0), (100, 6), (100, 36), (8, 0), (100, 6), (100, 6), (100, 3), (100, 3), (100, 3), (100, 6), (100, 108), (100, 36), (100, 36), (100, 3), (100, 3), (100, 21), (12, 0), (100, 12), (100, 12), (100, 3), (100, 3), (100, 732), (100, 12), (100, 36), (100, 36), (100, 3), (100, 3), (100, 3), (100, 3), (100, 6), (100, 6), (100, 3), (100, 3), (100, 3), (100, 400), (100, 80), (100, 80), (100, 80), (100, 80), (100, 80), (100, 16), (100, 16), (100, 16), (100, 16), (100, 16), (100, 3), (100, 3), (100, 3), (100, 36), (100, 36), (100, 36), (100, 36), (100, 36), (100, 17400), (100, 17400), (100, 17400), (100, 17400), (100, 17400), (100, 17400), (100, 17400), (100, 17400), (103, 17400), (100, 17400), (102, 21636), (100, 5), (100, 5), (100, 108), (100, 108), (100, 36), (100, 36), (100, 36), (100, 6), (100, 256), (100, 256), (100, 128), (101, 128), (100, 36)]
def GT (r o : Nat) : List (List Nat) := [[2, 11, 16, 17, 19, 26, 29, 32, 38, 47, 50, 59, 60, 61, 62, 0, 0, 0], [3, 4, 5, 6, 7, 8, 9, 10, 0, 0, 0, 0, 0, 0, 0, 0], [], [], [], [], [], [], [], [], [12, 13, 14, 15, 0, 0, 0], [], [], [], [], [0, 0, 0, 0, 0, 0, 0, 0, 0], [18, 0, 0, 0, 0, 0, 0, 0], [], [20, 21, 22, 23, 24, 25, 0, 0, 0, 0], [], [], [], [], [], [], [27, 0, 0, 0, 0], [28, 0, 0, 0, 0, 0, 0, 0], [], [r + 1, o + 1, 0, 0], [], [], [33, 34, 35, 36, 37, 2, 16], [], [], [], [], [], [11, 19, 29, 2, 0, 0, 0, 39, 40, 41, 42, 43, 44, 45, 46], [], [], [], [], [], [], [], [], [48, 49, 0, 2, 16, 38, 32, 0, 0, 0, 0, 0, 0, 0, 0, 0], [], [], [51, 52, 53, 54, 55, 56, 57, 58, 2, 32, 0, 0], [], [], [], [], [], [], [], [], [], [], [], [], [0, 64, 65, 0, 0, 0, 0, 0, 0, 66, 67, 68, 69, 0, 0, 70, 71, 0, 72, 73, 74, 75, 0, 0, 0, 0, 0, 0, 0, 0, 0, 0, 0, 0, 76, 77, 78, 79, 80, 81, 0, 0, 0, 0, 0, 0, 0, 0, 0, 0, 0, 0, 82, 83, 84, 85, 86, 0, 87, 88, 89, 90, 91, 0, 92, 93, 94, 95, 96, 97, 98, 99, 0, 0, 0, 0, 0, 0, 0, 0, 0, 100, 101, 102, 103, 104, 105, 106, 107, 108, 109, 0, 0, 0, 0, 0, 110, 111, 112, 113, 114, 115, 116, 117, 118, 0, 119, 120, 0, 0, 0, 0, 121, 122, 123], [], [], [], [], [], [], [], [], [], [], [], [], [], [], [], [], [], [], [], [], [], [], [], [], [], [], [], [], [], [], [], [], [], [], [], [], [], [], [], [], [], [], [], [], [], [], [], [], [], [], [], [], [], [], [], [], [], [], [], []]
def G0 (r o : Nat) : Nat → Nat → Nat := fun i k => match gl (GT r o) i with
  | none => 0
  | some l => match gl l k with
    | none => 0
    | some v => v
/-- the memory: numbers V; where the two rows of loads lie now, and the cells that were made behind the first -/
abbrev mm (V : Nat → Nat → Int) (h : Nat × Nat × List (Nat × Nat)) : Mm := (V, G0 h.1 h.2.1, K0 ++ h.2.2)
abbrev HP : Type := Nat × Nat × List (Nat × Nat)
def atV (V : Nat → Nat → Int) (id n : Nat) (i : Int) : Int := if 0 ≤ i ∧ i < (n : Int) then V id i.toNat else 0
def setV (V : Nat → Nat → Int) (id n : Nat) (i x : Int) : Nat → Nat → Int := if 0 ≤ i ∧ i < (n : Int) then up V id i.toNat x else V
def isFromV (v lo hi : Int) : Int := if lo ≤ v ∧ v ≤ hi then 1 else 0
def cutV (v d : Int) : Int := if d = 0 then 0 else w32 (v.tdiv d)
set_option maxRecDepth 20000 in
set_option maxHeartbeats 4000000 in
theorem s_Br_at {X : Xs} {d : Nat} {V : Nat → Nat → Int} {h : Nat × Nat × List (Nat × Nat)} {id n : Nat} {i : Int} (hk : gl (K0 ++ h.2.2) id = some (100, n)) : Ok X (d + 1) 21 0 ([some (.inr (.inr (.inl (id + 1)))), some (.inl i)], [], mm V h) (fun M r => M = mm V h ∧ r = some (.inl (atV V id n i))) := by
  let QQ : Mm → Option AV → Prop := fun M r => M = mm V h ∧ r = some (.inl (atV V id n i))
  show Ok X (d + 1) 21 0 ([some (.inr (.inr (.inl (id + 1)))), some (.inl i)], [], mm V h) QQ
  refine ok_if_lt (x := i) (L := [some (.inr (.inr (.inl (id + 1)))), some (.inl i)]) (S := []) (M := mm V h) rfl rfl (fun c1 => ?_) (fun c1 => ?_)
  ·
    refine ok_thru (L := [some (.inr (.inr (.inl (id + 1)))), some (.inl i)]) (S := [.inl 0]) (M := mm V h) rfl rfl ?_
    refine ok_ireturn (L := [some (.inr (.inr (.inl (id + 1)))), some (.inl i)]) (M := mm V h) (x := 0) rfl rfl  ?_
    refine ⟨rfl, congrArg (fun z => some (Sum.inl z)) ?_⟩
    unfold atV
    rw [if_neg (by omega)]
  ·
    refine ok_alen (id := id) (n := n) (L := [some (.inr (.inr (.inl (id + 1)))), some (.inl i)]) (S := [.inl i]) (M := mm V h) rfl rfl hk ?_
    refine ok_ic_ge (x := i) (u := (n : Int)) (L := [some (.inr (.inr (.inl (id + 1)))), some (.inl i)]) (S := []) (M := mm V h) rfl rfl (fun c2 => ?_) (fun c2 => ?_)
    ·
      refine ok_thru (L := [some (.inr (.inr (.inl (id + 1)))), some (.inl i)]) (S := [.inl 0]) (M := mm V h) rfl rfl ?_
      refine ok_ireturn (L := [some (.inr (.inr (.inl (id + 1)))), some (.inl i)]) (M := mm V h) (x := 0) rfl rfl  ?_
      refine ⟨rfl, congrArg (fun z => some (Sum.inl z)) ?_⟩
      unfold atV
      rw [if_neg (by omega)]
    ·
      refine ok_iald (i := i) (id := id) (n := n) (L := [some (.inr (.inr (.inl (id + 1)))), some (.inl i)]) (S := []) (M := mm V h) rfl rfl hk ?_ ?_ ?_
      · omega
      · omega
      refine ok_goto (L := [some (.inr (.inr (.inl (id + 1)))), some (.inl i)]) (S := [.inl (V id i.toNat)]) (M := mm V h) rfl rfl ?_
      refine ok_ireturn (L := [some (.inr (.inr (.inl (id + 1)))), some (.inl i)]) (M := mm V h) (x := V id i.toNat) rfl rfl  ?_
      refine ⟨rfl, congrArg (fun z => some (Sum.inl z)) ?_⟩
      unfold atV
      rw [if_pos (by omega)]
set_option maxRecDepth 20000 in
set_option maxHeartbeats 4000000 in
theorem s_Br_set {X : Xs} {d : Nat} {V : Nat → Nat → Int} {h : Nat × Nat × List (Nat × Nat)} {id n : Nat} {i x : Int} (hk : gl (K0 ++ h.2.2) id = some (100, n)) : Ok X (d + 1) 9 0 ([some (.inr (.inr (.inl (id + 1)))), some (.inl i), some (.inl x)], [], mm V h) (fun M r => M = mm (setV V id n i x) h ∧ r = none) := by
  let QQ : Mm → Option AV → Prop := fun M r => M = mm (setV V id n i x) h ∧ r = none
  show Ok X (d + 1) 9 0 ([some (.inr (.inr (.inl (id + 1)))), some (.inl i), some (.inl x)], [], mm V h) QQ
  refine ok_if_lt (x := i) (L := [some (.inr (.inr (.inl (id + 1)))), some (.inl i), some (.inl x)]) (S := []) (M := mm V h) rfl rfl (fun c1 => ?_) (fun c1 => ?_)
  ·
    refine ok_return (L := [some (.inr (.inr (.inl (id + 1)))), some (.inl i), some (.inl x)]) (M := mm V h) rfl rfl  ?_
    refine ⟨?_, rfl⟩
    unfold setV
    rw [if_neg (by omega)]
  ·
    refine ok_alen (id := id) (n := n) (L := [some (.inr (.inr (.inl (id + 1)))), some (.inl i), some (.inl x)]) (S := [.inl i]) (M := mm V h) rfl rfl hk ?_
    refine ok_ic_ge (x := i) (u := (n : Int)) (L := [some (.inr (.inr (.inl (id + 1)))), some (.inl i), some (.inl x)]) (S := []) (M := mm V h) rfl rfl (fun c2 => ?_) (fun c2 => ?_)
    ·
      refine ok_return (L := [some (.inr (.inr (.inl (id + 1)))), some (.inl i), some (.inl x)]) (M := mm V h) rfl rfl  ?_
      refine ⟨?_, rfl⟩
      unfold setV
      rw [if_neg (by omega)]
    ·
      refine ok_iast (i := i) (v := x) (id := id) (n := n) (L := [some (.inr (.inr (.inl (id + 1)))), some (.inl i), some (.inl x)]) (S := []) (M := mm V h) rfl rfl hk ?_ ?_ ?_
      · omega
      · omega
      refine ok_return (L := [some (.inr (.inr (.inl (id + 1)))), some (.inl i), some (.inl x)]) (M := mm (up V id i.toNat x) h) rfl rfl  ?_
      refine ⟨?_, rfl⟩
      unfold setV
      rw [if_pos (by omega)]
set_option maxRecDepth 20000 in
set_option maxHeartbeats 4000000 in
theorem s_Br_isFrom {X : Xs} {d : Nat} {V : Nat → Nat → Int} {h : Nat × Nat × List (Nat × Nat)} {v lo hi : Int} : Ok X (d + 1) 16 0 ([some (.inl v), some (.inl lo), some (.inl hi)], [], mm V h) (fun M r => M = mm V h ∧ r = some (.inl (isFromV v lo hi))) := by
  let QQ : Mm → Option AV → Prop := fun M r => M = mm V h ∧ r = some (.inl (isFromV v lo hi))
  show Ok X (d + 1) 16 0 ([some (.inl v), some (.inl lo), some (.inl hi)], [], mm V h) QQ
  refine ok_ic_lt (x := v) (u := lo) (L := [some (.inl v), some (.inl lo), some (.inl hi)]) (S := []) (M := mm V h) rfl rfl (fun c1 => ?_) (fun c1 => ?_)
  ·
    refine ok_thru (L := [some (.inl v), some (.inl lo), some (.inl hi)]) (S := [.inl 0]) (M := mm V h) rfl rfl ?_
    refine ok_zreturn (L := [some (.inl v), some (.inl lo), some (.inl hi)]) (M := mm V h) (x := 0) rfl rfl (by first | omega | (show (0:Int) ≤ 0 ∧ (0:Int) < 128; omega) | (left; rfl) | (right; rfl) | assumption) ?_
    refine ⟨rfl, congrArg (fun z => some (Sum.inl z)) ?_⟩
    unfold isFromV
    rw [if_neg (by omega)]
  ·
    refine ok_ic_gt (x := v) (u := hi) (L := [some (.inl v), some (.inl lo), some (.inl hi)]) (S := []) (M := mm V h) rfl rfl (fun c2 => ?_) (fun c2 => ?_)
    ·
      refine ok_thru (L := [some (.inl v), some (.inl lo), some (.inl hi)]) (S := [.inl 0]) (M := mm V h) rfl rfl ?_
      refine ok_zreturn (L := [some (.inl v), some (.inl lo), some (.inl hi)]) (M := mm V h) (x := 0) rfl rfl (by first | omega | (show (0:Int) ≤ 0 ∧ (0:Int) < 128; omega) | (left; rfl) | (right; rfl) | assumption) ?_
      refine ⟨rfl, congrArg (fun z => some (Sum.inl z)) ?_⟩
      unfold isFromV
      rw [if_neg (by omega)]
    ·
      refine ok_goto (L := [some (.inl v), some (.inl lo), some (.inl hi)]) (S := [.inl 1]) (M := mm V h) rfl rfl ?_
      refine ok_zreturn (L := [some (.inl v), some (.inl lo), some (.inl hi)]) (M := mm V h) (x := 1) rfl rfl (by first | omega | (show (0:Int) ≤ 0 ∧ (0:Int) < 128; omega) | (left; rfl) | (right; rfl) | assumption) ?_
      refine ⟨rfl, congrArg (fun z => some (Sum.inl z)) ?_⟩
      unfold isFromV
      rw [if_pos (by omega)]
set_option maxRecDepth 20000 in
set_option maxHeartbeats 4000000 in
theorem s_Br_cut {X : Xs} {d : Nat} {V : Nat → Nat → Int} {h : Nat × Nat × List (Nat × Nat)} {v q : Int} : Ok X (d + 1) 28 0 ([some (.inl v), some (.inl q)], [], mm V h) (fun M r => M = mm V h ∧ r = some (.inl (cutV v q))) := by
  let QQ : Mm → Option AV → Prop := fun M r => M = mm V h ∧ r = some (.inl (cutV v q))
  show Ok X (d + 1) 28 0 ([some (.inl v), some (.inl q)], [], mm V h) QQ
  refine ok_if_ne (x := q) (L := [some (.inl v), some (.inl q)]) (S := []) (M := mm V h) rfl rfl (fun c1 => ?_) (fun c1 => ?_)
  ·
    refine ok_idiv (u := v) (v := q) (L := [some (.inl v), some (.inl q)]) (S := []) (M := mm V h) rfl rfl ?_ ?_
    · omega
    refine ok_ireturn (L := [some (.inl v), some (.inl q)]) (M := mm V h) (x := w32 (v.tdiv q)) rfl rfl  ?_
    refine ⟨rfl, congrArg (fun z => some (Sum.inl z)) ?_⟩
    unfold cutV
    rw [if_neg (by omega)]
  ·
    refine ok_goto (L := [some (.inl v), some (.inl q)]) (S := [.inl 0]) (M := mm V h) rfl rfl ?_
    refine ok_ireturn (L := [some (.inl v), some (.inl q)]) (M := mm V h) (x := 0) rfl rfl  ?_
    refine ⟨rfl, congrArg (fun z => some (Sum.inl z)) ?_⟩
    unfold cutV
    rw [if_pos (by omega)]
