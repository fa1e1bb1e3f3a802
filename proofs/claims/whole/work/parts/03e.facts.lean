/-! facts of the tables by places, as the walk uses them -/
/-- the word kind of a field: 0 int, 1 boolean, 2 long, 3 reference -/
def fk (c k : Nat) : Option Nat := match gl FDL c with
  | some l => gl l k
  | none => none
def gT : List Cond := lw_tbl.filter goodWord
theorem in_gT {w : Cond} (h1 : w ∈ lw_tbl) (h2 : goodWord w = true) : w ∈ gT := List.mem_filter.mpr ⟨h1, h2⟩
theorem at_tb {w : Cond} {i : Nat} (h : tables_1[i]? = some w) : w ∈ lw_tbl := List.mem_append_right _ (List.mem_of_getElem? h)
theorem all_of {α : Type} {l : List α} {p : α → Bool} (h : l.all p = true) {a : α} (ha : a ∈ l) : p a = true := List.all_eq_true.mp h a ha
theorem beq2 {a b c d : Nat} (h : (Nat.beq a b && Nat.beq c d) = true) : a = b ∧ c = d := by
  rw [Bool.and_eq_true] at h
  exact ⟨Nat.eq_of_beq_eq_true h.1, Nat.eq_of_beq_eq_true h.2⟩
theorem fldT_w {o i c k : Nat} (h : fldT o i = some (c, k)) : Cond.fieldLink (cn o) i (cn c) ((cT c).2.1 k).2.1 ((cT c).2.1 k).2.2.1 ∈ gT := by
  obtain ⟨q, hq, e⟩ := Option.map_eq_some_iff.mp h
  have hm := List.mem_of_find?_eq_some hq
  have hp0 := List.find?_some hq
  have hp : (Nat.beq q.1 o && Nat.beq q.2.1 i) = true := hp0
  obtain ⟨e1, e2⟩ := beq2 hp
  have hw := of_decide_eq_true (all_of fll_ok hm)
  obtain ⟨a1, a2, a3, a4, a5⟩ := q
  cases e; subst e1; subst e2
  exact in_gT (at_tb hw) rfl
theorem mthT_w {o i y k : Nat} (h : mthT o i = some (y, k)) : (k = 0 → Cond.methodLink (cn o) i (yn y) ∈ gT) ∧ (k ≠ 0 → Cond.methodLinkNest (cn o) i (yn y) "BlackRoad" ∈ lw_tbl ∧ ∃ q ∈ MLL, q.1 = o ∧ q.2.1 = i ∧ q.2.2.1 = y ∧ q.2.2.2.1 = k) := by
  obtain ⟨q, hq, e⟩ := Option.map_eq_some_iff.mp h
  have hm := List.mem_of_find?_eq_some hq
  have hp0 := List.find?_some hq
  have hp : (Nat.beq q.1 o && Nat.beq q.2.1 i) = true := hp0
  obtain ⟨e1, e2⟩ := beq2 hp
  have hw := of_decide_eq_true (all_of mll_ok hm)
  obtain ⟨a1, a2, a3, a4, a5⟩ := q
  cases e; subst e1; subst e2
  dsimp only at hw
  refine ⟨fun hk => ?_, fun hk => ?_⟩
  · rw [if_pos hk] at hw
    exact in_gT (at_tb hw) rfl
  · rw [if_neg hk] at hw
    exact ⟨at_tb hw, _, hm, rfl, rfl, rfl, rfl⟩
theorem clsT_w {o i c : Nat} (h : clsT o i = some c) : Cond.classLink (cn o) i (cn c) ∈ gT := by
  obtain ⟨q, hq, e⟩ := Option.map_eq_some_iff.mp h
  have hm := List.mem_of_find?_eq_some hq
  have hp0 := List.find?_some hq
  have hp : (Nat.beq q.1 o && Nat.beq q.2.1 i) = true := hp0
  obtain ⟨e1, e2⟩ := beq2 hp
  have hw := of_decide_eq_true (all_of cll_ok hm)
  obtain ⟨a1, a2, a3, a4⟩ := q
  cases e; subst e1; subst e2
  exact in_gT (at_tb hw) rfl
theorem conT_w {o i : Nat} {v : Int} (h : conT o i = some v) : Cond.constant (cn o) i (Int32.ofInt v) ∈ gT := by
  obtain ⟨q, hq, e⟩ := Option.map_eq_some_iff.mp h
  have hm := List.mem_of_find?_eq_some hq
  have hp0 := List.find?_some hq
  have hp : (Nat.beq q.1 o && Nat.beq q.2.1 i) = true := hp0
  obtain ⟨e1, e2⟩ := beq2 hp
  have hw := of_decide_eq_true (all_of kil_ok hm)
  obtain ⟨a1, a2, a3, a4⟩ := q
  cases e; subst e1; subst e2
  exact in_gT (at_tb hw) rfl
theorem conLT_w {o i : Nat} {v : Int} (h : conLT o i = some v) : Cond.constantLong (cn o) i (Int64.ofInt v) ∈ gT := by
  obtain ⟨q, hq, e⟩ := Option.map_eq_some_iff.mp h
  have hm := List.mem_of_find?_eq_some hq
  have hp0 := List.find?_some hq
  have hp : (Nat.beq q.1 o && Nat.beq q.2.1 i) = true := hp0
  obtain ⟨e1, e2⟩ := beq2 hp
  have hw := of_decide_eq_true (all_of kll_ok hm)
  obtain ⟨a1, a2, a3, a4⟩ := q
  cases e; subst e1; subst e2
  exact in_gT (at_tb hw) rfl
theorem objT_w {o i : Nat} (h : objT o i = true) : Cond.methodLink (cn o) i objectInit ∈ gT := by
  obtain ⟨q, hm, hq⟩ := List.any_eq_true.mp h
  obtain ⟨e1, e2⟩ := beq2 hq
  have hw := of_decide_eq_true (all_of obl_ok hm)
  obtain ⟨a1, a2, a3⟩ := q
  subst e1; subst e2
  exact in_gT (at_tb hw) rfl
theorem arcT_w {o i : Nat} (h : arcT o i = true) : Cond.methodLink (cn o) i arraycopyName ∈ gT := by
  obtain ⟨q, hm, hq⟩ := List.any_eq_true.mp h
  obtain ⟨e1, e2⟩ := beq2 hq
  have hw := of_decide_eq_true (all_of acl_ok hm)
  obtain ⟨a1, a2, a3⟩ := q
  subst e1; subst e2
  exact in_gT (at_tb hw) rfl
theorem strT_w {o i j : Nat} (h : strT o i = some j) : (o, i, j) ∈ STL := by
  obtain ⟨q, hq, e⟩ := Option.map_eq_some_iff.mp h
  have hm := List.mem_of_find?_eq_some hq
  have hp0 := List.find?_some hq
  have hp : (Nat.beq q.1 o && Nat.beq q.2.1 i) = true := hp0
  obtain ⟨e1, e2⟩ := beq2 hp
  obtain ⟨a1, a2, a3⟩ := q
  cases e; subst e1; subst e2
  exact hm
theorem cls_hc : ∀ c, c < 13 → vwCl[c]? = some ((cT c).1, (cT c).2.1, (cT c).2.2) := by
  intro c h
  have h2 : c = 0 ∨ c = 1 ∨ c = 2 ∨ c = 3 ∨ c = 4 ∨ c = 5 ∨ c = 6 ∨ c = 7 ∨ c = 8 ∨ c = 9 ∨ c = 10 ∨ c = 11 ∨ c = 12 := by omega
  rcases h2 with rfl | rfl | rfl | rfl | rfl | rfl | rfl | rfl | rfl | rfl | rfl | rfl | rfl <;> rfl
def tyf (c : Nat) : Nat → FieldType := match c with
  | 0 => tyX0
  | 1 => tyX1
  | 2 => tyX2
  | 3 => tyX3
  | 4 => tyX4
  | 5 => tyX5
  | 6 => tyX6
  | 7 => tyX7
  | 8 => tyX8
  | 9 => tyX9
  | 10 => tyX10
  | 11 => tyX11
  | _ => tyX12
theorem tyf_ok : ∀ c, c < 13 → ∀ k, k < (cT c).2.2 → parseFieldDescriptor ((cT c).2.1 k).2.2.1 = some (tyf c k) := by
  intro c h
  have h2 : c = 0 ∨ c = 1 ∨ c = 2 ∨ c = 3 ∨ c = 4 ∨ c = 5 ∨ c = 6 ∨ c = 7 ∨ c = 8 ∨ c = 9 ∨ c = 10 ∨ c = 11 ∨ c = 12 := by omega
  rcases h2 with rfl | rfl | rfl | rfl | rfl | rfl | rfl | rfl | rfl | rfl | rfl | rfl | rfl
  · exact tyX0_ok
  · exact tyX1_ok
  · exact tyX2_ok
  · exact tyX3_ok
  · exact tyX4_ok
  · exact tyX5_ok
  · exact tyX6_ok
  · exact tyX7_ok
  · exact tyX8_ok
  · exact tyX9_ok
  · exact tyX10_ok
  · exact tyX11_ok
  · exact tyX12_ok
theorem nmf_ok : ∀ c, c < 13 → ∀ a, a < (cT c).2.2 → ∀ b, b < (cT c).2.2 → a ≠ b → ((cT c).2.1 a).2.1 ≠ ((cT c).2.1 b).2.1 := by
  intro c h
  have h2 : c = 0 ∨ c = 1 ∨ c = 2 ∨ c = 3 ∨ c = 4 ∨ c = 5 ∨ c = 6 ∨ c = 7 ∨ c = 8 ∨ c = 9 ∨ c = 10 ∨ c = 11 ∨ c = 12 := by omega
  rcases h2 with rfl | rfl | rfl | rfl | rfl | rfl | rfl | rfl | rfl | rfl | rfl | rfl | rfl
  · exact nmX0
  · exact nmX1
  · exact nmX2
  · exact nmX3
  · exact nmX4
  · exact nmX5
  · exact nmX6
  · exact nmX7
  · exact nmX8
  · exact nmX9
  · exact nmX10
  · exact nmX11
  · exact nmX12
def kindOk (k : Option Nat) (t : FieldType) : Bool := match k, t with
  | some 0, .int => true
  | some 1, .boolean => true
  | some 2, .long => true
  | some 3, .object _ => true
  | some 3, .array _ => true
  | _, _ => false
theorem knd_ok0 : (List.range 13).all (fun c => decide (((gl FDL c).getD []).length = (cT c).2.2) && (List.range (cT c).2.2).all (fun k => kindOk (fk c k) (tyf c k) && decide (((cT c).2.1 k).1 = cn c))) = true := by decide +kernel
theorem knd_ok {c k : Nat} (hc : c < 13) (hk : k < (cT c).2.2) : ((gl FDL c).getD []).length = (cT c).2.2 ∧ kindOk (fk c k) (tyf c k) = true ∧ ((cT c).2.1 k).1 = cn c := by
  have h := all_of knd_ok0 (List.mem_range.mpr hc)
  rw [Bool.and_eq_true] at h
  have h2 := all_of h.2 (List.mem_range.mpr hk)
  rw [Bool.and_eq_true] at h2
  exact ⟨of_decide_eq_true h.1, h2.1, of_decide_eq_true h2.2⟩
theorem fdl_len {c : Nat} (hc : c < 13) : ((gl FDL c).getD []).length = (cT c).2.2 := by
  have h := all_of knd_ok0 (List.mem_range.mpr hc)
  rw [Bool.and_eq_true] at h
  exact of_decide_eq_true h.1
theorem lay_w {c : Nat} (hc : c < 13) : ∀ w ∈ u_ws (cT c).1 (cT c).2.1 (cT c).2.2, w ∈ gT := by
  intro w hw
  obtain ⟨k, hk, rfl⟩ := List.mem_map.mp hw
  have h := of_decide_eq_true (all_of (all_of lyp_ok (List.mem_range.mpr hc)) hk)
  refine in_gT (at_tb h) ?_
  unfold u_lay
  split <;> rfl
theorem clp_w {c : Nat} (hc : c < 13) : Cond.instantiable (cT c).1 (cT c).2.2 ∈ gT ∧ Cond.initialized (cT c).1 ∈ gT ∧ cn c = (cT c).1 := by
  have h := all_of clp_ok (List.mem_range.mpr hc)
  rw [Bool.and_eq_true, Bool.and_eq_true] at h
  exact ⟨in_gT (at_tb (of_decide_eq_true h.1)) rfl, in_gT (at_tb (of_decide_eq_true h.2.1)) rfl, of_decide_eq_true h.2.2⟩
def NM : Nat := 241
def SEP : List Nat := [0, 0, 0, 0, 0, 0, 0, 0, 376, 0, 0, 0, 0, 0, 0, 665, 0, 672, 677, 0, 1, 0, 2, 3, 4, 709, 713, 717, 0, 5, 730, 734, 739, 743, 748, 752, 756, 763, 767, 772, 776, 780, 784, 788, 793, 797, 801, 806, 810, 814, 6, 822, 826, 0, 0, 0, 842, 7, 0, 854, 858, 862, 868, 872, 0, 0, 0, 910, 916, 924, 930, 934, 8, 9, 10, 0, 11, 12, 965, 969, 13, 14, 15, 16, 17, 0, 1018, 1022, 1026, 1030, 1034, 1038, 1042, 18, 19, 1054, 1059, 20, 1069, 1073, 1078, 1086, 1090, 21, 1099, 1103, 1108, 1113, 22, 23, 1126, 24, 1134, 0, 25, 26, 1164, 27, 28, 1183, 29, 1193, 1200, 1204, 1208, 30, 31, 1223, 32, 1231, 1236, 1240, 1245, 1249, 33, 34, 1265, 35, 36, 1281, 1285, 1290, 1295, 0, 1305, 1309, 37, 1320, 1324, 1328, 0, 1687, 0, 1694, 1698, 38, 39, 40, 41, 1719, 1723, 1727, 42, 1737, 1741, 1745, 1749, 1753, 1757, 1761, 43, 1769, 1773, 44, 45, 46, 0, 0, 47, 48, 0, 49, 50, 51, 52, 1823, 1827, 53, 54, 55, 56, 57, 1851, 58, 59, 60, 61, 62, 63, 64, 65, 66, 67, 68, 69, 70, 71, 72, 73, 1920, 74, 1928, 1932, 1936, 1940, 1944, 75, 76, 77, 78, 79, 80, 81, 1976, 82, 83, 84, 85, 86, 87, 88, 89, 2016, 0, 90, 0, 0, 2037, 91, 2047, 2051]
theorem ycd_w {y : Nat} (hy : y < 241) : Cond.code (yn y) (yc y) (ml y) (yr y) ∈ gT := in_gT (at_tb (ycd y hy)) rfl
theorem yp_w {y : Nat} (hy : y < 241) : (if (gl YST y).getD true then Cond.static (yn y) else Cond.instanceMethod (yn y)) ∈ gT ∧ Cond.initialized (yn y).cls ∈ gT := by
  have h := all_of yp2_ok (List.mem_range.mpr hy)
  rw [Bool.and_eq_true] at h
  refine ⟨in_gT (at_tb (of_decide_eq_true h.1)) ?_, in_gT (at_tb (of_decide_eq_true h.2)) rfl⟩
  split <;> rfl
theorem sel_ok : (List.range 241).all (fun y => (gl YST y).getD true || (yin y || decide (lw_tbl[(gl SEP y).getD 9999]? = some (Cond.selects (yn y).cls (yn y) (yn y))))) = true := by decide +kernel
theorem sel_w {y : Nat} (hy : y < 241) (h1 : (gl YST y).getD true = false) (h2 : yin y = false) : Cond.selects (yn y).cls (yn y) (yn y) ∈ gT := by
  have h := all_of sel_ok (List.mem_range.mpr hy)
  rw [h1, h2] at h
  exact in_gT (List.mem_of_getElem? (of_decide_eq_true h)) rfl
def rcvN (y : Nat) : Bool := match (gl RCV y).getD 99 with
  | 99 => true
  | 50 => decide ((yn y).cls = "java/lang/String")
  | c => Nat.blt c 13 && decide ((yn y).cls = (cT c).1)
theorem yfx_ok : (List.range 241).all (fun y => (plainName (yn y).cls && (decide ((yn y).cls ≠ "java/lang/invoke/MethodHandle") && decide ((yn y).cls ≠ "java/lang/invoke/VarHandle"))) && ((decide ((parseMethodDescriptor (yn y).desc).map (fun d => d.parameters.length) = some (na y - (if (gl YST y).getD true then 0 else 1))) && (decide ((yn y).cls = cn (yo y)) && (rcvN y && Nat.ble (ml y) 13))) && (decide (yin y = decide ((yn y).name = "<init>")) && ((!yin y || decide (yr y = none)) && ((gl YST y).getD true || Nat.ble 1 (na y)))))) = true := by decide +kernel
theorem yst_rcv : (List.range 241).all (fun y => decide ((gl YST y).getD true = Nat.beq ((gl RCV y).getD 99) 99)) = true := by decide +kernel
