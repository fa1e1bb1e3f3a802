/-! settings that agree, and what is kept of a run -/
def HC2 (V V2 : VV) : Prop := V2 18 6 = V 18 6 ∧ ∀ i, 19 ≤ i → i ≤ 24 → V2 i = V i
def HM2 (U U2 : VV) : Prop := U2 62 48 = U 62 48 ∧ ∀ i, 81 ≤ i → i ≤ 85 → ∀ k, k < 40 → U2 i k = U i k
def HA2 (V0 U0 : VV) (w : Int) : Prop := ∀ V U : VV, HC2 V0 V → HM2 U0 U → ∀ t : Int, 0 ≤ t → t ≤ 4319 → f_Mo_isOpen U w t = some (f_Hours_isOpen V w t) ∧ ∀ p : Int, 0 ≤ p → p < 3 → f_Mo_isShut U w p t = some (f_Hours_isShut V w p t) ∧ ∃ m, 1 ≤ m ∧ m ≤ 120 ∧ f_Hours_haul V w p t = some m ∧ f_Mo_haulOf U w p t = some m
theorem HC2.tr {V V2 V3 : VV} (h : HC2 V V2) (h2 : HC2 V2 V3) : HC2 V V3 := ⟨h2.1.trans h.1, fun i a b => (h2.2 i a b).trans (h.2 i a b)⟩
theorem HM2.tr {V V2 V3 : VV} (h : HM2 V V2) (h2 : HM2 V2 V3) : HM2 V V3 := ⟨h2.1.trans h.1, fun i a b k hk => (h2.2 i a b k hk).trans (h.2 i a b k hk)⟩
theorem HA2.of {V U V2 U2 : VV} {w : Int} (h : HA2 V U w) (c : HC2 V V2) (m : HM2 U U2) : HA2 V2 U2 w := fun V' U' a b => h V' U' (c.tr a) (m.tr b)
theorem HA2.ha {V U : VV} {w : Int} (h : HA2 V U w) : HA V U w := fun V' U' a b => h V' U' ⟨by rw [a 18 (by omega) (by omega)], fun i x y => a i (by omega) y⟩ ⟨b.1, fun i x y k _ => by rw [b.2 i x y]⟩
/-- what the runs hang on -/
def SETR (V U : VV) : Prop := DR V ∧ SRoad V U ∧ SPl V U ∧ SWm V U ∧ (1 ≤ V 18 7 ∧ V 18 7 ≤ 3 ∧ f_Mo_manyWorlds U = V 18 7) ∧ ∀ w : Int, 0 ≤ w → w < V 18 7 → HA2 V U w
/-- the same settings on the class's side -/
def SS (V V2 : VV) : Prop := (∀ i, 1 ≤ i → i ≤ 15 → V2 i = V i) ∧ V2 18 6 = V 18 6 ∧ V2 18 7 = V 18 7 ∧ ∀ i, 19 ≤ i → i ≤ 24 → V2 i = V i
theorem SS.rf {V : VV} : SS V V := ⟨fun _ _ _ => rfl, rfl, rfl, fun _ _ _ => rfl⟩
theorem SS.tr {V V2 V3 : VV} (h : SS V V2) (h2 : SS V2 V3) : SS V V3 := ⟨fun i a b => (h2.1 i a b).trans (h.1 i a b), h2.2.1.trans h.2.1, h2.2.2.1.trans h.2.2.1, fun i a b => (h2.2.2.2 i a b).trans (h.2.2.2 i a b)⟩
theorem SS.sy {V V2 : VV} (h : SS V V2) : SS V2 V := ⟨fun i a b => (h.1 i a b).symm, h.2.1.symm, h.2.2.1.symm, fun i a b => (h.2.2.2 i a b).symm⟩
theorem SS.hc {V V2 : VV} (h : SS V V2) : HC2 V V2 := ⟨h.2.1, h.2.2.2⟩
theorem SETR.ss {V U V2 : VV} (s : SETR V U) (h : SS V V2) : SETR V2 U := by
  obtain ⟨s1, s2, s3, s4, s5, s6⟩ := s
  obtain ⟨h1, h2, h3, h4⟩ := id h
  refine ⟨s1.congr (fun i a b => h1 i a (by omega)), ?_, ?_, ?_, by rw [h3]; exact s5, fun w a b => (s6 w a (by omega)).of h.hc ⟨rfl, fun _ _ _ _ _ => rfl⟩⟩
  · unfold SRoad; rw [h1 1 (by omega) (by omega), h1 2 (by omega) (by omega), h1 3 (by omega) (by omega), h1 6 (by omega) (by omega), h1 7 (by omega) (by omega)]; exact s2
  · unfold SPl; rw [h1 10 (by omega) (by omega), h1 11 (by omega) (by omega), h1 12 (by omega) (by omega), h1 13 (by omega) (by omega), h1 14 (by omega) (by omega)]; exact s3
  · unfold SWm WmOK; rw [h1 15 (by omega) (by omega)]; exact s4
/-- the reference keeps the settings in a run (but the number of trucks) -/
theorem SETR.mf {V U U2 : VV} (s : SETR V U) (h : MF U U2) : SETR V U2 := by
  obtain ⟨s1, s2, s3, s4, s5, s6⟩ := s
  refine ⟨s1, s2.mf h, ?_, ?_, ?_, fun w a b => (s6 w a b).of ⟨rfl, fun _ _ _ => rfl⟩ ⟨h 62 48 rfl, fun i x y k hk => h i k ?_⟩⟩
  · unfold SPl
    rw [h 62 17 rfl, h 62 23 rfl]
    obtain ⟨a, b, c, d, q⟩ := s3
    refine ⟨a, b, c, d, fun p hp => ?_⟩
    rw [h 71 p rfl, h 72 p rfl, h 73 p rfl, h 74 p rfl]
    exact q p hp
  · refine ⟨s4.1, fun k hk => ?_⟩
    rw [← s4.2 k hk]
    have : k = 0 ∨ k = 1 ∨ k = 2 ∨ k = 3 ∨ k = 4 ∨ k = 5 ∨ k = 6 ∨ k = 7 ∨ k = 8 := by omega
    rcases this with rfl | rfl | rfl | rfl | rfl | rfl | rfl | rfl | rfl <;> exact h 62 _ rfl
  · refine ⟨s5.1, s5.2.1, ?_⟩
    rw [← s5.2.2]
    unfold f_Mo_manyWorlds
    rw [h 62 49 rfl]
  · have : i = 81 ∨ i = 82 ∨ i = 83 ∨ i = 84 ∨ i = 85 := by omega
    rcases this with rfl | rfl | rfl | rfl | rfl <;> rfl
/-- a plant for each kind -/
def KIN (V : VV) : Prop := ∀ l : Nat, (l : Int) < V 1 9 → ∃ p : Nat, (p : Int) < V 10 4 ∧ V 11 p = V 7 l
theorem SETR.en {V B U0 : VV} {w p n : Int} (s : SETR B U0) (j : SJobs B U0) (h0 : 0 < nJ B) (k : KIN B) (hw : 0 ≤ w ∧ w < B 18 7) (hp : 1 ≤ p ∧ p ≤ 20) (hn : 1 ≤ n ∧ n ≤ 16) (c1 : B 37 4 = w) (c2 : B 37 5 = n) (c3 : B 46 9 = w) (c4 : B 46 10 = p) (m1 : U0 62 22 = n) (m2 : U0 62 91 = w) (m3 : U0 62 92 = p) : EN B U0 := by
  obtain ⟨s1, s2, s3, s4, s5, s6⟩ := s
  exact ⟨s1, s2, j, h0, s3, s4, by rw [c2, m1]; exact ⟨rfl, hn⟩, by rw [c3, c1, m2]; exact ⟨rfl, rfl⟩, by rw [m3, c4]; exact ⟨rfl, hp⟩, by rw [c1]; exact (s6 w hw.1 hw.2).ha, k⟩
/-- of which run the rows speak -/
def Gho (V : VV) (h : HP) : Prop := ∃ (B : VV) (h0 : HP) (q : (VV × HP) × Int), BegC B ∧ HOK h0 ∧ SS V B ∧ (B 37 4 = V 46 9 ∧ B 37 5 = V 46 11 ∧ B 46 9 = V 46 9 ∧ B 46 10 = V 46 10) ∧ f_Paving_isDone_8 FU B h0 0 = some q ∧ q.1.2 = h ∧ (∀ i, (i = 28 ∨ i = 32 ∨ i = 33 ∨ i = 45 ∨ i = 46 ∨ i = 47 ∨ i = 48 ∨ i = h.1 ∨ i = h.2.1) → V i = q.1.1 i) ∧ V 37 6 = q.1.1 37 6 ∧ V 46 8 = q.2 ∧ (∀ j : Nat, (j : Int) < V 46 12 → CoolK V j) ∧ 0 < nJ V ∧ KIN V ∧ (0 ≤ V 46 9 ∧ V 46 9 < V 18 7) ∧ (1 ≤ V 46 10 ∧ V 46 10 ≤ 20) ∧ (1 ≤ V 46 11 ∧ V 46 11 ≤ 16)
def CI (V : VV) (h : HP) : Prop := HOK h ∧ (V 46 7 ≠ 0 → Gho V h)
/-- the rows of a run agree -/
def RA (V : VV) (h : HP) (U : VV) : Prop := HOK h ∧ RJ U V h U ∧ RP U 4320 V U ∧ U 62 74 = U 62 13 ∧ U 62 13 = nJ V ∧ (∀ l : Nat, (l : Int) < U 62 72 → U 107 l = 0 ∨ U 107 l = 1) ∧ SJobs V U
