/-! the loop of the law -/
def LEND (M : Mm) (r : Option AV) : Prop := ∃ (V : VV) (h : HP), HOK h ∧ M = mm V h ∧ r = some (.inl 1)
theorem sw_ {x : Int} {b1 : Nat} {bs : List Nat} (j : Nat) (hx : x = (j : Int)) (hj : j ≤ 28) (e : tb bs j = b1) : (if x < 0 ∨ 28 < x then 270 else tb bs (x - 0).toNat) = b1 := by
  rw [if_neg (by omega), show (x - 0).toNat = j by omega]
  exact e
theorem law_loop {X : Xs} (hX : XOK X) {D : Nat} : ∀ (k : Nat) (i c : Int) (V : VV) (h : HP), G c V h V → 0 ≤ c → i = 6 * c → i ≤ 3078 → (X.1 : Int) - i < 6 * (k : Int) → Ok X (D + 46) 241 3 (LWL i, [], mm V h) LEND := by
  intro k
  induction k with
  | zero =>
    intro i c V h g hc hi hi2 hk
    refine ok_ic_gt (x := i) (u := w32 ((X.1 : Int) - 6)) (L := LWL i) (S := []) (M := mm V h) rfl rfl (fun _ => ?_) (fun y => ?_)
    · exact ok_zreturn (x := 1) (L := LWL i) (M := mm V h) rfl rfl (Or.inr rfl) ⟨V, h, g.hok, rfl, rfl⟩
    · have := hX.1
      rw [w32_id (by omega) (by omega)] at y
      omega
  | succ k ih =>
    intro i c V h g hc hi hi2 hk
    refine ok_ic_gt (x := i) (u := w32 ((X.1 : Int) - 6)) (L := LWL i) (S := []) (M := mm V h) rfl rfl (fun _ => ?_) (fun y => ?_)
    · exact ok_zreturn (x := 1) (L := LWL i) (M := mm V h) rfl rfl (Or.inr rfl) ⟨V, h, g.hok, rfl, rfl⟩
    · have h3 := hX.1
      rw [w32_id (by omega) (by omega)] at y
      have h0 : 0 ≤ i := by omega
      have h6 : i + 6 ≤ (X.1 : Int) := by omega
      have hc6 : 0 ≤ c ∧ c ≤ 600 := by omega
      have back : ∀ (V2 : VV) (h2 : HP), G (c + 1) V2 h2 V2 → Ok X (D + 46) 241 270 (LWL i, [], mm V2 h2) LEND := by
        intro V2 h2 g2
        refine ok_goto (b1 := 3) (L := LWL (w32 (i + 6))) (S := []) (M := mm V2 h2) rfl rfl ?_
        rw [w32_id (by omega) (by omega)]
        exact ih (i + 6) (c + 1) V2 h2 g2 (by omega) (by omega) (by omega) (by omega)
      refine ok_scr (b1 := 5) (i := i) (L := LWL i) (S := []) (M := mm V h) rfl rfl h0 (by omega) ?_
      by_cases z : iandI (X.2 i.toNat) 31 < 0 ∨ 28 < iandI (X.2 i.toNat) 31
      · exact ok_sw (b1 := 270) (x := iandI (X.2 i.toNat) 31) (L := LWL i) (S := []) (M := mm V h) rfl rfl (if_pos z) (back V h g.more)
      · obtain ⟨j, hj⟩ : ∃ j : Nat, iandI (X.2 i.toNat) 31 = (j : Int) := ⟨(iandI (X.2 i.toNat) 31).toNat, by omega⟩
        have j28 : j ≤ 28 := by omega
        have go : ∀ (b1 : Nat) (bs : List Nat), tb bs j = b1 → blkOf 241 5 = some ([.iconst 31, .iand], .tableswitch 0 0 28 #[], 270 :: bs) → Ok X (D + 46) 241 b1 (LWL i, [], mm V h) LEND → Ok X (D + 46) 241 5 (LWL i, [.inl (X.2 i.toNat)], mm V h) LEND := fun b1 bs e hb kk => ok_sw (b1 := b1) (x := iandI (X.2 i.toNat) 31) (L := LWL i) (S := []) (M := mm V h) hb rfl (sw_ j hj j28 e) kk
        clear hj z
        have cs : j = 0 ∨ j = 1 ∨ j = 2 ∨ j = 3 ∨ j = 4 ∨ j = 5 ∨ j = 6 ∨ j = 7 ∨ j = 8 ∨ j = 9 ∨ j = 10 ∨ j = 11 ∨ j = 12 ∨ j = 13 ∨ j = 14 ∨ j = 15 ∨ j = 16 ∨ j = 17 ∨ j = 18 ∨ j = 19 ∨ j = 20 ∨ j = 21 ∨ j = 22 ∨ j = 23 ∨ j = 24 ∨ j = 25 ∨ j = 26 ∨ j = 27 ∨ j = 28 := by omega
        rcases cs with rfl | rfl | rfl | rfl | rfl | rfl | rfl | rfl | rfl | rfl | rfl | rfl | rfl | rfl | rfl | rfl | rfl | rfl | rfl | rfl | rfl | rfl | rfl | rfl | rfl | rfl | rfl | rfl | rfl
        · exact go 6 _ rfl rfl (lw_section hX g h0 h6 back)
        · exact go 14 _ rfl rfl (lw_even hX g h0 h6 back)
        · exact go 28 _ rfl rfl (lw_levels hX g h0 h6 back)
        · exact go 32 _ rfl rfl (lw_level hX g h0 h6 back)
        · exact go 38 _ rfl rfl (lw_layer hX g h0 h6 back)
        · exact go 46 _ rfl rfl (lw_job hX g h0 h6 back)
        · exact go 54 _ rfl rfl (lw_plant hX g h0 h6 back)
        · exact go 66 _ rfl rfl (lw_trucks hX g h0 h6 back)
        · exact go 74 _ rfl rfl (lw_heat hX g h0 h6 back)
        · exact go 88 _ rfl rfl (lw_weather hX g h0 h6 back)
        · exact go 100 _ rfl rfl (lw_roller hX g h0 h6 back)
        · exact go 108 _ rfl rfl (lw_sort hX g h0 h6 back)
        · exact go 120 _ rfl rfl (lw_feed hX g h0 h6 back)
        · exact go 134 _ rfl rfl (lw_end hX g h0 h6 back)
        · exact go 140 _ rfl rfl (lw_hours hX g h0 h6 back)
        · exact go 144 _ rfl rfl (lw_rate hX g h0 h6 back)
        · exact go 148 _ rfl rfl (lw_fault hX g h0 h6 back)
        · exact go 154 _ rfl rfl (lw_world hX g h0 h6 back)
        · exact go 164 _ rfl rfl (lw_run hX g hc6 h0 h6 back)
        · exact go 174 _ rfl rfl (lw_pace hX g hc6 h0 h6 back)
        · exact go 178 _ rfl rfl (lw_fewest hX g hc6 h0 h6 back)
        · exact go 184 _ rfl rfl (lw_load hX g hc6 h0 h6 back)
        · exact go 196 _ rfl rfl (lw_tonne hX g hc6 h0 h6 back)
        · exact go 206 _ rfl rfl (lw_laid hX g hc6 h0 h6 back)
        · exact go 218 _ rfl rfl (lw_mean hX g hc6 h0 h6 back)
        · exact go 230 _ rfl rfl (lw_tells hX g h0 h6 back)
        · exact go 242 _ rfl rfl (lw_pay hX g hc6 h0 h6 back)
        · exact go 254 _ rfl rfl (lw_core hX g h0 h6 back)
        · exact go 264 _ rfl rfl (lw_about hX g h0 h6 back)
