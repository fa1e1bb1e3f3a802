/-! what the shallow functions are made of -/
abbrev VV : Type := Nat → Nat → Int
/-- turns that any loop may take -/
def FU : Nat := 40000
def lt_ {α β : Type} (a : α) (f : α → β) : β := f a
theorem lt_x {α β : Type} {a : α} {f : α → β} {q : β} (h : lt_ a f = q) : ∃ x, a = x ∧ f x = q := ⟨a, rfl, h⟩
theorem obind {α β : Type} {a : Option α} {f : α → Option β} {q : β} (h : Option.bind a f = some q) : ∃ x, a = some x ∧ f x = some q := by
  cases a with
  | none => cases h
  | some x => exact ⟨x, rfl, h⟩
theorem w_at {X : Xs} {d : Nat} {V : VV} {h : HP} {id n : Nat} {i q : Int} (hk : gl (K0 ++ h.2.2) id = some (100, n)) (e : atV V id n i = q) : Ok X (d + 1) 21 0 ([some (.inr (.inr (.inl (id + 1)))), some (.inl i)], [], mm V h) (fun M r => M = mm V h ∧ r = some (.inl q)) := by
  subst e; exact s_Br_at hk
theorem w_set {X : Xs} {d : Nat} {V q : VV} {h : HP} {id n : Nat} {i x : Int} (hk : gl (K0 ++ h.2.2) id = some (100, n)) (e : setV V id n i x = q) : Ok X (d + 1) 9 0 ([some (.inr (.inr (.inl (id + 1)))), some (.inl i), some (.inl x)], [], mm V h) (fun M r => M = mm q h ∧ r = none) := by
  subst e; exact s_Br_set hk
theorem w_isFrom {X : Xs} {d : Nat} {V : VV} {h : HP} {v lo hi q : Int} (e : isFromV v lo hi = q) : Ok X (d + 1) 16 0 ([some (.inl v), some (.inl lo), some (.inl hi)], [], mm V h) (fun M r => M = mm V h ∧ r = some (.inl q) ∧ (q = 0 ∨ q = 1)) := by
  refine s_Br_isFrom.imp (fun M r z => ⟨z.1, by rw [← e]; exact z.2, ?_⟩)
  subst e; unfold isFromV; split <;> simp
theorem w_cut {X : Xs} {d : Nat} {V : VV} {h : HP} {v w q : Int} (e : cutV v w = q) : Ok X (d + 1) 28 0 ([some (.inl v), some (.inl w)], [], mm V h) (fun M r => M = mm V h ∧ r = some (.inl q)) := by
  subst e; exact s_Br_cut
def fillV (V : VV) (id n : Nat) (x : Int) : VV := fun a b => if a = id then (if b < n then x else V a b) else V a b
theorem w32_id {x : Int} (h1 : -2147483648 ≤ x) (h2 : x < 2147483648) : w32 x = x := by unfold w32; omega
set_option maxRecDepth 20000 in
set_option maxHeartbeats 4000000 in
theorem w_fill {X : Xs} {d : Nat} {V q : VV} {h : HP} {id n : Nat} {x : Int} (hk : gl (K0 ++ h.2.2) id = some (100, n)) (hn : n < 2147483648) (e : fillV V id n x = q) : Ok X (d + 1) 6 0 ([some (.inr (.inr (.inl (id + 1)))), some (.inl x), none, none], [], mm V h) (fun M r => M = mm q h ∧ r = none) := by
  let QQ : Mm → Option AV → Prop := fun M r => M = mm q h ∧ r = none
  show Ok X (d + 1) 6 0 ([some (.inr (.inr (.inl (id + 1)))), some (.inl x), none, none], [], mm V h) QQ
  refine ok_alen (id := id) (n := n) (L := [some (.inr (.inr (.inl (id + 1)))), some (.inl x), some (.inl 0), none]) (S := []) (M := mm V h) rfl rfl hk ?_
  refine ok_thru (L := [some (.inr (.inr (.inl (id + 1)))), some (.inl x), some (.inl 0), some (.inl (n : Int))]) (S := []) (M := mm V h) rfl rfl ?_
  have L2 : ∀ (m : Nat) (i : Nat) (U : VV), n - i < m → i ≤ n → U = fillV V id i x → Ok X (d + 1) 6 2 ([some (.inr (.inr (.inl (id + 1)))), some (.inl x), some (.inl (i : Int)), some (.inl (n : Int))], [], mm U h) QQ := by
    intro m
    induction m with
    | zero => intro i U h1; exact absurd h1 (Nat.not_lt_zero _)
    | succ m ih =>
      intro i U h1 h2 h3
      refine ok_ic_ge (x := (i : Int)) (u := (n : Int)) (L := [some (.inr (.inr (.inl (id + 1)))), some (.inl x), some (.inl (i : Int)), some (.inl (n : Int))]) (S := []) (M := mm U h) rfl rfl (fun c1 => ?_) (fun c1 => ?_)
      · refine ok_return (L := [some (.inr (.inr (.inl (id + 1)))), some (.inl x), some (.inl (i : Int)), some (.inl (n : Int))]) (M := mm U h) rfl rfl ?_
        have : i = n := by omega
        subst this
        exact ⟨by rw [← e, h3], rfl⟩
      · refine ok_iast (i := (i : Int)) (v := x) (id := id) (n := n) (L := [some (.inr (.inr (.inl (id + 1)))), some (.inl x), some (.inl (i : Int)), some (.inl (n : Int))]) (S := []) (M := mm U h) rfl rfl hk (by omega) (by omega) ?_
        refine ok_goto (L := [some (.inr (.inr (.inl (id + 1)))), some (.inl x), some (.inl (w32 ((i : Int) + 1))), some (.inl (n : Int))]) (S := []) (M := mm (up U id (i : Int).toNat x) h) rfl rfl ?_
        rw [w32_id (by omega) (by omega)]
        refine ih (i + 1) _ (by omega) (by omega) ?_
        subst h3
        funext a b
        unfold up fillV
        by_cases ha : a = id
        · subst ha
          rw [if_pos rfl, if_pos rfl, if_pos rfl]
          by_cases hb : b = i
          · subst hb
            rw [if_pos (by omega), if_pos (by omega)]
          · rw [if_neg (by omega)]
            by_cases hb2 : b < i
            · rw [if_pos hb2, if_pos (by omega)]
            · rw [if_neg hb2, if_neg (by omega)]
        · rw [if_neg ha, if_neg ha, if_neg ha]
  refine L2 (n + 1) 0 V (by omega) (by omega) ?_
  funext a b
  unfold fillV
  split
  · rw [if_neg (by omega)]
  · rfl
/-- where the two rows of loads lie after they have grown g times -/
def oN (g : Nat) : Nat := match g with
  | 0 => 64 | 1 => 128 | 2 => 256 | 3 => 512 | 4 => 1024 | 5 => 2048 | 6 => 4096 | 7 => 8192 | 8 => 16384 | _ => 17280
def kxG : Nat → List (Nat × Nat)
  | 0 => []
  | g + 1 => kxG g ++ [(100, oN (g + 1)), (100, 9 * oN (g + 1))]
def hg (g : Nat) : HP := match g with
  | 0 => (29, 30, [])
  | g + 1 => (124 + 2 * g, 123 + 2 * g, kxG (g + 1))
def rowN (h : HP) : Nat := ((gl (K0 ++ h.2.2) h.1).getD (0, 0)).2
def ordN (h : HP) : Nat := ((gl (K0 ++ h.2.2) h.2.1).getD (0, 0)).2
def HOK (h : HP) : Prop := ∃ g, g ≤ 9 ∧ h = hg g
theorem g_10 {P : Nat → Prop} (h0 : P 0) (h1 : P 1) (h2 : P 2) (h3 : P 3) (h4 : P 4) (h5 : P 5) (h6 : P 6) (h7 : P 7) (h8 : P 8) (h9 : P 9) {g : Nat} (h : g ≤ 9) : P g := by
  have : g = 0 ∨ g = 1 ∨ g = 2 ∨ g = 3 ∨ g = 4 ∨ g = 5 ∨ g = 6 ∨ g = 7 ∨ g = 8 ∨ g = 9 := by omega
  rcases this with rfl | rfl | rfl | rfl | rfl | rfl | rfl | rfl | rfl | rfl <;> assumption
theorem HOK.row {h : HP} (hh : HOK h) : gl (K0 ++ h.2.2) h.1 = some (100, rowN h) := by
  obtain ⟨g, h1, rfl⟩ := hh
  exact g_10 (P := fun g => gl (K0 ++ (hg g).2.2) (hg g).1 = some (100, rowN (hg g))) rfl rfl rfl rfl rfl rfl rfl rfl rfl rfl h1
theorem HOK.ord {h : HP} (hh : HOK h) : gl (K0 ++ h.2.2) h.2.1 = some (100, ordN h) := by
  obtain ⟨g, h1, rfl⟩ := hh
  exact g_10 (P := fun g => gl (K0 ++ (hg g).2.2) (hg g).2.1 = some (100, ordN (hg g))) rfl rfl rfl rfl rfl rfl rfl rfl rfl rfl h1
theorem rowN_hg {g : Nat} (h : g ≤ 9) : rowN (hg g) = 9 * oN g ∧ ordN (hg g) = oN g :=
  g_10 (P := fun g => rowN (hg g) = 9 * oN g ∧ ordN (hg g) = oN g) ⟨rfl, rfl⟩ ⟨rfl, rfl⟩ ⟨rfl, rfl⟩ ⟨rfl, rfl⟩ ⟨rfl, rfl⟩ ⟨rfl, rfl⟩ ⟨rfl, rfl⟩ ⟨rfl, rfl⟩ ⟨rfl, rfl⟩ ⟨rfl, rfl⟩ h
