/-! the memory as the constructors leave it (printed by wip/tools/gen43.py) -/
def T0 : List (List Int) := [[0, 0, 0, 0, 0, 0, 0, 0, 0, 0, 0, 0, 0, 0, 0, -2, -1, -1], [0, 0, 0, 0, 0, 0, 0, 0, 0, 0, 70, 2, 10, 2, 3, -1], [], [], [], [], [], [], [], [], [0, 0, 0, 0, 0, 6, 20], [], [], [], [], [160, 4, 110, 80, 70, 15, 20, 60, 40], [0, 0, 0, 0, 0, -1], [], [0, 0, 0, 0, 0, 0, 0, 1], [], [], [], [], [], [], [], [0, 1, 0, 0, 0, -1], [116], [], [], [], [], [], [], [], [], [], [], [], [], [], [], [], [], [], [], [], [], [], [0, 0, 0, 0, 0, 0, 0, 0, 0, 0, -1], [], [], [150, 120, 90], [110, 80, 60], [2, 3, 2], [], [], [], [], [], [], [-2, -2, -2, -2, -2, -2, -2, -2, -2, -2, -2, -2, -2, -2, -2, -2, -2, -2, -2, -2, -2], [0, 0, 0, 70, 2, 10, 2, 3, 0, 0, 0, 0, 0, 0, 0, 0, 0, 0, 0, 0, 0, 0, 6, 20, 160, 4, 110, 80, 70, 15, 20, 60, 40, 0, 0, 0, 0, 0, 0, 0, 0, -1, -1, 0, 0, 0, 0, 0, 0, 0, 0, 0, 0, 0, 0, 0, 0, 0, 0, 0, 0, 0, 0, 0, 0, 0, 0, 0, 0, 0, 0, 0, 0, 0, 0, 0, 0, 0, 0, 0, 0, 0, 0, 0, 0, 0, 0, 0, 0, 0, 0, 0, 0, 0, 0, 0, 0, 0, 0, 0, 0, 0, 0, 0, 0, 1], [], [], [], [], [], [], [], [], [], [], [], [], [], [], [150, 120, 90], [110, 80, 60], [2, 3, 2], [], [], [], [], [], [], [], [], [], [], [], [], [], [], [], [], [], [], [], [], [], [], [], [], [], [], [], [], [], [], [], [], [], [], [], [], [], [], [1], [], [], [], []]
def vtab (T : List (List Int)) (i k : Nat) : Int := (gl ((gl T i).getD []) k).getD 0
def V0 : VV := fun i k => if i = 24 then (if k < 12960 then 1 else 0) else vtab T0 i k
def BG (G : Nat → Nat → Nat) : Prop := ∀ i k, (123 ≤ i ∨ 116 ≤ k) → G i k = 0
def BV (V : VV) : Prop := ∀ i k, (123 ≤ i ∨ (116 ≤ k ∧ i ≠ 24)) → V i k = 0
def B24 (V : VV) : Prop := ∀ k, V 24 k = if k < 12960 then 1 else 0
theorem BG.up {G : Nat → Nat → Nat} {a b x : Nat} (ha : a < 123) (hb : b < 116) (h : BG G) : BG (upG G a b x) := by
  intro i k hi
  show (if i = a then (if k = b then x else G i k) else G i k) = 0
  split
  · split
    · omega
    · exact h i k hi
  · exact h i k hi
theorem BG.zr {G : Nat → Nat → Nat} {a : Nat} (h : BG G) : BG (zrG G a) := by
  intro i k hi
  show (if i = a then 0 else G i k) = 0
  split
  · rfl
  · exact h i k hi
theorem BV.up {V : VV} {a b : Nat} {x : Int} (ha : a < 123) (hb : b < 116) (h : BV V) : BV (up V a b x) := by
  intro i k hi
  show (if i = a then (if k = b then x else V i k) else V i k) = 0
  split
  · split
    · omega
    · exact h i k hi
  · exact h i k hi
theorem BV.zr {V : VV} {a : Nat} (h : BV V) : BV (zr V a) := by
  intro i k hi
  show (if i = a then 0 else V i k) = 0
  split
  · rfl
  · exact h i k hi
theorem BV.fill {V : VV} {a n : Nat} {x : Int} (ha : a < 123) (hn : n ≤ 116 ∨ a = 24) (h : BV V) : BV (fillV V a n x) := by
  intro i k hi
  show (if i = a then (if k < n then x else V i k) else V i k) = 0
  split
  · split
    · omega
    · exact h i k hi
  · exact h i k hi
theorem B24.up {V : VV} {a b : Nat} {x : Int} (ha : 24 ≠ a) (h : B24 V) : B24 (up V a b x) := by
  intro k
  exact (if_neg ha).trans (h k)
theorem B24.zr {V : VV} {a : Nat} (ha : 24 ≠ a) (h : B24 V) : B24 (zr V a) := by
  intro k
  exact (if_neg ha).trans (h k)
theorem B24.fill {V : VV} {a n : Nat} {x : Int} (ha : 24 ≠ a) (h : B24 V) : B24 (fillV V a n x) := by
  intro k
  exact (if_neg ha).trans (h k)
theorem B24.here {V : VV} (h : ∀ k, V 24 k = 0) : B24 (fillV V 24 12960 1) := by
  intro k
  show (if k < 12960 then 1 else V 24 k) = _
  rw [h k]
theorem bg_0 : BG cm0.2.1 := fun _ _ _ => rfl
theorem bv_0 : BV cm0.1 := fun _ _ _ => rfl
theorem bg_1 : BG cm1.2.1 := (BG.zr bg_0)
theorem bv_1 : BV cm1.1 := (BV.zr bv_0)
theorem bg_2 : BG cm2.2.1 := (BG.zr bg_1)
theorem bv_2 : BV cm2.1 := (BV.zr bv_1)
theorem bg_3 : BG cm3.2.1 := (BG.up (by decide) (by decide) (BG.zr bg_2))
theorem bv_3 : BV cm3.1 := (BV.zr bv_2)
theorem bg_4 : BG cm4.2.1 := (BG.up (by decide) (by decide) (BG.zr bg_3))
theorem bv_4 : BV cm4.1 := (BV.zr bv_3)
theorem bg_5 : BG cm5.2.1 := (BG.up (by decide) (by decide) (BG.zr bg_4))
theorem bv_5 : BV cm5.1 := (BV.zr bv_4)
theorem bg_6 : BG cm6.2.1 := (BG.up (by decide) (by decide) (BG.zr bg_5))
theorem bv_6 : BV cm6.1 := (BV.zr bv_5)
theorem bg_7 : BG cm7.2.1 := (BG.up (by decide) (by decide) (BG.zr bg_6))
theorem bv_7 : BV cm7.1 := (BV.zr bv_6)
theorem bg_8 : BG cm8.2.1 := (BG.up (by decide) (by decide) (BG.zr bg_7))
theorem bv_8 : BV cm8.1 := (BV.zr bv_7)
theorem bg_9 : BG cm9.2.1 := (BG.up (by decide) (by decide) (BG.zr bg_8))
theorem bv_9 : BV cm9.1 := (BV.zr bv_8)
theorem bg_10 : BG cm10.2.1 := (BG.up (by decide) (by decide) (BG.zr bg_9))
theorem bv_10 : BV cm10.1 := (BV.zr bv_9)
theorem bg_11 : BG cm11.2.1 := bg_10
theorem bv_11 : BV cm11.1 := (BV.up (by decide) (by decide) bv_10)
theorem bg_12 : BG cm12.2.1 := bg_11
theorem bv_12 : BV cm12.1 := (BV.up (by decide) (by decide) bv_11)
theorem bg_13 : BG cm13.2.1 := bg_12
theorem bv_13 : BV cm13.1 := (BV.up (by decide) (by decide) bv_12)
theorem bg_14 : BG cm14.2.1 := bg_13
theorem bv_14 : BV cm14.1 := (BV.up (by decide) (by decide) bv_13)
theorem bg_15 : BG cm15.2.1 := bg_14
theorem bv_15 : BV cm15.1 := (BV.up (by decide) (by decide) bv_14)
theorem bg_16 : BG cm16.2.1 := bg_15
theorem bv_16 : BV cm16.1 := (BV.up (by decide) (by decide) bv_15)
theorem bg_17 : BG cm17.2.1 := bg_16
theorem bv_17 : BV cm17.1 := (BV.up (by decide) (by decide) bv_16)
theorem bg_18 : BG cm18.2.1 := bg_17
theorem bv_18 : BV cm18.1 := (BV.up (by decide) (by decide) bv_17)
theorem bg_19 : BG cm19.2.1 := (BG.up (by decide) (by decide) bg_18)
theorem bv_19 : BV cm19.1 := bv_18
theorem bg_20 : BG cm20.2.1 := (BG.zr bg_19)
theorem bv_20 : BV cm20.1 := (BV.zr bv_19)
theorem bg_21 : BG cm21.2.1 := (BG.up (by decide) (by decide) (BG.zr bg_20))
theorem bv_21 : BV cm21.1 := (BV.zr bv_20)
theorem bg_22 : BG cm22.2.1 := (BG.up (by decide) (by decide) (BG.zr bg_21))
theorem bv_22 : BV cm22.1 := (BV.zr bv_21)
theorem bg_23 : BG cm23.2.1 := (BG.up (by decide) (by decide) (BG.zr bg_22))
theorem bv_23 : BV cm23.1 := (BV.zr bv_22)
theorem bg_24 : BG cm24.2.1 := (BG.up (by decide) (by decide) (BG.zr bg_23))
theorem bv_24 : BV cm24.1 := (BV.zr bv_23)
theorem bg_25 : BG cm25.2.1 := bg_24
theorem bv_25 : BV cm25.1 := (BV.up (by decide) (by decide) bv_24)
theorem bg_26 : BG cm26.2.1 := bg_25
theorem bv_26 : BV cm26.1 := (BV.up (by decide) (by decide) bv_25)
theorem bg_27 : BG cm27.2.1 := bg_26
theorem bv_27 : BV cm27.1 := (BV.up (by decide) (by decide) bv_26)
theorem bg_28 : BG cm28.2.1 := (BG.up (by decide) (by decide) bg_27)
theorem bv_28 : BV cm28.1 := bv_27
theorem bg_29 : BG cm29.2.1 := (BG.zr bg_28)
theorem bv_29 : BV cm29.1 := (BV.zr bv_28)
theorem bg_30 : BG cm30.2.1 := bg_29
theorem bv_30 : BV cm30.1 := (BV.up (by decide) (by decide) bv_29)
theorem bg_31 : BG cm31.2.1 := bg_30
theorem bv_31 : BV cm31.1 := (BV.up (by decide) (by decide) bv_30)
theorem bg_32 : BG cm32.2.1 := bg_31
theorem bv_32 : BV cm32.1 := (BV.up (by decide) (by decide) bv_31)
theorem bg_33 : BG cm33.2.1 := bg_32
theorem bv_33 : BV cm33.1 := (BV.up (by decide) (by decide) bv_32)
theorem bg_34 : BG cm34.2.1 := bg_33
theorem bv_34 : BV cm34.1 := (BV.up (by decide) (by decide) bv_33)
theorem bg_35 : BG cm35.2.1 := bg_34
theorem bv_35 : BV cm35.1 := (BV.up (by decide) (by decide) bv_34)
theorem bg_36 : BG cm36.2.1 := bg_35
theorem bv_36 : BV cm36.1 := (BV.up (by decide) (by decide) bv_35)
theorem bg_37 : BG cm37.2.1 := bg_36
theorem bv_37 : BV cm37.1 := (BV.up (by decide) (by decide) bv_36)
theorem bg_38 : BG cm38.2.1 := bg_37
theorem bv_38 : BV cm38.1 := (BV.up (by decide) (by decide) bv_37)
theorem bg_39 : BG cm39.2.1 := (BG.up (by decide) (by decide) bg_38)
theorem bv_39 : BV cm39.1 := bv_38
theorem bg_40 : BG cm40.2.1 := (BG.zr bg_39)
theorem bv_40 : BV cm40.1 := (BV.zr bv_39)
theorem bg_41 : BG cm41.2.1 := bg_40
theorem bv_41 : BV cm41.1 := (BV.up (by decide) (by decide) bv_40)
theorem bg_42 : BG cm42.2.1 := bg_41
theorem bv_42 : BV cm42.1 := (BV.up (by decide) (by decide) bv_41)
theorem bg_43 : BG cm43.2.1 := bg_42
theorem bv_43 : BV cm43.1 := (BV.up (by decide) (by decide) bv_42)
theorem bg_44 : BG cm44.2.1 := bg_43
theorem bv_44 : BV cm44.1 := (BV.up (by decide) (by decide) bv_43)
theorem bg_45 : BG cm45.2.1 := bg_44
theorem bv_45 : BV cm45.1 := (BV.up (by decide) (by decide) bv_44)
theorem bg_46 : BG cm46.2.1 := bg_45
theorem bv_46 : BV cm46.1 := (BV.up (by decide) (by decide) bv_45)
theorem bg_47 : BG cm47.2.1 := bg_46
theorem bv_47 : BV cm47.1 := (BV.up (by decide) (by decide) bv_46)
theorem bg_48 : BG cm48.2.1 := (BG.up (by decide) (by decide) (BG.zr bg_47))
theorem bv_48 : BV cm48.1 := (BV.zr bv_47)
theorem bg_49 : BG cm49.2.1 := (BG.up (by decide) (by decide) bg_48)
theorem bv_49 : BV cm49.1 := bv_48
theorem bg_50 : BG cm50.2.1 := (BG.zr bg_49)
theorem bv_50 : BV cm50.1 := (BV.zr bv_49)
theorem bg_51 : BG cm51.2.1 := (BG.up (by decide) (by decide) (BG.zr bg_50))
theorem bv_51 : BV cm51.1 := (BV.zr bv_50)
theorem bg_52 : BG cm52.2.1 := (BG.up (by decide) (by decide) (BG.zr bg_51))
theorem bv_52 : BV cm52.1 := (BV.zr bv_51)
theorem bg_53 : BG cm53.2.1 := (BG.up (by decide) (by decide) (BG.zr bg_52))
theorem bv_53 : BV cm53.1 := (BV.zr bv_52)
theorem bg_54 : BG cm54.2.1 := (BG.up (by decide) (by decide) (BG.zr bg_53))
theorem bv_54 : BV cm54.1 := (BV.zr bv_53)
theorem bg_55 : BG cm55.2.1 := (BG.up (by decide) (by decide) (BG.zr bg_54))
theorem bv_55 : BV cm55.1 := (BV.zr bv_54)
theorem bg_56 : BG cm56.2.1 := (BG.up (by decide) (by decide) (BG.zr bg_55))
theorem bv_56 : BV cm56.1 := (BV.zr bv_55)
theorem bg_57 : BG cm57.2.1 := bg_56
theorem bv_57 : BV cm57.1 := (BV.up (by decide) (by decide) bv_56)
theorem bg_58 : BG cm58.2.1 := bg_57
theorem bv_58 : BV cm58.1 := (BV.up (by decide) (by decide) bv_57)
theorem bg_59 : BG cm59.2.1 := bg_58
theorem bv_59 : BV cm59.1 := (BV.up (by decide) (by decide) bv_58)
theorem bg_60 : BG cm60.2.1 := bg_59
theorem bv_60 : BV cm60.1 := (BV.up (by decide) (by decide) bv_59)
theorem bg_61 : BG cm61.2.1 := bg_60
theorem bv_61 : BV cm61.1 := (BV.fill (by decide) (Or.inr rfl) bv_60)
theorem bz_61 : B24 cm61.1 := (B24.here (fun _ => rfl))
theorem bg_62 : BG cm62.2.1 := (BG.up (by decide) (by decide) bg_61)
theorem bv_62 : BV cm62.1 := bv_61
theorem bz_62 : B24 cm62.1 := bz_61
theorem bg_63 : BG cm63.2.1 := (BG.zr bg_62)
theorem bv_63 : BV cm63.1 := (BV.zr bv_62)
theorem bz_63 : B24 cm63.1 := (B24.zr (by decide) bz_62)
theorem bg_64 : BG cm64.2.1 := (BG.zr bg_63)
theorem bv_64 : BV cm64.1 := (BV.zr bv_63)
theorem bz_64 : B24 cm64.1 := (B24.zr (by decide) bz_63)
theorem bg_65 : BG cm65.2.1 := bg_64
theorem bv_65 : BV cm65.1 := (BV.up (by decide) (by decide) bv_64)
theorem bz_65 : B24 cm65.1 := (B24.up (by decide) bz_64)
theorem bg_66 : BG cm66.2.1 := bg_65
theorem bv_66 : BV cm66.1 := (BV.up (by decide) (by decide) bv_65)
theorem bz_66 : B24 cm66.1 := (B24.up (by decide) bz_65)
theorem bg_67 : BG cm67.2.1 := bg_66
theorem bv_67 : BV cm67.1 := (BV.up (by decide) (by decide) bv_66)
theorem bz_67 : B24 cm67.1 := (B24.up (by decide) bz_66)
theorem bg_68 : BG cm68.2.1 := bg_67
theorem bv_68 : BV cm68.1 := (BV.up (by decide) (by decide) bv_67)
theorem bz_68 : B24 cm68.1 := (B24.up (by decide) bz_67)
theorem bg_69 : BG cm69.2.1 := bg_68
theorem bv_69 : BV cm69.1 := (BV.up (by decide) (by decide) bv_68)
theorem bz_69 : B24 cm69.1 := (B24.up (by decide) bz_68)
theorem bg_70 : BG cm70.2.1 := bg_69
theorem bv_70 : BV cm70.1 := (BV.up (by decide) (by decide) bv_69)
theorem bz_70 : B24 cm70.1 := (B24.up (by decide) bz_69)
theorem bg_71 : BG cm71.2.1 := bg_70
theorem bv_71 : BV cm71.1 := (BV.up (by decide) (by decide) bv_70)
theorem bz_71 : B24 cm71.1 := (B24.up (by decide) bz_70)
theorem bg_72 : BG cm72.2.1 := (BG.up (by decide) (by decide) (BG.zr bg_71))
theorem bv_72 : BV cm72.1 := (BV.zr bv_71)
theorem bz_72 : B24 cm72.1 := (B24.zr (by decide) bz_71)
theorem bg_73 : BG cm73.2.1 := (BG.up (by decide) (by decide) bg_72)
theorem bv_73 : BV cm73.1 := bv_72
theorem bz_73 : B24 cm73.1 := bz_72
theorem bg_74 : BG cm74.2.1 := bg_73
theorem bv_74 : BV cm74.1 := (BV.up (by decide) (by decide) bv_73)
theorem bz_74 : B24 cm74.1 := (B24.up (by decide) bz_73)
theorem bg_75 : BG cm75.2.1 := bg_74
theorem bv_75 : BV cm75.1 := (BV.up (by decide) (by decide) bv_74)
theorem bz_75 : B24 cm75.1 := (B24.up (by decide) bz_74)
theorem bg_76 : BG cm76.2.1 := bg_75
theorem bv_76 : BV cm76.1 := (BV.up (by decide) (by decide) bv_75)
theorem bz_76 : B24 cm76.1 := (B24.up (by decide) bz_75)
theorem bg_77 : BG cm77.2.1 := bg_76
theorem bv_77 : BV cm77.1 := (BV.up (by decide) (by decide) bv_76)
theorem bz_77 : B24 cm77.1 := (B24.up (by decide) bz_76)
theorem bg_78 : BG cm78.2.1 := bg_77
theorem bv_78 : BV cm78.1 := (BV.up (by decide) (by decide) bv_77)
theorem bz_78 : B24 cm78.1 := (B24.up (by decide) bz_77)
theorem bg_79 : BG cm79.2.1 := bg_78
theorem bv_79 : BV cm79.1 := (BV.up (by decide) (by decide) bv_78)
theorem bz_79 : B24 cm79.1 := (B24.up (by decide) bz_78)
theorem bg_80 : BG cm80.2.1 := bg_79
theorem bv_80 : BV cm80.1 := (BV.up (by decide) (by decide) bv_79)
theorem bz_80 : B24 cm80.1 := (B24.up (by decide) bz_79)
theorem bg_81 : BG cm81.2.1 := bg_80
theorem bv_81 : BV cm81.1 := (BV.up (by decide) (by decide) bv_80)
theorem bz_81 : B24 cm81.1 := (B24.up (by decide) bz_80)
theorem bg_82 : BG cm82.2.1 := bg_81
theorem bv_82 : BV cm82.1 := (BV.up (by decide) (by decide) bv_81)
theorem bz_82 : B24 cm82.1 := (B24.up (by decide) bz_81)
theorem bg_83 : BG cm83.2.1 := bg_82
theorem bv_83 : BV cm83.1 := (BV.up (by decide) (by decide) bv_82)
theorem bz_83 : B24 cm83.1 := (B24.up (by decide) bz_82)
theorem bg_84 : BG cm84.2.1 := bg_83
theorem bv_84 : BV cm84.1 := (BV.up (by decide) (by decide) bv_83)
theorem bz_84 : B24 cm84.1 := (B24.up (by decide) bz_83)
theorem bg_85 : BG cm85.2.1 := bg_84
theorem bv_85 : BV cm85.1 := (BV.up (by decide) (by decide) bv_84)
theorem bz_85 : B24 cm85.1 := (B24.up (by decide) bz_84)
theorem bg_86 : BG cm86.2.1 := bg_85
theorem bv_86 : BV cm86.1 := (BV.up (by decide) (by decide) bv_85)
theorem bz_86 : B24 cm86.1 := (B24.up (by decide) bz_85)
theorem bg_87 : BG cm87.2.1 := (BG.up (by decide) (by decide) bg_86)
theorem bv_87 : BV cm87.1 := bv_86
theorem bz_87 : B24 cm87.1 := bz_86
theorem bg_88 : BG cm88.2.1 := (BG.zr bg_87)
theorem bv_88 : BV cm88.1 := (BV.zr bv_87)
theorem bz_88 : B24 cm88.1 := (B24.zr (by decide) bz_87)
theorem bg_89 : BG cm89.2.1 := (BG.up (by decide) (by decide) (BG.zr bg_88))
theorem bv_89 : BV cm89.1 := (BV.zr bv_88)
theorem bz_89 : B24 cm89.1 := (B24.zr (by decide) bz_88)
theorem bg_90 : BG cm90.2.1 := (BG.up (by decide) (by decide) (BG.zr bg_89))
theorem bv_90 : BV cm90.1 := (BV.zr bv_89)
theorem bz_90 : B24 cm90.1 := (B24.zr (by decide) bz_89)
theorem bg_91 : BG cm91.2.1 := bg_90
theorem bv_91 : BV cm91.1 := (BV.up (by decide) (by decide) bv_90)
theorem bz_91 : B24 cm91.1 := (B24.up (by decide) bz_90)
theorem bg_92 : BG cm92.2.1 := bg_91
theorem bv_92 : BV cm92.1 := (BV.up (by decide) (by decide) bv_91)
theorem bz_92 : B24 cm92.1 := (B24.up (by decide) bz_91)
theorem bg_93 : BG cm93.2.1 := (BG.up (by decide) (by decide) bg_92)
theorem bv_93 : BV cm93.1 := bv_92
theorem bz_93 : B24 cm93.1 := bz_92
theorem bg_94 : BG cm94.2.1 := (BG.zr bg_93)
theorem bv_94 : BV cm94.1 := (BV.zr bv_93)
theorem bz_94 : B24 cm94.1 := (B24.zr (by decide) bz_93)
theorem bg_95 : BG cm95.2.1 := (BG.up (by decide) (by decide) (BG.zr bg_94))
theorem bv_95 : BV cm95.1 := (BV.zr bv_94)
theorem bz_95 : B24 cm95.1 := (B24.zr (by decide) bz_94)
theorem bg_96 : BG cm96.2.1 := (BG.up (by decide) (by decide) (BG.zr bg_95))
theorem bv_96 : BV cm96.1 := (BV.zr bv_95)
theorem bz_96 : B24 cm96.1 := (B24.zr (by decide) bz_95)
theorem bg_97 : BG cm97.2.1 := (BG.up (by decide) (by decide) (BG.zr bg_96))
theorem bv_97 : BV cm97.1 := (BV.zr bv_96)
theorem bz_97 : B24 cm97.1 := (B24.zr (by decide) bz_96)
theorem bg_98 : BG cm98.2.1 := (BG.up (by decide) (by decide) (BG.zr bg_97))
theorem bv_98 : BV cm98.1 := (BV.zr bv_97)
theorem bz_98 : B24 cm98.1 := (B24.zr (by decide) bz_97)
theorem bg_99 : BG cm99.2.1 := (BG.up (by decide) (by decide) (BG.zr bg_98))
theorem bv_99 : BV cm99.1 := (BV.zr bv_98)
theorem bz_99 : B24 cm99.1 := (B24.zr (by decide) bz_98)
theorem bg_100 : BG cm100.2.1 := (BG.up (by decide) (by decide) bg_99)
theorem bv_100 : BV cm100.1 := bv_99
theorem bz_100 : B24 cm100.1 := bz_99
theorem bg_101 : BG cm101.2.1 := (BG.up (by decide) (by decide) bg_100)
theorem bv_101 : BV cm101.1 := bv_100
theorem bz_101 : B24 cm101.1 := bz_100
theorem bg_102 : BG cm102.2.1 := (BG.up (by decide) (by decide) bg_101)
theorem bv_102 : BV cm102.1 := bv_101
theorem bz_102 : B24 cm102.1 := bz_101
theorem bg_103 : BG cm103.2.1 := (BG.zr bg_102)
theorem bv_103 : BV cm103.1 := (BV.zr bv_102)
theorem bz_103 : B24 cm103.1 := (B24.zr (by decide) bz_102)
theorem bg_104 : BG cm104.2.1 := bg_103
theorem bv_104 : BV cm104.1 := (BV.up (by decide) (by decide) bv_103)
theorem bz_104 : B24 cm104.1 := (B24.up (by decide) bz_103)
theorem bg_105 : BG cm105.2.1 := bg_104
theorem bv_105 : BV cm105.1 := (BV.up (by decide) (by decide) bv_104)
theorem bz_105 : B24 cm105.1 := (B24.up (by decide) bz_104)
theorem bg_106 : BG cm106.2.1 := bg_105
theorem bv_106 : BV cm106.1 := (BV.up (by decide) (by decide) bv_105)
theorem bz_106 : B24 cm106.1 := (B24.up (by decide) bz_105)
theorem bg_107 : BG cm107.2.1 := (BG.up (by decide) (by decide) (BG.zr bg_106))
theorem bv_107 : BV cm107.1 := (BV.zr bv_106)
theorem bz_107 : B24 cm107.1 := (B24.zr (by decide) bz_106)
theorem bg_108 : BG cm108.2.1 := (BG.up (by decide) (by decide) (BG.zr bg_107))
theorem bv_108 : BV cm108.1 := (BV.zr bv_107)
theorem bz_108 : B24 cm108.1 := (B24.zr (by decide) bz_107)
theorem bg_109 : BG cm109.2.1 := (BG.up (by decide) (by decide) (BG.zr bg_108))
theorem bv_109 : BV cm109.1 := (BV.zr bv_108)
theorem bz_109 : B24 cm109.1 := (B24.zr (by decide) bz_108)
theorem bg_110 : BG cm110.2.1 := (BG.up (by decide) (by decide) (BG.zr bg_109))
theorem bv_110 : BV cm110.1 := (BV.zr bv_109)
theorem bz_110 : B24 cm110.1 := (B24.zr (by decide) bz_109)
theorem bg_111 : BG cm111.2.1 := (BG.up (by decide) (by decide) (BG.zr bg_110))
theorem bv_111 : BV cm111.1 := (BV.zr bv_110)
theorem bz_111 : B24 cm111.1 := (B24.zr (by decide) bz_110)
theorem bg_112 : BG cm112.2.1 := (BG.up (by decide) (by decide) (BG.zr bg_111))
theorem bv_112 : BV cm112.1 := (BV.zr bv_111)
theorem bz_112 : B24 cm112.1 := (B24.zr (by decide) bz_111)
theorem bg_113 : BG cm113.2.1 := (BG.up (by decide) (by decide) (BG.zr bg_112))
theorem bv_113 : BV cm113.1 := (BV.zr bv_112)
theorem bz_113 : B24 cm113.1 := (B24.zr (by decide) bz_112)
theorem bg_114 : BG cm114.2.1 := (BG.up (by decide) (by decide) (BG.zr bg_113))
theorem bv_114 : BV cm114.1 := (BV.zr bv_113)
theorem bz_114 : B24 cm114.1 := (B24.zr (by decide) bz_113)
theorem bg_115 : BG cm115.2.1 := (BG.up (by decide) (by decide) bg_114)
theorem bv_115 : BV cm115.1 := bv_114
theorem bz_115 : B24 cm115.1 := bz_114
theorem bg_116 : BG cm116.2.1 := (BG.up (by decide) (by decide) bg_115)
theorem bv_116 : BV cm116.1 := bv_115
theorem bz_116 : B24 cm116.1 := bz_115
theorem bg_117 : BG cm117.2.1 := (BG.up (by decide) (by decide) bg_116)
theorem bv_117 : BV cm117.1 := bv_116
theorem bz_117 : B24 cm117.1 := bz_116
theorem bg_118 : BG cm118.2.1 := (BG.up (by decide) (by decide) bg_117)
theorem bv_118 : BV cm118.1 := bv_117
theorem bz_118 : B24 cm118.1 := bz_117
theorem bg_119 : BG cm119.2.1 := (BG.up (by decide) (by decide) bg_118)
theorem bv_119 : BV cm119.1 := bv_118
theorem bz_119 : B24 cm119.1 := bz_118
theorem bg_120 : BG cm120.2.1 := (BG.zr bg_119)
theorem bv_120 : BV cm120.1 := (BV.zr bv_119)
theorem bz_120 : B24 cm120.1 := (B24.zr (by decide) bz_119)
theorem bg_121 : BG cm121.2.1 := (BG.up (by decide) (by decide) (BG.zr bg_120))
theorem bv_121 : BV cm121.1 := (BV.zr bv_120)
theorem bz_121 : B24 cm121.1 := (B24.zr (by decide) bz_120)
theorem bg_122 : BG cm122.2.1 := (BG.up (by decide) (by decide) (BG.zr bg_121))
theorem bv_122 : BV cm122.1 := (BV.zr bv_121)
theorem bz_122 : B24 cm122.1 := (B24.zr (by decide) bz_121)
theorem bg_123 : BG cm123.2.1 := bg_122
theorem bv_123 : BV cm123.1 := (BV.up (by decide) (by decide) bv_122)
theorem bz_123 : B24 cm123.1 := (B24.up (by decide) bz_122)
theorem bg_124 : BG cm124.2.1 := bg_123
theorem bv_124 : BV cm124.1 := (BV.up (by decide) (by decide) bv_123)
theorem bz_124 : B24 cm124.1 := (B24.up (by decide) bz_123)
theorem bg_125 : BG cm125.2.1 := bg_124
theorem bv_125 : BV cm125.1 := (BV.up (by decide) (by decide) bv_124)
theorem bz_125 : B24 cm125.1 := (B24.up (by decide) bz_124)
theorem bg_126 : BG cm126.2.1 := bg_125
theorem bv_126 : BV cm126.1 := (BV.up (by decide) (by decide) bv_125)
theorem bz_126 : B24 cm126.1 := (B24.up (by decide) bz_125)
theorem bg_127 : BG cm127.2.1 := bg_126
theorem bv_127 : BV cm127.1 := (BV.up (by decide) (by decide) bv_126)
theorem bz_127 : B24 cm127.1 := (B24.up (by decide) bz_126)
theorem bg_128 : BG cm128.2.1 := bg_127
theorem bv_128 : BV cm128.1 := (BV.up (by decide) (by decide) bv_127)
theorem bz_128 : B24 cm128.1 := (B24.up (by decide) bz_127)
theorem bg_129 : BG cm129.2.1 := bg_128
theorem bv_129 : BV cm129.1 := (BV.up (by decide) (by decide) bv_128)
theorem bz_129 : B24 cm129.1 := (B24.up (by decide) bz_128)
theorem bg_130 : BG cm130.2.1 := bg_129
theorem bv_130 : BV cm130.1 := (BV.up (by decide) (by decide) bv_129)
theorem bz_130 : B24 cm130.1 := (B24.up (by decide) bz_129)
theorem bg_131 : BG cm131.2.1 := bg_130
theorem bv_131 : BV cm131.1 := (BV.up (by decide) (by decide) bv_130)
theorem bz_131 : B24 cm131.1 := (B24.up (by decide) bz_130)
theorem bg_132 : BG cm132.2.1 := bg_131
theorem bv_132 : BV cm132.1 := (BV.up (by decide) (by decide) bv_131)
theorem bz_132 : B24 cm132.1 := (B24.up (by decide) bz_131)
theorem bg_133 : BG cm133.2.1 := (BG.up (by decide) (by decide) bg_132)
theorem bv_133 : BV cm133.1 := bv_132
theorem bz_133 : B24 cm133.1 := bz_132
theorem bg_134 : BG cm134.2.1 := (BG.up (by decide) (by decide) bg_133)
theorem bv_134 : BV cm134.1 := bv_133
theorem bz_134 : B24 cm134.1 := bz_133
theorem bg_135 : BG cm135.2.1 := (BG.up (by decide) (by decide) bg_134)
theorem bv_135 : BV cm135.1 := bv_134
theorem bz_135 : B24 cm135.1 := bz_134
theorem bg_136 : BG cm136.2.1 := (BG.up (by decide) (by decide) bg_135)
theorem bv_136 : BV cm136.1 := bv_135
theorem bz_136 : B24 cm136.1 := bz_135
theorem bg_137 : BG cm137.2.1 := (BG.up (by decide) (by decide) bg_136)
theorem bv_137 : BV cm137.1 := bv_136
theorem bz_137 : B24 cm137.1 := bz_136
theorem bg_138 : BG cm138.2.1 := (BG.zr bg_137)
theorem bv_138 : BV cm138.1 := (BV.zr bv_137)
theorem bz_138 : B24 cm138.1 := (B24.zr (by decide) bz_137)
theorem bg_139 : BG cm139.2.1 := (BG.up (by decide) (by decide) (BG.zr bg_138))
theorem bv_139 : BV cm139.1 := (BV.zr bv_138)
theorem bz_139 : B24 cm139.1 := (B24.zr (by decide) bz_138)
theorem bg_140 : BG cm140.2.1 := (BG.up (by decide) (by decide) (BG.zr bg_139))
theorem bv_140 : BV cm140.1 := (BV.zr bv_139)
theorem bz_140 : B24 cm140.1 := (B24.zr (by decide) bz_139)
theorem bg_141 : BG cm141.2.1 := (BG.zr bg_140)
theorem bv_141 : BV cm141.1 := (BV.zr bv_140)
theorem bz_141 : B24 cm141.1 := (B24.zr (by decide) bz_140)
theorem bg_142 : BG cm142.2.1 := bg_141
theorem bv_142 : BV cm142.1 := (BV.up (by decide) (by decide) bv_141)
theorem bz_142 : B24 cm142.1 := (B24.up (by decide) bz_141)
theorem bg_143 : BG cm143.2.1 := bg_142
theorem bv_143 : BV cm143.1 := (BV.up (by decide) (by decide) bv_142)
theorem bz_143 : B24 cm143.1 := (B24.up (by decide) bz_142)
theorem bg_144 : BG cm144.2.1 := bg_143
theorem bv_144 : BV cm144.1 := (BV.up (by decide) (by decide) bv_143)
theorem bz_144 : B24 cm144.1 := (B24.up (by decide) bz_143)
theorem bg_145 : BG cm145.2.1 := (BG.up (by decide) (by decide) bg_144)
theorem bv_145 : BV cm145.1 := bv_144
theorem bz_145 : B24 cm145.1 := bz_144
theorem bg_146 : BG cm146.2.1 := (BG.zr bg_145)
theorem bv_146 : BV cm146.1 := (BV.zr bv_145)
theorem bz_146 : B24 cm146.1 := (B24.zr (by decide) bz_145)
theorem bg_147 : BG cm147.2.1 := bg_146
theorem bv_147 : BV cm147.1 := (BV.up (by decide) (by decide) bv_146)
theorem bz_147 : B24 cm147.1 := (B24.up (by decide) bz_146)
theorem bg_148 : BG cm148.2.1 := bg_147
theorem bv_148 : BV cm148.1 := (BV.up (by decide) (by decide) bv_147)
theorem bz_148 : B24 cm148.1 := (B24.up (by decide) bz_147)
theorem bg_149 : BG cm149.2.1 := bg_148
theorem bv_149 : BV cm149.1 := (BV.up (by decide) (by decide) bv_148)
theorem bz_149 : B24 cm149.1 := (B24.up (by decide) bz_148)
theorem bg_150 : BG cm150.2.1 := (BG.up (by decide) (by decide) bg_149)
theorem bv_150 : BV cm150.1 := bv_149
theorem bz_150 : B24 cm150.1 := bz_149
theorem bg_151 : BG cm151.2.1 := (BG.zr bg_150)
theorem bv_151 : BV cm151.1 := (BV.zr bv_150)
theorem bz_151 : B24 cm151.1 := (B24.zr (by decide) bz_150)
theorem bg_152 : BG cm152.2.1 := bg_151
theorem bv_152 : BV cm152.1 := (BV.up (by decide) (by decide) bv_151)
theorem bz_152 : B24 cm152.1 := (B24.up (by decide) bz_151)
theorem bg_153 : BG cm153.2.1 := bg_152
theorem bv_153 : BV cm153.1 := (BV.up (by decide) (by decide) bv_152)
theorem bz_153 : B24 cm153.1 := (B24.up (by decide) bz_152)
theorem bg_154 : BG cm154.2.1 := bg_153
theorem bv_154 : BV cm154.1 := (BV.up (by decide) (by decide) bv_153)
theorem bz_154 : B24 cm154.1 := (B24.up (by decide) bz_153)
theorem bg_155 : BG cm155.2.1 := (BG.up (by decide) (by decide) bg_154)
theorem bv_155 : BV cm155.1 := bv_154
theorem bz_155 : B24 cm155.1 := bz_154
theorem bg_156 : BG cm156.2.1 := (BG.up (by decide) (by decide) (BG.zr bg_155))
theorem bv_156 : BV cm156.1 := (BV.zr bv_155)
theorem bz_156 : B24 cm156.1 := (B24.zr (by decide) bz_155)
theorem bg_157 : BG cm157.2.1 := (BG.up (by decide) (by decide) (BG.zr bg_156))
theorem bv_157 : BV cm157.1 := (BV.zr bv_156)
theorem bz_157 : B24 cm157.1 := (B24.zr (by decide) bz_156)
theorem bg_158 : BG cm158.2.1 := (BG.up (by decide) (by decide) (BG.zr bg_157))
theorem bv_158 : BV cm158.1 := (BV.zr bv_157)
theorem bz_158 : B24 cm158.1 := (B24.zr (by decide) bz_157)
theorem bg_159 : BG cm159.2.1 := bg_158
theorem bv_159 : BV cm159.1 := (BV.up (by decide) (by decide) bv_158)
theorem bz_159 : B24 cm159.1 := (B24.up (by decide) bz_158)
theorem bg_160 : BG cm160.2.1 := bg_159
theorem bv_160 : BV cm160.1 := (BV.up (by decide) (by decide) bv_159)
theorem bz_160 : B24 cm160.1 := (B24.up (by decide) bz_159)
theorem bg_161 : BG cm161.2.1 := (BG.up (by decide) (by decide) bg_160)
theorem bv_161 : BV cm161.1 := bv_160
theorem bz_161 : B24 cm161.1 := bz_160
theorem bg_162 : BG cm162.2.1 := (BG.up (by decide) (by decide) bg_161)
theorem bv_162 : BV cm162.1 := bv_161
theorem bz_162 : B24 cm162.1 := bz_161
theorem bg_163 : BG cm163.2.1 := (BG.up (by decide) (by decide) bg_162)
theorem bv_163 : BV cm163.1 := bv_162
theorem bz_163 : B24 cm163.1 := bz_162
theorem bg_164 : BG cm164.2.1 := (BG.up (by decide) (by decide) (BG.zr bg_163))
theorem bv_164 : BV cm164.1 := (BV.zr bv_163)
theorem bz_164 : B24 cm164.1 := (B24.zr (by decide) bz_163)
theorem bg_165 : BG cm165.2.1 := (BG.up (by decide) (by decide) (BG.zr bg_164))
theorem bv_165 : BV cm165.1 := (BV.zr bv_164)
theorem bz_165 : B24 cm165.1 := (B24.zr (by decide) bz_164)
theorem bg_166 : BG cm166.2.1 := (BG.up (by decide) (by decide) (BG.zr bg_165))
theorem bv_166 : BV cm166.1 := (BV.zr bv_165)
theorem bz_166 : B24 cm166.1 := (B24.zr (by decide) bz_165)
theorem bg_167 : BG cm167.2.1 := (BG.up (by decide) (by decide) (BG.zr bg_166))
theorem bv_167 : BV cm167.1 := (BV.zr bv_166)
theorem bz_167 : B24 cm167.1 := (B24.zr (by decide) bz_166)
theorem bg_168 : BG cm168.2.1 := bg_167
theorem bv_168 : BV cm168.1 := (BV.up (by decide) (by decide) bv_167)
theorem bz_168 : B24 cm168.1 := (B24.up (by decide) bz_167)
theorem bg_169 : BG cm169.2.1 := bg_168
theorem bv_169 : BV cm169.1 := (BV.up (by decide) (by decide) bv_168)
theorem bz_169 : B24 cm169.1 := (B24.up (by decide) bz_168)
theorem bg_170 : BG cm170.2.1 := bg_169
theorem bv_170 : BV cm170.1 := (BV.up (by decide) (by decide) bv_169)
theorem bz_170 : B24 cm170.1 := (B24.up (by decide) bz_169)
theorem bg_171 : BG cm171.2.1 := bg_170
theorem bv_171 : BV cm171.1 := (BV.fill (by decide) (Or.inl (by decide)) bv_170)
theorem bz_171 : B24 cm171.1 := (B24.fill (by decide) bz_170)
theorem bg_172 : BG cm172.2.1 := (BG.zr bg_171)
theorem bv_172 : BV cm172.1 := (BV.zr bv_171)
theorem bz_172 : B24 cm172.1 := (B24.zr (by decide) bz_171)
theorem bg_173 : BG cm173.2.1 := (BG.up (by decide) (by decide) (BG.zr bg_172))
theorem bv_173 : BV cm173.1 := (BV.zr bv_172)
theorem bz_173 : B24 cm173.1 := (B24.zr (by decide) bz_172)
theorem bg_174 : BG cm174.2.1 := (BG.up (by decide) (by decide) (BG.zr bg_173))
theorem bv_174 : BV cm174.1 := (BV.zr bv_173)
theorem bz_174 : B24 cm174.1 := (B24.zr (by decide) bz_173)
theorem bg_175 : BG cm175.2.1 := bg_174
theorem bv_175 : BV cm175.1 := (BV.up (by decide) (by decide) bv_174)
theorem bz_175 : B24 cm175.1 := (B24.up (by decide) bz_174)
theorem bg_176 : BG cm176.2.1 := bg_175
theorem bv_176 : BV cm176.1 := (BV.up (by decide) (by decide) bv_175)
theorem bz_176 : B24 cm176.1 := (B24.up (by decide) bz_175)
theorem bg_177 : BG cm177.2.1 := bg_176
theorem bv_177 : BV cm177.1 := (BV.up (by decide) (by decide) bv_176)
theorem bz_177 : B24 cm177.1 := (B24.up (by decide) bz_176)
theorem bg_178 : BG cm178.2.1 := bg_177
theorem bv_178 : BV cm178.1 := (BV.up (by decide) (by decide) bv_177)
theorem bz_178 : B24 cm178.1 := (B24.up (by decide) bz_177)
theorem bg_179 : BG cm179.2.1 := bg_178
theorem bv_179 : BV cm179.1 := (BV.up (by decide) (by decide) bv_178)
theorem bz_179 : B24 cm179.1 := (B24.up (by decide) bz_178)
theorem bg_180 : BG cm180.2.1 := (BG.up (by decide) (by decide) (BG.zr bg_179))
theorem bv_180 : BV cm180.1 := (BV.zr bv_179)
theorem bz_180 : B24 cm180.1 := (B24.zr (by decide) bz_179)
theorem bg_181 : BG cm181.2.1 := (BG.up (by decide) (by decide) (BG.zr bg_180))
theorem bv_181 : BV cm181.1 := (BV.zr bv_180)
theorem bz_181 : B24 cm181.1 := (B24.zr (by decide) bz_180)
theorem bg_182 : BG cm182.2.1 := (BG.up (by decide) (by decide) (BG.zr bg_181))
theorem bv_182 : BV cm182.1 := (BV.zr bv_181)
theorem bz_182 : B24 cm182.1 := (B24.zr (by decide) bz_181)
theorem bg_183 : BG cm183.2.1 := (BG.up (by decide) (by decide) (BG.zr bg_182))
theorem bv_183 : BV cm183.1 := (BV.zr bv_182)
theorem bz_183 : B24 cm183.1 := (B24.zr (by decide) bz_182)
theorem bg_184 : BG cm184.2.1 := (BG.up (by decide) (by decide) (BG.zr bg_183))
theorem bv_184 : BV cm184.1 := (BV.zr bv_183)
theorem bz_184 : B24 cm184.1 := (B24.zr (by decide) bz_183)
theorem bg_185 : BG cm185.2.1 := (BG.up (by decide) (by decide) (BG.zr bg_184))
theorem bv_185 : BV cm185.1 := (BV.zr bv_184)
theorem bz_185 : B24 cm185.1 := (B24.zr (by decide) bz_184)
theorem bg_186 : BG cm186.2.1 := (BG.up (by decide) (by decide) (BG.zr bg_185))
theorem bv_186 : BV cm186.1 := (BV.zr bv_185)
theorem bz_186 : B24 cm186.1 := (B24.zr (by decide) bz_185)
theorem bg_187 : BG cm187.2.1 := (BG.up (by decide) (by decide) (BG.zr bg_186))
theorem bv_187 : BV cm187.1 := (BV.zr bv_186)
theorem bz_187 : B24 cm187.1 := (B24.zr (by decide) bz_186)
theorem bg_188 : BG cm188.2.1 := (BG.up (by decide) (by decide) (BG.zr bg_187))
theorem bv_188 : BV cm188.1 := (BV.zr bv_187)
theorem bz_188 : B24 cm188.1 := (B24.zr (by decide) bz_187)
theorem bg_189 : BG cm189.2.1 := (BG.up (by decide) (by decide) (BG.zr bg_188))
theorem bv_189 : BV cm189.1 := (BV.zr bv_188)
theorem bz_189 : B24 cm189.1 := (B24.zr (by decide) bz_188)
theorem bg_190 : BG cm190.2.1 := bg_189
theorem bv_190 : BV cm190.1 := (BV.up (by decide) (by decide) bv_189)
theorem bz_190 : B24 cm190.1 := (B24.up (by decide) bz_189)
theorem bg_191 : BG cm191.2.1 := bg_190
theorem bv_191 : BV cm191.1 := (BV.up (by decide) (by decide) bv_190)
theorem bz_191 : B24 cm191.1 := (B24.up (by decide) bz_190)
theorem bg_192 : BG cm192.2.1 := bg_191
theorem bv_192 : BV cm192.1 := (BV.up (by decide) (by decide) bv_191)
theorem bz_192 : B24 cm192.1 := (B24.up (by decide) bz_191)
theorem bg_193 : BG cm193.2.1 := bg_192
theorem bv_193 : BV cm193.1 := (BV.up (by decide) (by decide) bv_192)
theorem bz_193 : B24 cm193.1 := (B24.up (by decide) bz_192)
theorem bg_194 : BG cm194.2.1 := bg_193
theorem bv_194 : BV cm194.1 := (BV.up (by decide) (by decide) bv_193)
theorem bz_194 : B24 cm194.1 := (B24.up (by decide) bz_193)
theorem bg_195 : BG cm195.2.1 := bg_194
theorem bv_195 : BV cm195.1 := (BV.up (by decide) (by decide) bv_194)
theorem bz_195 : B24 cm195.1 := (B24.up (by decide) bz_194)
theorem bg_196 : BG cm196.2.1 := bg_195
theorem bv_196 : BV cm196.1 := (BV.up (by decide) (by decide) bv_195)
theorem bz_196 : B24 cm196.1 := (B24.up (by decide) bz_195)
theorem bg_197 : BG cm197.2.1 := bg_196
theorem bv_197 : BV cm197.1 := (BV.up (by decide) (by decide) bv_196)
theorem bz_197 : B24 cm197.1 := (B24.up (by decide) bz_196)
theorem bg_198 : BG cm198.2.1 := bg_197
theorem bv_198 : BV cm198.1 := (BV.up (by decide) (by decide) bv_197)
theorem bz_198 : B24 cm198.1 := (B24.up (by decide) bz_197)
theorem bg_199 : BG cm199.2.1 := bg_198
theorem bv_199 : BV cm199.1 := (BV.up (by decide) (by decide) bv_198)
theorem bz_199 : B24 cm199.1 := (B24.up (by decide) bz_198)
theorem bg_200 : BG cm200.2.1 := bg_199
theorem bv_200 : BV cm200.1 := (BV.up (by decide) (by decide) bv_199)
theorem bz_200 : B24 cm200.1 := (B24.up (by decide) bz_199)
theorem bg_201 : BG cm201.2.1 := (BG.up (by decide) (by decide) (BG.zr bg_200))
theorem bv_201 : BV cm201.1 := (BV.zr bv_200)
theorem bz_201 : B24 cm201.1 := (B24.zr (by decide) bz_200)
theorem bg_202 : BG cm202.2.1 := (BG.up (by decide) (by decide) (BG.zr bg_201))
theorem bv_202 : BV cm202.1 := (BV.zr bv_201)
theorem bz_202 : B24 cm202.1 := (B24.zr (by decide) bz_201)
theorem bg_203 : BG cm203.2.1 := (BG.up (by decide) (by decide) (BG.zr bg_202))
theorem bv_203 : BV cm203.1 := (BV.zr bv_202)
theorem bz_203 : B24 cm203.1 := (B24.zr (by decide) bz_202)
theorem bg_204 : BG cm204.2.1 := (BG.up (by decide) (by decide) (BG.zr bg_203))
theorem bv_204 : BV cm204.1 := (BV.zr bv_203)
theorem bz_204 : B24 cm204.1 := (B24.zr (by decide) bz_203)
theorem bg_205 : BG cm205.2.1 := (BG.up (by decide) (by decide) (BG.zr bg_204))
theorem bv_205 : BV cm205.1 := (BV.zr bv_204)
theorem bz_205 : B24 cm205.1 := (B24.zr (by decide) bz_204)
theorem bg_206 : BG cm206.2.1 := (BG.up (by decide) (by decide) (BG.zr bg_205))
theorem bv_206 : BV cm206.1 := (BV.zr bv_205)
theorem bz_206 : B24 cm206.1 := (B24.zr (by decide) bz_205)
theorem bg_207 : BG cm207.2.1 := bg_206
theorem bv_207 : BV cm207.1 := (BV.up (by decide) (by decide) bv_206)
theorem bz_207 : B24 cm207.1 := (B24.up (by decide) bz_206)
theorem bg_208 : BG cm208.2.1 := bg_207
theorem bv_208 : BV cm208.1 := (BV.up (by decide) (by decide) bv_207)
theorem bz_208 : B24 cm208.1 := (B24.up (by decide) bz_207)
theorem bg_209 : BG cm209.2.1 := (BG.up (by decide) (by decide) (BG.zr bg_208))
theorem bv_209 : BV cm209.1 := (BV.zr bv_208)
theorem bz_209 : B24 cm209.1 := (B24.zr (by decide) bz_208)
theorem bg_210 : BG cm210.2.1 := (BG.up (by decide) (by decide) (BG.zr bg_209))
theorem bv_210 : BV cm210.1 := (BV.zr bv_209)
theorem bz_210 : B24 cm210.1 := (B24.zr (by decide) bz_209)
theorem bg_211 : BG cm211.2.1 := (BG.up (by decide) (by decide) (BG.zr bg_210))
theorem bv_211 : BV cm211.1 := (BV.zr bv_210)
theorem bz_211 : B24 cm211.1 := (B24.zr (by decide) bz_210)
theorem bg_212 : BG cm212.2.1 := (BG.up (by decide) (by decide) (BG.zr bg_211))
theorem bv_212 : BV cm212.1 := (BV.zr bv_211)
theorem bz_212 : B24 cm212.1 := (B24.zr (by decide) bz_211)
theorem bg_213 : BG cm213.2.1 := (BG.up (by decide) (by decide) (BG.zr bg_212))
theorem bv_213 : BV cm213.1 := (BV.zr bv_212)
theorem bz_213 : B24 cm213.1 := (B24.zr (by decide) bz_212)
theorem bg_214 : BG cm214.2.1 := (BG.up (by decide) (by decide) (BG.zr bg_213))
theorem bv_214 : BV cm214.1 := (BV.zr bv_213)
theorem bz_214 : B24 cm214.1 := (B24.zr (by decide) bz_213)
theorem bg_215 : BG cm215.2.1 := (BG.up (by decide) (by decide) (BG.zr bg_214))
theorem bv_215 : BV cm215.1 := (BV.zr bv_214)
theorem bz_215 : B24 cm215.1 := (B24.zr (by decide) bz_214)
theorem bg_216 : BG cm216.2.1 := (BG.up (by decide) (by decide) (BG.zr bg_215))
theorem bv_216 : BV cm216.1 := (BV.zr bv_215)
theorem bz_216 : B24 cm216.1 := (B24.zr (by decide) bz_215)
theorem bg_217 : BG cm217.2.1 := (BG.up (by decide) (by decide) (BG.zr bg_216))
theorem bv_217 : BV cm217.1 := (BV.zr bv_216)
theorem bz_217 : B24 cm217.1 := (B24.zr (by decide) bz_216)
theorem bg_218 : BG cm218.2.1 := (BG.up (by decide) (by decide) (BG.zr bg_217))
theorem bv_218 : BV cm218.1 := (BV.zr bv_217)
theorem bz_218 : B24 cm218.1 := (B24.zr (by decide) bz_217)
theorem bg_219 : BG cm219.2.1 := (BG.up (by decide) (by decide) (BG.zr bg_218))
theorem bv_219 : BV cm219.1 := (BV.zr bv_218)
theorem bz_219 : B24 cm219.1 := (B24.zr (by decide) bz_218)
theorem bg_220 : BG cm220.2.1 := (BG.up (by decide) (by decide) (BG.zr bg_219))
theorem bv_220 : BV cm220.1 := (BV.zr bv_219)
theorem bz_220 : B24 cm220.1 := (B24.zr (by decide) bz_219)
theorem bg_221 : BG cm221.2.1 := (BG.up (by decide) (by decide) (BG.zr bg_220))
theorem bv_221 : BV cm221.1 := (BV.zr bv_220)
theorem bz_221 : B24 cm221.1 := (B24.zr (by decide) bz_220)
theorem bg_222 : BG cm222.2.1 := (BG.up (by decide) (by decide) (BG.zr bg_221))
theorem bv_222 : BV cm222.1 := (BV.zr bv_221)
theorem bz_222 : B24 cm222.1 := (B24.zr (by decide) bz_221)
theorem bg_223 : BG cm223.2.1 := (BG.up (by decide) (by decide) (BG.zr bg_222))
theorem bv_223 : BV cm223.1 := (BV.zr bv_222)
theorem bz_223 : B24 cm223.1 := (B24.zr (by decide) bz_222)
theorem bg_224 : BG cm224.2.1 := (BG.up (by decide) (by decide) (BG.zr bg_223))
theorem bv_224 : BV cm224.1 := (BV.zr bv_223)
theorem bz_224 : B24 cm224.1 := (B24.zr (by decide) bz_223)
theorem bg_225 : BG cm225.2.1 := (BG.up (by decide) (by decide) (BG.zr bg_224))
theorem bv_225 : BV cm225.1 := (BV.zr bv_224)
theorem bz_225 : B24 cm225.1 := (B24.zr (by decide) bz_224)
theorem bg_226 : BG cm226.2.1 := (BG.up (by decide) (by decide) (BG.zr bg_225))
theorem bv_226 : BV cm226.1 := (BV.zr bv_225)
theorem bz_226 : B24 cm226.1 := (B24.zr (by decide) bz_225)
theorem bg_227 : BG cm227.2.1 := (BG.up (by decide) (by decide) (BG.zr bg_226))
theorem bv_227 : BV cm227.1 := (BV.zr bv_226)
theorem bz_227 : B24 cm227.1 := (B24.zr (by decide) bz_226)
theorem bg_228 : BG cm228.2.1 := (BG.up (by decide) (by decide) (BG.zr bg_227))
theorem bv_228 : BV cm228.1 := (BV.zr bv_227)
theorem bz_228 : B24 cm228.1 := (B24.zr (by decide) bz_227)
theorem bg_229 : BG cm229.2.1 := (BG.up (by decide) (by decide) (BG.zr bg_228))
theorem bv_229 : BV cm229.1 := (BV.zr bv_228)
theorem bz_229 : B24 cm229.1 := (B24.zr (by decide) bz_228)
theorem bg_230 : BG cm230.2.1 := (BG.up (by decide) (by decide) (BG.zr bg_229))
theorem bv_230 : BV cm230.1 := (BV.zr bv_229)
theorem bz_230 : B24 cm230.1 := (B24.zr (by decide) bz_229)
theorem bg_231 : BG cm231.2.1 := (BG.up (by decide) (by decide) (BG.zr bg_230))
theorem bv_231 : BV cm231.1 := (BV.zr bv_230)
theorem bz_231 : B24 cm231.1 := (B24.zr (by decide) bz_230)
theorem bg_232 : BG cm232.2.1 := (BG.up (by decide) (by decide) (BG.zr bg_231))
theorem bv_232 : BV cm232.1 := (BV.zr bv_231)
theorem bz_232 : B24 cm232.1 := (B24.zr (by decide) bz_231)
theorem bg_233 : BG cm233.2.1 := (BG.up (by decide) (by decide) (BG.zr bg_232))
theorem bv_233 : BV cm233.1 := (BV.zr bv_232)
theorem bz_233 : B24 cm233.1 := (B24.zr (by decide) bz_232)
theorem bg_234 : BG cm234.2.1 := (BG.up (by decide) (by decide) (BG.zr bg_233))
theorem bv_234 : BV cm234.1 := (BV.zr bv_233)
theorem bz_234 : B24 cm234.1 := (B24.zr (by decide) bz_233)
theorem bg_235 : BG cm235.2.1 := (BG.up (by decide) (by decide) (BG.zr bg_234))
theorem bv_235 : BV cm235.1 := (BV.zr bv_234)
theorem bz_235 : B24 cm235.1 := (B24.zr (by decide) bz_234)
theorem bg_236 : BG cm236.2.1 := (BG.up (by decide) (by decide) (BG.zr bg_235))
theorem bv_236 : BV cm236.1 := (BV.zr bv_235)
theorem bz_236 : B24 cm236.1 := (B24.zr (by decide) bz_235)
theorem bg_237 : BG cm237.2.1 := (BG.up (by decide) (by decide) (BG.zr bg_236))
theorem bv_237 : BV cm237.1 := (BV.zr bv_236)
theorem bz_237 : B24 cm237.1 := (B24.zr (by decide) bz_236)
theorem bg_238 : BG cm238.2.1 := (BG.up (by decide) (by decide) (BG.zr bg_237))
theorem bv_238 : BV cm238.1 := (BV.zr bv_237)
theorem bz_238 : B24 cm238.1 := (B24.zr (by decide) bz_237)
theorem bg_239 : BG cm239.2.1 := (BG.up (by decide) (by decide) (BG.zr bg_238))
theorem bv_239 : BV cm239.1 := (BV.zr bv_238)
theorem bz_239 : B24 cm239.1 := (B24.zr (by decide) bz_238)
theorem bg_240 : BG cm240.2.1 := (BG.up (by decide) (by decide) (BG.zr bg_239))
theorem bv_240 : BV cm240.1 := (BV.zr bv_239)
theorem bz_240 : B24 cm240.1 := (B24.zr (by decide) bz_239)
theorem bg_241 : BG cm241.2.1 := (BG.up (by decide) (by decide) (BG.zr bg_240))
theorem bv_241 : BV cm241.1 := (BV.zr bv_240)
theorem bz_241 : B24 cm241.1 := (B24.zr (by decide) bz_240)
theorem bg_242 : BG cm242.2.1 := (BG.up (by decide) (by decide) (BG.zr bg_241))
theorem bv_242 : BV cm242.1 := (BV.zr bv_241)
theorem bz_242 : B24 cm242.1 := (B24.zr (by decide) bz_241)
theorem bg_243 : BG cm243.2.1 := (BG.up (by decide) (by decide) (BG.zr bg_242))
theorem bv_243 : BV cm243.1 := (BV.zr bv_242)
theorem bz_243 : B24 cm243.1 := (B24.zr (by decide) bz_242)
theorem bg_244 : BG cm244.2.1 := (BG.up (by decide) (by decide) (BG.zr bg_243))
theorem bv_244 : BV cm244.1 := (BV.zr bv_243)
theorem bz_244 : B24 cm244.1 := (B24.zr (by decide) bz_243)
theorem bg_245 : BG cm245.2.1 := (BG.up (by decide) (by decide) (BG.zr bg_244))
theorem bv_245 : BV cm245.1 := (BV.zr bv_244)
theorem bz_245 : B24 cm245.1 := (B24.zr (by decide) bz_244)
theorem bg_246 : BG cm246.2.1 := (BG.up (by decide) (by decide) (BG.zr bg_245))
theorem bv_246 : BV cm246.1 := (BV.zr bv_245)
theorem bz_246 : B24 cm246.1 := (B24.zr (by decide) bz_245)
theorem bg_247 : BG cm247.2.1 := (BG.up (by decide) (by decide) (BG.zr bg_246))
theorem bv_247 : BV cm247.1 := (BV.zr bv_246)
theorem bz_247 : B24 cm247.1 := (B24.zr (by decide) bz_246)
theorem bg_248 : BG cm248.2.1 := (BG.up (by decide) (by decide) (BG.zr bg_247))
theorem bv_248 : BV cm248.1 := (BV.zr bv_247)
theorem bz_248 : B24 cm248.1 := (B24.zr (by decide) bz_247)
theorem bg_249 : BG cm249.2.1 := (BG.up (by decide) (by decide) (BG.zr bg_248))
theorem bv_249 : BV cm249.1 := (BV.zr bv_248)
theorem bz_249 : B24 cm249.1 := (B24.zr (by decide) bz_248)
theorem bg_250 : BG cm250.2.1 := (BG.up (by decide) (by decide) (BG.zr bg_249))
theorem bv_250 : BV cm250.1 := (BV.zr bv_249)
theorem bz_250 : B24 cm250.1 := (B24.zr (by decide) bz_249)
theorem bg_251 : BG cm251.2.1 := bg_250
theorem bv_251 : BV cm251.1 := (BV.up (by decide) (by decide) bv_250)
theorem bz_251 : B24 cm251.1 := (B24.up (by decide) bz_250)
theorem bg_252 : BG cm252.2.1 := bg_251
theorem bv_252 : BV cm252.1 := (BV.up (by decide) (by decide) bv_251)
theorem bz_252 : B24 cm252.1 := (B24.up (by decide) bz_251)
theorem bg_253 : BG cm253.2.1 := bg_252
theorem bv_253 : BV cm253.1 := (BV.up (by decide) (by decide) bv_252)
theorem bz_253 : B24 cm253.1 := (B24.up (by decide) bz_252)
theorem bg_254 : BG cm254.2.1 := bg_253
theorem bv_254 : BV cm254.1 := (BV.up (by decide) (by decide) bv_253)
theorem bz_254 : B24 cm254.1 := (B24.up (by decide) bz_253)
theorem bg_255 : BG cm255.2.1 := bg_254
theorem bv_255 : BV cm255.1 := (BV.up (by decide) (by decide) bv_254)
theorem bz_255 : B24 cm255.1 := (B24.up (by decide) bz_254)
theorem bg_256 : BG cm256.2.1 := bg_255
theorem bv_256 : BV cm256.1 := (BV.up (by decide) (by decide) bv_255)
theorem bz_256 : B24 cm256.1 := (B24.up (by decide) bz_255)
theorem bg_257 : BG cm257.2.1 := bg_256
theorem bv_257 : BV cm257.1 := (BV.up (by decide) (by decide) bv_256)
theorem bz_257 : B24 cm257.1 := (B24.up (by decide) bz_256)
theorem bg_258 : BG cm258.2.1 := bg_257
theorem bv_258 : BV cm258.1 := (BV.up (by decide) (by decide) bv_257)
theorem bz_258 : B24 cm258.1 := (B24.up (by decide) bz_257)
theorem bg_259 : BG cm259.2.1 := bg_258
theorem bv_259 : BV cm259.1 := (BV.up (by decide) (by decide) bv_258)
theorem bz_259 : B24 cm259.1 := (B24.up (by decide) bz_258)
theorem bg_260 : BG cm260.2.1 := bg_259
theorem bv_260 : BV cm260.1 := (BV.up (by decide) (by decide) bv_259)
theorem bz_260 : B24 cm260.1 := (B24.up (by decide) bz_259)
theorem bg_261 : BG cm261.2.1 := bg_260
theorem bv_261 : BV cm261.1 := (BV.up (by decide) (by decide) bv_260)
theorem bz_261 : B24 cm261.1 := (B24.up (by decide) bz_260)
set_option maxRecDepth 20000 in
theorem cm_g1 : (List.range 123).all (fun i => (List.range 116).all (fun k => Nat.beq (cm261.2.1 i k) (G0 29 30 i k))) = true := by decide +kernel
set_option maxRecDepth 20000 in
theorem cm_g2 : (GT 29 30).all (fun l => Nat.ble l.length 116) = true := by decide +kernel
set_option maxRecDepth 20000 in
theorem cm_v1 : (List.range 123).all (fun i => i == 24 || (List.range 116).all (fun k => decide (cm261.1 i k = vtab T0 i k))) = true := by decide +kernel
set_option maxRecDepth 20000 in
theorem cm_v2 : T0.all (fun l => Nat.ble l.length 116) = true ∧ T0.length = 123 := by decide +kernel
theorem gl_none {α : Type} {l : List α} {k : Nat} (h : l.length ≤ k) : gl l k = none := by
  rw [gl_get, List.getElem?_eq_none_iff]; exact h
theorem G0_wide {i k : Nat} (h : 116 ≤ k) : G0 29 30 i k = 0 := by
  unfold G0
  cases hl : gl (GT 29 30) i with
  | none => rfl
  | some l =>
    have h1 := List.all_eq_true.mp cm_g2 l (gl_mem_ hl)
    have h2 := Nat.le_of_ble_eq_true h1
    simp only [gl_none (Nat.le_trans h2 h)]
theorem cm_G : cm261.2.1 = G0 29 30 := by
  funext i k
  by_cases h : 123 ≤ i ∨ 116 ≤ k
  · rw [bg_261 i k h]
    rcases h with h | h
    · rw [G0_hi h]
    · rw [G0_wide h]
  · have h1 := List.all_eq_true.mp (List.all_eq_true.mp cm_g1 i (List.mem_range.mpr (by omega))) k (List.mem_range.mpr (by omega))
    exact Nat.eq_of_beq_eq_true h1
theorem vtab_0 {i k : Nat} (h : 123 ≤ i ∨ 116 ≤ k) : vtab T0 i k = 0 := by
  unfold vtab
  rcases h with h | h
  · rw [gl_none (l := T0) (by rw [cm_v2.2]; exact h)]; rfl
  · cases hl : gl T0 i with
    | none => rfl
    | some l =>
      have h2 := Nat.le_of_ble_eq_true (List.all_eq_true.mp cm_v2.1 l (gl_mem_ hl))
      rw [Option.getD_some, gl_none (Nat.le_trans h2 h)]; rfl
theorem cm_V : cm261.1 = V0 := by
  funext i k
  unfold V0
  by_cases h24 : i = 24
  · subst h24; rw [if_pos rfl]; exact bz_261 k
  · rw [if_neg h24]
    by_cases h : 123 ≤ i ∨ 116 ≤ k
    · rw [vtab_0 h]
      exact bv_261 i k (h.imp id (fun z => ⟨z, h24⟩))
    · have h1 := List.all_eq_true.mp cm_v1 i (List.mem_range.mpr (by omega))
      rw [Bool.or_eq_true] at h1
      rcases h1 with h1 | h1
      · exact absurd (eq_of_beq h1) h24
      · exact of_decide_eq_true (List.all_eq_true.mp h1 k (List.mem_range.mpr (by omega)))
theorem cm_mm : cm261 = mm V0 (hg 0) := by
  show (cm261.1, cm261.2.1, cm261.2.2) = (V0, G0 29 30, K0 ++ [])
  rw [cm_V, cm_G]
  rfl
