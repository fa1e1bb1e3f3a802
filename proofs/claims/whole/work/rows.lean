section
-- ===== PART A: goes FIRST, ahead of the names: the tables' words, and 'selects' of the private methods out of them =====
/-- a private method of a class that the tables say can be made, by its rows of tables_1 -/
def lw_okq (q : MethodName × Nat) : Prop := (q.1.cls ≠ "java/lang/invoke/MethodHandle" ∧ q.1.cls ≠ "java/lang/invoke/VarHandle") ∧ Cond.instantiable q.1.cls q.2 ∈ tables_1 ∧ Cond.privateMethod q.1 ∈ tables_1 ∧ Cond.instanceMethod q.1 ∈ tables_1
theorem lw_p0 : lw_okq (⟨"BlackRoad$Road", "weighHeights", "()V"⟩, 16) := ⟨⟨by decide +kernel, by decide +kernel⟩, List.mem_of_getElem? (i := 30) (by decide +kernel), List.mem_of_getElem? (i := 588) (by decide +kernel), List.mem_of_getElem? (i := 589) (by decide +kernel)⟩
theorem lw_p1 : lw_okq (⟨"BlackRoad$Road", "costFrom", "(II)I"⟩, 16) := ⟨⟨by decide +kernel, by decide +kernel⟩, List.mem_of_getElem? (i := 30) (by decide +kernel), List.mem_of_getElem? (i := 592) (by decide +kernel), List.mem_of_getElem? (i := 593) (by decide +kernel)⟩
theorem lw_p2 : lw_okq (⟨"BlackRoad$Road", "cheapest", "(III)I"⟩, 16) := ⟨⟨by decide +kernel, by decide +kernel⟩, List.mem_of_getElem? (i := 30) (by decide +kernel), List.mem_of_getElem? (i := 600) (by decide +kernel), List.mem_of_getElem? (i := 601) (by decide +kernel)⟩
theorem lw_p3 : lw_okq (⟨"BlackRoad$Road", "chooseLevels", "()V"⟩, 16) := ⟨⟨by decide +kernel, by decide +kernel⟩, List.mem_of_getElem? (i := 30) (by decide +kernel), List.mem_of_getElem? (i := 608) (by decide +kernel), List.mem_of_getElem? (i := 609) (by decide +kernel)⟩
theorem lw_p4 : lw_okq (⟨"BlackRoad$Road", "measureJobs", "()V"⟩, 16) := ⟨⟨by decide +kernel, by decide +kernel⟩, List.mem_of_getElem? (i := 30) (by decide +kernel), List.mem_of_getElem? (i := 612) (by decide +kernel), List.mem_of_getElem? (i := 613) (by decide +kernel)⟩
theorem lw_p5 : lw_okq (⟨"BlackRoad", "changed", "()V"⟩, 18) := ⟨⟨by decide +kernel, by decide +kernel⟩, List.mem_of_getElem? (i := 22) (by decide +kernel), List.mem_of_getElem? (i := 633) (by decide +kernel), List.mem_of_getElem? (i := 634) (by decide +kernel)⟩
theorem lw_p6 : lw_okq (⟨"BlackRoad$Hours", "scan", "(LBlackRoad$Tape;Z)V"⟩, 10) := ⟨⟨by decide +kernel, by decide +kernel⟩, List.mem_of_getElem? (i := 232) (by decide +kernel), List.mem_of_getElem? (i := 725) (by decide +kernel), List.mem_of_getElem? (i := 726) (by decide +kernel)⟩
theorem lw_p7 : lw_okq (⟨"BlackRoad$Hours", "passClause", "(LBlackRoad$Tape;Z)V"⟩, 10) := ⟨⟨by decide +kernel, by decide +kernel⟩, List.mem_of_getElem? (i := 232) (by decide +kernel), List.mem_of_getElem? (i := 753) (by decide +kernel), List.mem_of_getElem? (i := 754) (by decide +kernel)⟩
theorem lw_p8 : lw_okq (⟨"BlackRoad$Hours", "markWorld", "(I)V"⟩, 10) := ⟨⟨by decide +kernel, by decide +kernel⟩, List.mem_of_getElem? (i := 232) (by decide +kernel), List.mem_of_getElem? (i := 847) (by decide +kernel), List.mem_of_getElem? (i := 848) (by decide +kernel)⟩
theorem lw_p9 : lw_okq (⟨"BlackRoad$Hours", "holds", "(II)Z"⟩, 10) := ⟨⟨by decide +kernel, by decide +kernel⟩, List.mem_of_getElem? (i := 232) (by decide +kernel), List.mem_of_getElem? (i := 852) (by decide +kernel), List.mem_of_getElem? (i := 853) (by decide +kernel)⟩
theorem lw_p10 : lw_okq (⟨"BlackRoad$Hours", "mark", "(III)V"⟩, 10) := ⟨⟨by decide +kernel, by decide +kernel⟩, List.mem_of_getElem? (i := 232) (by decide +kernel), List.mem_of_getElem? (i := 856) (by decide +kernel), List.mem_of_getElem? (i := 857) (by decide +kernel)⟩
theorem lw_p11 : lw_okq (⟨"BlackRoad$Hours", "wet", "(II)V"⟩, 10) := ⟨⟨by decide +kernel, by decide +kernel⟩, List.mem_of_getElem? (i := 232) (by decide +kernel), List.mem_of_getElem? (i := 863) (by decide +kernel), List.mem_of_getElem? (i := 864) (by decide +kernel)⟩
theorem lw_p12 : lw_okq (⟨"BlackRoad", "tapeWasRead", "()V"⟩, 18) := ⟨⟨by decide +kernel, by decide +kernel⟩, List.mem_of_getElem? (i := 22) (by decide +kernel), List.mem_of_getElem? (i := 867) (by decide +kernel), List.mem_of_getElem? (i := 868) (by decide +kernel)⟩
theorem lw_p13 : lw_okq (⟨"BlackRoad$Rate", "sum", "(LBlackRoad$Tape;I)J"⟩, 5) := ⟨⟨by decide +kernel, by decide +kernel⟩, List.mem_of_getElem? (i := 274) (by decide +kernel), List.mem_of_getElem? (i := 881) (by decide +kernel), List.mem_of_getElem? (i := 882) (by decide +kernel)⟩
theorem lw_p14 : lw_okq (⟨"BlackRoad$Rate", "product", "(LBlackRoad$Tape;I)J"⟩, 5) := ⟨⟨by decide +kernel, by decide +kernel⟩, List.mem_of_getElem? (i := 274) (by decide +kernel), List.mem_of_getElem? (i := 885) (by decide +kernel), List.mem_of_getElem? (i := 886) (by decide +kernel)⟩
theorem lw_p15 : lw_okq (⟨"BlackRoad$Rate", "one", "(LBlackRoad$Tape;I)J"⟩, 5) := ⟨⟨by decide +kernel, by decide +kernel⟩, List.mem_of_getElem? (i := 274) (by decide +kernel), List.mem_of_getElem? (i := 889) (by decide +kernel), List.mem_of_getElem? (i := 890) (by decide +kernel)⟩
def lw_privs_1 : List (MethodName × Nat) := [(⟨"BlackRoad$Road", "weighHeights", "()V"⟩, 16), (⟨"BlackRoad$Road", "costFrom", "(II)I"⟩, 16), (⟨"BlackRoad$Road", "cheapest", "(III)I"⟩, 16), (⟨"BlackRoad$Road", "chooseLevels", "()V"⟩, 16), (⟨"BlackRoad$Road", "measureJobs", "()V"⟩, 16), (⟨"BlackRoad", "changed", "()V"⟩, 18), (⟨"BlackRoad$Hours", "scan", "(LBlackRoad$Tape;Z)V"⟩, 10), (⟨"BlackRoad$Hours", "passClause", "(LBlackRoad$Tape;Z)V"⟩, 10), (⟨"BlackRoad$Hours", "markWorld", "(I)V"⟩, 10), (⟨"BlackRoad$Hours", "holds", "(II)Z"⟩, 10), (⟨"BlackRoad$Hours", "mark", "(III)V"⟩, 10), (⟨"BlackRoad$Hours", "wet", "(II)V"⟩, 10), (⟨"BlackRoad", "tapeWasRead", "()V"⟩, 18), (⟨"BlackRoad$Rate", "sum", "(LBlackRoad$Tape;I)J"⟩, 5), (⟨"BlackRoad$Rate", "product", "(LBlackRoad$Tape;I)J"⟩, 5), (⟨"BlackRoad$Rate", "one", "(LBlackRoad$Tape;I)J"⟩, 5)]
theorem lw_r1 : ∀ q ∈ lw_privs_1, lw_okq q := List.forall_mem_cons.mpr ⟨lw_p0, List.forall_mem_cons.mpr ⟨lw_p1, List.forall_mem_cons.mpr ⟨lw_p2, List.forall_mem_cons.mpr ⟨lw_p3, List.forall_mem_cons.mpr ⟨lw_p4, List.forall_mem_cons.mpr ⟨lw_p5, List.forall_mem_cons.mpr ⟨lw_p6, List.forall_mem_cons.mpr ⟨lw_p7, List.forall_mem_cons.mpr ⟨lw_p8, List.forall_mem_cons.mpr ⟨lw_p9, List.forall_mem_cons.mpr ⟨lw_p10, List.forall_mem_cons.mpr ⟨lw_p11, List.forall_mem_cons.mpr ⟨lw_p12, List.forall_mem_cons.mpr ⟨lw_p13, List.forall_mem_cons.mpr ⟨lw_p14, List.forall_mem_cons.mpr ⟨lw_p15, fun _ h => absurd h List.not_mem_nil⟩⟩⟩⟩⟩⟩⟩⟩⟩⟩⟩⟩⟩⟩⟩⟩
theorem lw_p16 : lw_okq (⟨"BlackRoad$Rate", "opens", "(LBlackRoad$Tape;CI)Z"⟩, 5) := ⟨⟨by decide +kernel, by decide +kernel⟩, List.mem_of_getElem? (i := 274) (by decide +kernel), List.mem_of_getElem? (i := 895) (by decide +kernel), List.mem_of_getElem? (i := 896) (by decide +kernel)⟩
theorem lw_p17 : lw_okq (⟨"BlackRoad$Rate", "letter", "(LBlackRoad$Tape;)J"⟩, 5) := ⟨⟨by decide +kernel, by decide +kernel⟩, List.mem_of_getElem? (i := 274) (by decide +kernel), List.mem_of_getElem? (i := 904) (by decide +kernel), List.mem_of_getElem? (i := 905) (by decide +kernel)⟩
theorem lw_p18 : lw_okq (⟨"BlackRoad", "isPaved", "(II)Z"⟩, 18) := ⟨⟨by decide +kernel, by decide +kernel⟩, List.mem_of_getElem? (i := 22) (by decide +kernel), List.mem_of_getElem? (i := 953) (by decide +kernel), List.mem_of_getElem? (i := 954) (by decide +kernel)⟩
theorem lw_p19 : lw_okq (⟨"BlackRoad", "canBePaved", "()Z"⟩, 18) := ⟨⟨by decide +kernel, by decide +kernel⟩, List.mem_of_getElem? (i := 22) (by decide +kernel), List.mem_of_getElem? (i := 957) (by decide +kernel), List.mem_of_getElem? (i := 958) (by decide +kernel)⟩
theorem lw_p20 : lw_okq (⟨"BlackRoad$Paving", "clear", "()V"⟩, 16) := ⟨⟨by decide +kernel, by decide +kernel⟩, List.mem_of_getElem? (i := 413) (by decide +kernel), List.mem_of_getElem? (i := 970) (by decide +kernel), List.mem_of_getElem? (i := 971) (by decide +kernel)⟩
theorem lw_p21 : lw_okq (⟨"BlackRoad$Haulage", "beginFilling", "(II)V"⟩, 15) := ⟨⟨by decide +kernel, by decide +kernel⟩, List.mem_of_getElem? (i := 358) (by decide +kernel), List.mem_of_getElem? (i := 1002) (by decide +kernel), List.mem_of_getElem? (i := 1003) (by decide +kernel)⟩
theorem lw_p22 : lw_okq (⟨"BlackRoad$Haulage", "nextToOrder", "()I"⟩, 15) := ⟨⟨by decide +kernel, by decide +kernel⟩, List.mem_of_getElem? (i := 358) (by decide +kernel), List.mem_of_getElem? (i := 1024) (by decide +kernel), List.mem_of_getElem? (i := 1025) (by decide +kernel)⟩
theorem lw_p23 : lw_okq (⟨"BlackRoad$Haulage", "orderLoad", "(III)V"⟩, 15) := ⟨⟨by decide +kernel, by decide +kernel⟩, List.mem_of_getElem? (i := 358) (by decide +kernel), List.mem_of_getElem? (i := 1029) (by decide +kernel), List.mem_of_getElem? (i := 1030) (by decide +kernel)⟩
theorem lw_p24 : lw_okq (⟨"BlackRoad$Haulage", "leastSent", "(I)I"⟩, 15) := ⟨⟨by decide +kernel, by decide +kernel⟩, List.mem_of_getElem? (i := 358) (by decide +kernel), List.mem_of_getElem? (i := 1037) (by decide +kernel), List.mem_of_getElem? (i := 1038) (by decide +kernel)⟩
theorem lw_p25 : lw_okq (⟨"BlackRoad$Paving", "pave", "(I)V"⟩, 16) := ⟨⟨by decide +kernel, by decide +kernel⟩, List.mem_of_getElem? (i := 413) (by decide +kernel), List.mem_of_getElem? (i := 1062) (by decide +kernel), List.mem_of_getElem? (i := 1063) (by decide +kernel)⟩
theorem lw_p26 : lw_okq (⟨"BlackRoad$Paving", "isFirmBelow", "(I)Z"⟩, 16) := ⟨⟨by decide +kernel, by decide +kernel⟩, List.mem_of_getElem? (i := 413) (by decide +kernel), List.mem_of_getElem? (i := 1066) (by decide +kernel), List.mem_of_getElem? (i := 1067) (by decide +kernel)⟩
theorem lw_p27 : lw_okq (⟨"BlackRoad$Cooling", "cool", "(I)I"⟩, 7) := ⟨⟨by decide +kernel, by decide +kernel⟩, List.mem_of_getElem? (i := 326) (by decide +kernel), List.mem_of_getElem? (i := 1078) (by decide +kernel), List.mem_of_getElem? (i := 1079) (by decide +kernel)⟩
theorem lw_p28 : lw_okq (⟨"BlackRoad$Paving", "layOut", "(II)I"⟩, 16) := ⟨⟨by decide +kernel, by decide +kernel⟩, List.mem_of_getElem? (i := 413) (by decide +kernel), List.mem_of_getElem? (i := 1085) (by decide +kernel), List.mem_of_getElem? (i := 1086) (by decide +kernel)⟩
theorem lw_p29 : lw_okq (⟨"BlackRoad$Paving", "takeLoad", "(I)Z"⟩, 16) := ⟨⟨by decide +kernel, by decide +kernel⟩, List.mem_of_getElem? (i := 413) (by decide +kernel), List.mem_of_getElem? (i := 1095) (by decide +kernel), List.mem_of_getElem? (i := 1096) (by decide +kernel)⟩
theorem lw_p30 : lw_okq (⟨"BlackRoad", "tryPace", "(I)Z"⟩, 18) := ⟨⟨by decide +kernel, by decide +kernel⟩, List.mem_of_getElem? (i := 22) (by decide +kernel), List.mem_of_getElem? (i := 1119) (by decide +kernel), List.mem_of_getElem? (i := 1120) (by decide +kernel)⟩
theorem lw_p31 : lw_okq (⟨"BlackRoad", "isTrialBetter", "()Z"⟩, 18) := ⟨⟨by decide +kernel, by decide +kernel⟩, List.mem_of_getElem? (i := 22) (by decide +kernel), List.mem_of_getElem? (i := 1125) (by decide +kernel), List.mem_of_getElem? (i := 1126) (by decide +kernel)⟩
def lw_privs_2 : List (MethodName × Nat) := [(⟨"BlackRoad$Rate", "opens", "(LBlackRoad$Tape;CI)Z"⟩, 5), (⟨"BlackRoad$Rate", "letter", "(LBlackRoad$Tape;)J"⟩, 5), (⟨"BlackRoad", "isPaved", "(II)Z"⟩, 18), (⟨"BlackRoad", "canBePaved", "()Z"⟩, 18), (⟨"BlackRoad$Paving", "clear", "()V"⟩, 16), (⟨"BlackRoad$Haulage", "beginFilling", "(II)V"⟩, 15), (⟨"BlackRoad$Haulage", "nextToOrder", "()I"⟩, 15), (⟨"BlackRoad$Haulage", "orderLoad", "(III)V"⟩, 15), (⟨"BlackRoad$Haulage", "leastSent", "(I)I"⟩, 15), (⟨"BlackRoad$Paving", "pave", "(I)V"⟩, 16), (⟨"BlackRoad$Paving", "isFirmBelow", "(I)Z"⟩, 16), (⟨"BlackRoad$Cooling", "cool", "(I)I"⟩, 7), (⟨"BlackRoad$Paving", "layOut", "(II)I"⟩, 16), (⟨"BlackRoad$Paving", "takeLoad", "(I)Z"⟩, 16), (⟨"BlackRoad", "tryPace", "(I)Z"⟩, 18), (⟨"BlackRoad", "isTrialBetter", "()Z"⟩, 18)]
theorem lw_r2 : ∀ q ∈ lw_privs_2, lw_okq q := List.forall_mem_cons.mpr ⟨lw_p16, List.forall_mem_cons.mpr ⟨lw_p17, List.forall_mem_cons.mpr ⟨lw_p18, List.forall_mem_cons.mpr ⟨lw_p19, List.forall_mem_cons.mpr ⟨lw_p20, List.forall_mem_cons.mpr ⟨lw_p21, List.forall_mem_cons.mpr ⟨lw_p22, List.forall_mem_cons.mpr ⟨lw_p23, List.forall_mem_cons.mpr ⟨lw_p24, List.forall_mem_cons.mpr ⟨lw_p25, List.forall_mem_cons.mpr ⟨lw_p26, List.forall_mem_cons.mpr ⟨lw_p27, List.forall_mem_cons.mpr ⟨lw_p28, List.forall_mem_cons.mpr ⟨lw_p29, List.forall_mem_cons.mpr ⟨lw_p30, List.forall_mem_cons.mpr ⟨lw_p31, fun _ h => absurd h List.not_mem_nil⟩⟩⟩⟩⟩⟩⟩⟩⟩⟩⟩⟩⟩⟩⟩⟩
theorem lw_p32 : lw_okq (⟨"BlackRoad", "neverStops", "(II)Z"⟩, 18) := ⟨⟨by decide +kernel, by decide +kernel⟩, List.mem_of_getElem? (i := 22) (by decide +kernel), List.mem_of_getElem? (i := 1134) (by decide +kernel), List.mem_of_getElem? (i := 1135) (by decide +kernel)⟩
theorem lw_p33 : lw_okq (⟨"BlackRoad$Rolling", "beginPass", "(II)V"⟩, 12) := ⟨⟨by decide +kernel, by decide +kernel⟩, List.mem_of_getElem? (i := 471) (by decide +kernel), List.mem_of_getElem? (i := 1163) (by decide +kernel), List.mem_of_getElem? (i := 1164) (by decide +kernel)⟩
theorem lw_p34 : lw_okq (⟨"BlackRoad$Rolling", "mayBegin", "(III)Z"⟩, 12) := ⟨⟨by decide +kernel, by decide +kernel⟩, List.mem_of_getElem? (i := 471) (by decide +kernel), List.mem_of_getElem? (i := 1167) (by decide +kernel), List.mem_of_getElem? (i := 1168) (by decide +kernel)⟩
theorem lw_p35 : lw_okq (⟨"BlackRoad", "isColdJoint", "(I)Z"⟩, 18) := ⟨⟨by decide +kernel, by decide +kernel⟩, List.mem_of_getElem? (i := 22) (by decide +kernel), List.mem_of_getElem? (i := 1179) (by decide +kernel), List.mem_of_getElem? (i := 1180) (by decide +kernel)⟩
theorem lw_p36 : lw_okq (⟨"BlackRoad", "denseOf", "(I)I"⟩, 18) := ⟨⟨by decide +kernel, by decide +kernel⟩, List.mem_of_getElem? (i := 22) (by decide +kernel), List.mem_of_getElem? (i := 1184) (by decide +kernel), List.mem_of_getElem? (i := 1185) (by decide +kernel)⟩
theorem lw_p37 : lw_okq (⟨"BlackRoad", "draw", "(II)V"⟩, 18) := ⟨⟨by decide +kernel, by decide +kernel⟩, List.mem_of_getElem? (i := 22) (by decide +kernel), List.mem_of_getElem? (i := 1221) (by decide +kernel), List.mem_of_getElem? (i := 1222) (by decide +kernel)⟩
theorem lw_p38 : lw_okq (⟨"BlackRoadModel", "find", "()I"⟩, 115) := ⟨⟨by decide +kernel, by decide +kernel⟩, List.mem_of_getElem? (i := 1239) (by decide +kernel), List.mem_of_getElem? (i := 1609) (by decide +kernel), List.mem_of_getElem? (i := 1610) (by decide +kernel)⟩
theorem lw_p39 : lw_okq (⟨"BlackRoadModel", "costOf", "(II)I"⟩, 115) := ⟨⟨by decide +kernel, by decide +kernel⟩, List.mem_of_getElem? (i := 1239) (by decide +kernel), List.mem_of_getElem? (i := 1613) (by decide +kernel), List.mem_of_getElem? (i := 1614) (by decide +kernel)⟩
theorem lw_p40 : lw_okq (⟨"BlackRoadModel", "restOf", "(II)I"⟩, 115) := ⟨⟨by decide +kernel, by decide +kernel⟩, List.mem_of_getElem? (i := 1239) (by decide +kernel), List.mem_of_getElem? (i := 1618) (by decide +kernel), List.mem_of_getElem? (i := 1619) (by decide +kernel)⟩
theorem lw_p41 : lw_okq (⟨"BlackRoadModel", "bestOf", "(II)I"⟩, 115) := ⟨⟨by decide +kernel, by decide +kernel⟩, List.mem_of_getElem? (i := 1239) (by decide +kernel), List.mem_of_getElem? (i := 1622) (by decide +kernel), List.mem_of_getElem? (i := 1623) (by decide +kernel)⟩
theorem lw_p42 : lw_okq (⟨"BlackRoadModel", "hasJobs", "()Z"⟩, 115) := ⟨⟨by decide +kernel, by decide +kernel⟩, List.mem_of_getElem? (i := 1239) (by decide +kernel), List.mem_of_getElem? (i := 1638) (by decide +kernel), List.mem_of_getElem? (i := 1639) (by decide +kernel)⟩
theorem lw_p43 : lw_okq (⟨"BlackRoadModel", "four", "(I)V"⟩, 115) := ⟨⟨by decide +kernel, by decide +kernel⟩, List.mem_of_getElem? (i := 1239) (by decide +kernel), List.mem_of_getElem? (i := 1672) (by decide +kernel), List.mem_of_getElem? (i := 1673) (by decide +kernel)⟩
theorem lw_p44 : lw_okq (⟨"BlackRoadModel", "readHours", "()I"⟩, 115) := ⟨⟨by decide +kernel, by decide +kernel⟩, List.mem_of_getElem? (i := 1239) (by decide +kernel), List.mem_of_getElem? (i := 1684) (by decide +kernel), List.mem_of_getElem? (i := 1685) (by decide +kernel)⟩
theorem lw_p45 : lw_okq (⟨"BlackRoadModel", "nextToken", "()V"⟩, 115) := ⟨⟨by decide +kernel, by decide +kernel⟩, List.mem_of_getElem? (i := 1239) (by decide +kernel), List.mem_of_getElem? (i := 1688) (by decide +kernel), List.mem_of_getElem? (i := 1689) (by decide +kernel)⟩
theorem lw_p46 : lw_okq (⟨"BlackRoadModel", "see", "(I)I"⟩, 115) := ⟨⟨by decide +kernel, by decide +kernel⟩, List.mem_of_getElem? (i := 1239) (by decide +kernel), List.mem_of_getElem? (i := 1692) (by decide +kernel), List.mem_of_getElem? (i := 1693) (by decide +kernel)⟩
theorem lw_p47 : lw_okq (⟨"BlackRoadModel", "clause", "()I"⟩, 115) := ⟨⟨by decide +kernel, by decide +kernel⟩, List.mem_of_getElem? (i := 1239) (by decide +kernel), List.mem_of_getElem? (i := 1702) (by decide +kernel), List.mem_of_getElem? (i := 1703) (by decide +kernel)⟩
def lw_privs_3 : List (MethodName × Nat) := [(⟨"BlackRoad", "neverStops", "(II)Z"⟩, 18), (⟨"BlackRoad$Rolling", "beginPass", "(II)V"⟩, 12), (⟨"BlackRoad$Rolling", "mayBegin", "(III)Z"⟩, 12), (⟨"BlackRoad", "isColdJoint", "(I)Z"⟩, 18), (⟨"BlackRoad", "denseOf", "(I)I"⟩, 18), (⟨"BlackRoad", "draw", "(II)V"⟩, 18), (⟨"BlackRoadModel", "find", "()I"⟩, 115), (⟨"BlackRoadModel", "costOf", "(II)I"⟩, 115), (⟨"BlackRoadModel", "restOf", "(II)I"⟩, 115), (⟨"BlackRoadModel", "bestOf", "(II)I"⟩, 115), (⟨"BlackRoadModel", "hasJobs", "()Z"⟩, 115), (⟨"BlackRoadModel", "four", "(I)V"⟩, 115), (⟨"BlackRoadModel", "readHours", "()I"⟩, 115), (⟨"BlackRoadModel", "nextToken", "()V"⟩, 115), (⟨"BlackRoadModel", "see", "(I)I"⟩, 115), (⟨"BlackRoadModel", "clause", "()I"⟩, 115)]
theorem lw_r3 : ∀ q ∈ lw_privs_3, lw_okq q := List.forall_mem_cons.mpr ⟨lw_p32, List.forall_mem_cons.mpr ⟨lw_p33, List.forall_mem_cons.mpr ⟨lw_p34, List.forall_mem_cons.mpr ⟨lw_p35, List.forall_mem_cons.mpr ⟨lw_p36, List.forall_mem_cons.mpr ⟨lw_p37, List.forall_mem_cons.mpr ⟨lw_p38, List.forall_mem_cons.mpr ⟨lw_p39, List.forall_mem_cons.mpr ⟨lw_p40, List.forall_mem_cons.mpr ⟨lw_p41, List.forall_mem_cons.mpr ⟨lw_p42, List.forall_mem_cons.mpr ⟨lw_p43, List.forall_mem_cons.mpr ⟨lw_p44, List.forall_mem_cons.mpr ⟨lw_p45, List.forall_mem_cons.mpr ⟨lw_p46, List.forall_mem_cons.mpr ⟨lw_p47, fun _ h => absurd h List.not_mem_nil⟩⟩⟩⟩⟩⟩⟩⟩⟩⟩⟩⟩⟩⟩⟩⟩
theorem lw_p48 : lw_okq (⟨"BlackRoadModel", "wordOf", "()I"⟩, 115) := ⟨⟨by decide +kernel, by decide +kernel⟩, List.mem_of_getElem? (i := 1239) (by decide +kernel), List.mem_of_getElem? (i := 1706) (by decide +kernel), List.mem_of_getElem? (i := 1707) (by decide +kernel)⟩
theorem lw_p49 : lw_okq (⟨"BlackRoadModel", "inClause", "(II)I"⟩, 115) := ⟨⟨by decide +kernel, by decide +kernel⟩, List.mem_of_getElem? (i := 1239) (by decide +kernel), List.mem_of_getElem? (i := 1714) (by decide +kernel), List.mem_of_getElem? (i := 1715) (by decide +kernel)⟩
theorem lw_p50 : lw_okq (⟨"BlackRoadModel", "take", "(II)I"⟩, 115) := ⟨⟨by decide +kernel, by decide +kernel⟩, List.mem_of_getElem? (i := 1239) (by decide +kernel), List.mem_of_getElem? (i := 1718) (by decide +kernel), List.mem_of_getElem? (i := 1719) (by decide +kernel)⟩
theorem lw_p51 : lw_okq (⟨"BlackRoadModel", "need", "(I)I"⟩, 115) := ⟨⟨by decide +kernel, by decide +kernel⟩, List.mem_of_getElem? (i := 1239) (by decide +kernel), List.mem_of_getElem? (i := 1722) (by decide +kernel), List.mem_of_getElem? (i := 1723) (by decide +kernel)⟩
theorem lw_p52 : lw_okq (⟨"BlackRoadModel", "isTold", "(I)Z"⟩, 115) := ⟨⟨by decide +kernel, by decide +kernel⟩, List.mem_of_getElem? (i := 1239) (by decide +kernel), List.mem_of_getElem? (i := 1726) (by decide +kernel), List.mem_of_getElem? (i := 1727) (by decide +kernel)⟩
theorem lw_p53 : lw_okq (⟨"BlackRoadModel", "manyWorlds", "()I"⟩, 115) := ⟨⟨by decide +kernel, by decide +kernel⟩, List.mem_of_getElem? (i := 1239) (by decide +kernel), List.mem_of_getElem? (i := 1738) (by decide +kernel), List.mem_of_getElem? (i := 1739) (by decide +kernel)⟩
theorem lw_p54 : lw_okq (⟨"BlackRoadModel", "isOpen", "(II)Z"⟩, 115) := ⟨⟨by decide +kernel, by decide +kernel⟩, List.mem_of_getElem? (i := 1239) (by decide +kernel), List.mem_of_getElem? (i := 1742) (by decide +kernel), List.mem_of_getElem? (i := 1743) (by decide +kernel)⟩
theorem lw_p55 : lw_okq (⟨"BlackRoadModel", "holds", "(III)Z"⟩, 115) := ⟨⟨by decide +kernel, by decide +kernel⟩, List.mem_of_getElem? (i := 1239) (by decide +kernel), List.mem_of_getElem? (i := 1746) (by decide +kernel), List.mem_of_getElem? (i := 1747) (by decide +kernel)⟩
theorem lw_p56 : lw_okq (⟨"BlackRoadModel", "haulOf", "(III)I"⟩, 115) := ⟨⟨by decide +kernel, by decide +kernel⟩, List.mem_of_getElem? (i := 1239) (by decide +kernel), List.mem_of_getElem? (i := 1750) (by decide +kernel), List.mem_of_getElem? (i := 1751) (by decide +kernel)⟩
theorem lw_p57 : lw_okq (⟨"BlackRoadModel", "isShut", "(III)Z"⟩, 115) := ⟨⟨by decide +kernel, by decide +kernel⟩, List.mem_of_getElem? (i := 1239) (by decide +kernel), List.mem_of_getElem? (i := 1754) (by decide +kernel), List.mem_of_getElem? (i := 1755) (by decide +kernel)⟩
theorem lw_p58 : lw_okq (⟨"BlackRoadModel", "isRun", "(II)Z"⟩, 115) := ⟨⟨by decide +kernel, by decide +kernel⟩, List.mem_of_getElem? (i := 1239) (by decide +kernel), List.mem_of_getElem? (i := 1762) (by decide +kernel), List.mem_of_getElem? (i := 1763) (by decide +kernel)⟩
theorem lw_p59 : lw_okq (⟨"BlackRoadModel", "goes", "(II)Z"⟩, 115) := ⟨⟨by decide +kernel, by decide +kernel⟩, List.mem_of_getElem? (i := 1239) (by decide +kernel), List.mem_of_getElem? (i := 1766) (by decide +kernel), List.mem_of_getElem? (i := 1767) (by decide +kernel)⟩
theorem lw_p60 : lw_okq (⟨"BlackRoadModel", "hasPlants", "()Z"⟩, 115) := ⟨⟨by decide +kernel, by decide +kernel⟩, List.mem_of_getElem? (i := 1239) (by decide +kernel), List.mem_of_getElem? (i := 1770) (by decide +kernel), List.mem_of_getElem? (i := 1771) (by decide +kernel)⟩
theorem lw_p61 : lw_okq (⟨"BlackRoadModel", "begin", "(II)V"⟩, 115) := ⟨⟨by decide +kernel, by decide +kernel⟩, List.mem_of_getElem? (i := 1239) (by decide +kernel), List.mem_of_getElem? (i := 1774) (by decide +kernel), List.mem_of_getElem? (i := 1775) (by decide +kernel)⟩
theorem lw_p62 : lw_okq (⟨"BlackRoadModel", "comeIn", "(I)V"⟩, 115) := ⟨⟨by decide +kernel, by decide +kernel⟩, List.mem_of_getElem? (i := 1239) (by decide +kernel), List.mem_of_getElem? (i := 1778) (by decide +kernel), List.mem_of_getElem? (i := 1779) (by decide +kernel)⟩
theorem lw_p63 : lw_okq (⟨"BlackRoadModel", "plantsGo", "(I)V"⟩, 115) := ⟨⟨by decide +kernel, by decide +kernel⟩, List.mem_of_getElem? (i := 1239) (by decide +kernel), List.mem_of_getElem? (i := 1782) (by decide +kernel), List.mem_of_getElem? (i := 1783) (by decide +kernel)⟩
def lw_privs_4 : List (MethodName × Nat) := [(⟨"BlackRoadModel", "wordOf", "()I"⟩, 115), (⟨"BlackRoadModel", "inClause", "(II)I"⟩, 115), (⟨"BlackRoadModel", "take", "(II)I"⟩, 115), (⟨"BlackRoadModel", "need", "(I)I"⟩, 115), (⟨"BlackRoadModel", "isTold", "(I)Z"⟩, 115), (⟨"BlackRoadModel", "manyWorlds", "()I"⟩, 115), (⟨"BlackRoadModel", "isOpen", "(II)Z"⟩, 115), (⟨"BlackRoadModel", "holds", "(III)Z"⟩, 115), (⟨"BlackRoadModel", "haulOf", "(III)I"⟩, 115), (⟨"BlackRoadModel", "isShut", "(III)Z"⟩, 115), (⟨"BlackRoadModel", "isRun", "(II)Z"⟩, 115), (⟨"BlackRoadModel", "goes", "(II)Z"⟩, 115), (⟨"BlackRoadModel", "hasPlants", "()Z"⟩, 115), (⟨"BlackRoadModel", "begin", "(II)V"⟩, 115), (⟨"BlackRoadModel", "comeIn", "(I)V"⟩, 115), (⟨"BlackRoadModel", "plantsGo", "(I)V"⟩, 115)]
theorem lw_r4 : ∀ q ∈ lw_privs_4, lw_okq q := List.forall_mem_cons.mpr ⟨lw_p48, List.forall_mem_cons.mpr ⟨lw_p49, List.forall_mem_cons.mpr ⟨lw_p50, List.forall_mem_cons.mpr ⟨lw_p51, List.forall_mem_cons.mpr ⟨lw_p52, List.forall_mem_cons.mpr ⟨lw_p53, List.forall_mem_cons.mpr ⟨lw_p54, List.forall_mem_cons.mpr ⟨lw_p55, List.forall_mem_cons.mpr ⟨lw_p56, List.forall_mem_cons.mpr ⟨lw_p57, List.forall_mem_cons.mpr ⟨lw_p58, List.forall_mem_cons.mpr ⟨lw_p59, List.forall_mem_cons.mpr ⟨lw_p60, List.forall_mem_cons.mpr ⟨lw_p61, List.forall_mem_cons.mpr ⟨lw_p62, List.forall_mem_cons.mpr ⟨lw_p63, fun _ h => absurd h List.not_mem_nil⟩⟩⟩⟩⟩⟩⟩⟩⟩⟩⟩⟩⟩⟩⟩⟩
theorem lw_p64 : lw_okq (⟨"BlackRoadModel", "firstAtPlant", "(I)I"⟩, 115) := ⟨⟨by decide +kernel, by decide +kernel⟩, List.mem_of_getElem? (i := 1239) (by decide +kernel), List.mem_of_getElem? (i := 1786) (by decide +kernel), List.mem_of_getElem? (i := 1787) (by decide +kernel)⟩
theorem lw_p65 : lw_okq (⟨"BlackRoadModel", "order", "(II)V"⟩, 115) := ⟨⟨by decide +kernel, by decide +kernel⟩, List.mem_of_getElem? (i := 1239) (by decide +kernel), List.mem_of_getElem? (i := 1790) (by decide +kernel), List.mem_of_getElem? (i := 1791) (by decide +kernel)⟩
theorem lw_p66 : lw_okq (⟨"BlackRoadModel", "plantFor", "(I)I"⟩, 115) := ⟨⟨by decide +kernel, by decide +kernel⟩, List.mem_of_getElem? (i := 1239) (by decide +kernel), List.mem_of_getElem? (i := 1794) (by decide +kernel), List.mem_of_getElem? (i := 1795) (by decide +kernel)⟩
theorem lw_p67 : lw_okq (⟨"BlackRoadModel", "sentTo", "(I)I"⟩, 115) := ⟨⟨by decide +kernel, by decide +kernel⟩, List.mem_of_getElem? (i := 1239) (by decide +kernel), List.mem_of_getElem? (i := 1798) (by decide +kernel), List.mem_of_getElem? (i := 1799) (by decide +kernel)⟩
theorem lw_p68 : lw_okq (⟨"BlackRoadModel", "paves", "(I)V"⟩, 115) := ⟨⟨by decide +kernel, by decide +kernel⟩, List.mem_of_getElem? (i := 1239) (by decide +kernel), List.mem_of_getElem? (i := 1802) (by decide +kernel), List.mem_of_getElem? (i := 1803) (by decide +kernel)⟩
theorem lw_p69 : lw_okq (⟨"BlackRoadModel", "isFirm", "(I)Z"⟩, 115) := ⟨⟨by decide +kernel, by decide +kernel⟩, List.mem_of_getElem? (i := 1239) (by decide +kernel), List.mem_of_getElem? (i := 1806) (by decide +kernel), List.mem_of_getElem? (i := 1807) (by decide +kernel)⟩
theorem lw_p70 : lw_okq (⟨"BlackRoadModel", "meanOf", "(II)I"⟩, 115) := ⟨⟨by decide +kernel, by decide +kernel⟩, List.mem_of_getElem? (i := 1239) (by decide +kernel), List.mem_of_getElem? (i := 1810) (by decide +kernel), List.mem_of_getElem? (i := 1811) (by decide +kernel)⟩
theorem lw_p71 : lw_okq (⟨"BlackRoadModel", "firstWaiting", "(I)I"⟩, 115) := ⟨⟨by decide +kernel, by decide +kernel⟩, List.mem_of_getElem? (i := 1239) (by decide +kernel), List.mem_of_getElem? (i := 1814) (by decide +kernel), List.mem_of_getElem? (i := 1815) (by decide +kernel)⟩
theorem lw_p72 : lw_okq (⟨"BlackRoadModel", "takes", "(II)V"⟩, 115) := ⟨⟨by decide +kernel, by decide +kernel⟩, List.mem_of_getElem? (i := 1239) (by decide +kernel), List.mem_of_getElem? (i := 1818) (by decide +kernel), List.mem_of_getElem? (i := 1819) (by decide +kernel)⟩
theorem lw_p73 : lw_okq (⟨"BlackRoadModel", "cool", "(I)V"⟩, 115) := ⟨⟨by decide +kernel, by decide +kernel⟩, List.mem_of_getElem? (i := 1239) (by decide +kernel), List.mem_of_getElem? (i := 1822) (by decide +kernel), List.mem_of_getElem? (i := 1823) (by decide +kernel)⟩
theorem lw_p74 : lw_okq (⟨"BlackRoadModel", "goInAll", "(I)Z"⟩, 115) := ⟨⟨by decide +kernel, by decide +kernel⟩, List.mem_of_getElem? (i := 1239) (by decide +kernel), List.mem_of_getElem? (i := 1831) (by decide +kernel), List.mem_of_getElem? (i := 1832) (by decide +kernel)⟩
theorem lw_p75 : lw_okq (⟨"BlackRoadModel", "roll", "()V"⟩, 115) := ⟨⟨by decide +kernel, by decide +kernel⟩, List.mem_of_getElem? (i := 1239) (by decide +kernel), List.mem_of_getElem? (i := 1855) (by decide +kernel), List.mem_of_getElem? (i := 1856) (by decide +kernel)⟩
theorem lw_p76 : lw_okq (⟨"BlackRoadModel", "settle", "(I)V"⟩, 115) := ⟨⟨by decide +kernel, by decide +kernel⟩, List.mem_of_getElem? (i := 1239) (by decide +kernel), List.mem_of_getElem? (i := 1859) (by decide +kernel), List.mem_of_getElem? (i := 1860) (by decide +kernel)⟩
theorem lw_p77 : lw_okq (⟨"BlackRoadModel", "rollOne", "(II)V"⟩, 115) := ⟨⟨by decide +kernel, by decide +kernel⟩, List.mem_of_getElem? (i := 1239) (by decide +kernel), List.mem_of_getElem? (i := 1863) (by decide +kernel), List.mem_of_getElem? (i := 1864) (by decide +kernel)⟩
theorem lw_p78 : lw_okq (⟨"BlackRoadModel", "mayRoll", "(III)Z"⟩, 115) := ⟨⟨by decide +kernel, by decide +kernel⟩, List.mem_of_getElem? (i := 1239) (by decide +kernel), List.mem_of_getElem? (i := 1867) (by decide +kernel), List.mem_of_getElem? (i := 1868) (by decide +kernel)⟩
theorem lw_p79 : lw_okq (⟨"BlackRoadModel", "isCold", "(I)Z"⟩, 115) := ⟨⟨by decide +kernel, by decide +kernel⟩, List.mem_of_getElem? (i := 1239) (by decide +kernel), List.mem_of_getElem? (i := 1871) (by decide +kernel), List.mem_of_getElem? (i := 1872) (by decide +kernel)⟩
def lw_privs_5 : List (MethodName × Nat) := [(⟨"BlackRoadModel", "firstAtPlant", "(I)I"⟩, 115), (⟨"BlackRoadModel", "order", "(II)V"⟩, 115), (⟨"BlackRoadModel", "plantFor", "(I)I"⟩, 115), (⟨"BlackRoadModel", "sentTo", "(I)I"⟩, 115), (⟨"BlackRoadModel", "paves", "(I)V"⟩, 115), (⟨"BlackRoadModel", "isFirm", "(I)Z"⟩, 115), (⟨"BlackRoadModel", "meanOf", "(II)I"⟩, 115), (⟨"BlackRoadModel", "firstWaiting", "(I)I"⟩, 115), (⟨"BlackRoadModel", "takes", "(II)V"⟩, 115), (⟨"BlackRoadModel", "cool", "(I)V"⟩, 115), (⟨"BlackRoadModel", "goInAll", "(I)Z"⟩, 115), (⟨"BlackRoadModel", "roll", "()V"⟩, 115), (⟨"BlackRoadModel", "settle", "(I)V"⟩, 115), (⟨"BlackRoadModel", "rollOne", "(II)V"⟩, 115), (⟨"BlackRoadModel", "mayRoll", "(III)Z"⟩, 115), (⟨"BlackRoadModel", "isCold", "(I)Z"⟩, 115)]
theorem lw_r5 : ∀ q ∈ lw_privs_5, lw_okq q := List.forall_mem_cons.mpr ⟨lw_p64, List.forall_mem_cons.mpr ⟨lw_p65, List.forall_mem_cons.mpr ⟨lw_p66, List.forall_mem_cons.mpr ⟨lw_p67, List.forall_mem_cons.mpr ⟨lw_p68, List.forall_mem_cons.mpr ⟨lw_p69, List.forall_mem_cons.mpr ⟨lw_p70, List.forall_mem_cons.mpr ⟨lw_p71, List.forall_mem_cons.mpr ⟨lw_p72, List.forall_mem_cons.mpr ⟨lw_p73, List.forall_mem_cons.mpr ⟨lw_p74, List.forall_mem_cons.mpr ⟨lw_p75, List.forall_mem_cons.mpr ⟨lw_p76, List.forall_mem_cons.mpr ⟨lw_p77, List.forall_mem_cons.mpr ⟨lw_p78, List.forall_mem_cons.mpr ⟨lw_p79, fun _ h => absurd h List.not_mem_nil⟩⟩⟩⟩⟩⟩⟩⟩⟩⟩⟩⟩⟩⟩⟩⟩
theorem lw_p80 : lw_okq (⟨"BlackRoadModel", "denseOf", "(I)I"⟩, 115) := ⟨⟨by decide +kernel, by decide +kernel⟩, List.mem_of_getElem? (i := 1239) (by decide +kernel), List.mem_of_getElem? (i := 1875) (by decide +kernel), List.mem_of_getElem? (i := 1876) (by decide +kernel)⟩
theorem lw_p81 : lw_okq (⟨"BlackRoadModel", "missedOf", "(I)I"⟩, 115) := ⟨⟨by decide +kernel, by decide +kernel⟩, List.mem_of_getElem? (i := 1239) (by decide +kernel), List.mem_of_getElem? (i := 1879) (by decide +kernel), List.mem_of_getElem? (i := 1880) (by decide +kernel)⟩
theorem lw_p82 : lw_okq (⟨"BlackRoadModel", "readRate", "()I"⟩, 115) := ⟨⟨by decide +kernel, by decide +kernel⟩, List.mem_of_getElem? (i := 1239) (by decide +kernel), List.mem_of_getElem? (i := 1887) (by decide +kernel), List.mem_of_getElem? (i := 1888) (by decide +kernel)⟩
theorem lw_p83 : lw_okq (⟨"BlackRoadModel", "behindOne", "()I"⟩, 115) := ⟨⟨by decide +kernel, by decide +kernel⟩, List.mem_of_getElem? (i := 1239) (by decide +kernel), List.mem_of_getElem? (i := 1891) (by decide +kernel), List.mem_of_getElem? (i := 1892) (by decide +kernel)⟩
theorem lw_p84 : lw_okq (⟨"BlackRoadModel", "settleTo", "(I)V"⟩, 115) := ⟨⟨by decide +kernel, by decide +kernel⟩, List.mem_of_getElem? (i := 1239) (by decide +kernel), List.mem_of_getElem? (i := 1895) (by decide +kernel), List.mem_of_getElem? (i := 1896) (by decide +kernel)⟩
theorem lw_p85 : lw_okq (⟨"BlackRoadModel", "emit", "(II)V"⟩, 115) := ⟨⟨by decide +kernel, by decide +kernel⟩, List.mem_of_getElem? (i := 1239) (by decide +kernel), List.mem_of_getElem? (i := 1899) (by decide +kernel), List.mem_of_getElem? (i := 1900) (by decide +kernel)⟩
theorem lw_p86 : lw_okq (⟨"BlackRoadModel", "push", "(I)V"⟩, 115) := ⟨⟨by decide +kernel, by decide +kernel⟩, List.mem_of_getElem? (i := 1239) (by decide +kernel), List.mem_of_getElem? (i := 1903) (by decide +kernel), List.mem_of_getElem? (i := 1904) (by decide +kernel)⟩
theorem lw_p87 : lw_okq (⟨"BlackRoadModel", "whole", "()V"⟩, 115) := ⟨⟨by decide +kernel, by decide +kernel⟩, List.mem_of_getElem? (i := 1239) (by decide +kernel), List.mem_of_getElem? (i := 1907) (by decide +kernel), List.mem_of_getElem? (i := 1908) (by decide +kernel)⟩
theorem lw_p88 : lw_okq (⟨"BlackRoadModel", "beginOne", "()I"⟩, 115) := ⟨⟨by decide +kernel, by decide +kernel⟩, List.mem_of_getElem? (i := 1239) (by decide +kernel), List.mem_of_getElem? (i := 1911) (by decide +kernel), List.mem_of_getElem? (i := 1912) (by decide +kernel)⟩
theorem lw_p89 : lw_okq (⟨"BlackRoadModel", "letterOf", "()I"⟩, 115) := ⟨⟨by decide +kernel, by decide +kernel⟩, List.mem_of_getElem? (i := 1239) (by decide +kernel), List.mem_of_getElem? (i := 1915) (by decide +kernel), List.mem_of_getElem? (i := 1916) (by decide +kernel)⟩
theorem lw_p90 : lw_okq (⟨"BlackRoadModel", "work", "(IIII)I"⟩, 115) := ⟨⟨by decide +kernel, by decide +kernel⟩, List.mem_of_getElem? (i := 1239) (by decide +kernel), List.mem_of_getElem? (i := 1931) (by decide +kernel), List.mem_of_getElem? (i := 1932) (by decide +kernel)⟩
theorem lw_p91 : lw_okq (⟨"BlackRoadModel", "isDrawn", "(II)Z"⟩, 115) := ⟨⟨by decide +kernel, by decide +kernel⟩, List.mem_of_getElem? (i := 1239) (by decide +kernel), List.mem_of_getElem? (i := 1948) (by decide +kernel), List.mem_of_getElem? (i := 1949) (by decide +kernel)⟩
def lw_privs_6 : List (MethodName × Nat) := [(⟨"BlackRoadModel", "denseOf", "(I)I"⟩, 115), (⟨"BlackRoadModel", "missedOf", "(I)I"⟩, 115), (⟨"BlackRoadModel", "readRate", "()I"⟩, 115), (⟨"BlackRoadModel", "behindOne", "()I"⟩, 115), (⟨"BlackRoadModel", "settleTo", "(I)V"⟩, 115), (⟨"BlackRoadModel", "emit", "(II)V"⟩, 115), (⟨"BlackRoadModel", "push", "(I)V"⟩, 115), (⟨"BlackRoadModel", "whole", "()V"⟩, 115), (⟨"BlackRoadModel", "beginOne", "()I"⟩, 115), (⟨"BlackRoadModel", "letterOf", "()I"⟩, 115), (⟨"BlackRoadModel", "work", "(IIII)I"⟩, 115), (⟨"BlackRoadModel", "isDrawn", "(II)Z"⟩, 115)]
theorem lw_r6 : ∀ q ∈ lw_privs_6, lw_okq q := List.forall_mem_cons.mpr ⟨lw_p80, List.forall_mem_cons.mpr ⟨lw_p81, List.forall_mem_cons.mpr ⟨lw_p82, List.forall_mem_cons.mpr ⟨lw_p83, List.forall_mem_cons.mpr ⟨lw_p84, List.forall_mem_cons.mpr ⟨lw_p85, List.forall_mem_cons.mpr ⟨lw_p86, List.forall_mem_cons.mpr ⟨lw_p87, List.forall_mem_cons.mpr ⟨lw_p88, List.forall_mem_cons.mpr ⟨lw_p89, List.forall_mem_cons.mpr ⟨lw_p90, List.forall_mem_cons.mpr ⟨lw_p91, fun _ h => absurd h List.not_mem_nil⟩⟩⟩⟩⟩⟩⟩⟩⟩⟩⟩⟩
def lw_privs : List (MethodName × Nat) := lw_privs_1 ++ (lw_privs_2 ++ (lw_privs_3 ++ (lw_privs_4 ++ (lw_privs_5 ++ (lw_privs_6)))))
def lw_tbl : List Cond := k2_sels lw_privs ++ tables_1
theorem lw_privs_ok : ∀ q ∈ lw_privs, lw_okq q := by
  show ∀ q ∈ lw_privs_1 ++ (lw_privs_2 ++ (lw_privs_3 ++ (lw_privs_4 ++ (lw_privs_5 ++ (lw_privs_6))))), lw_okq q
  exact List.forall_mem_append.mpr ⟨lw_r1, List.forall_mem_append.mpr ⟨lw_r2, List.forall_mem_append.mpr ⟨lw_r3, List.forall_mem_append.mpr ⟨lw_r4, List.forall_mem_append.mpr ⟨lw_r5, lw_r6⟩⟩⟩⟩⟩
end
section
/-! names, field tables: printed by the kit's program (claim/NAMES.whole), the decode rows left out -/
def RX0 : String := "BlackRoad$Cooling"
def TX0 : u_T := fun k => match k with
  | 0 => ("BlackRoad$Cooling", "laidAt", "[I", true)
  | 1 => ("BlackRoad$Cooling", "heats", "[I", true)
  | 2 => ("BlackRoad$Cooling", "known", "[I", true)
  | 3 => ("BlackRoad$Cooling", "shells", "[I", true)
  | 4 => ("BlackRoad$Cooling", "means", "[I", true)
  | 5 => ("BlackRoad$Cooling", "road", "LBlackRoad$Road;", true)
  | _ => ("BlackRoad$Cooling", "warmth", "LBlackRoad$Warmth;", true)
def tyX0 : Nat → FieldType := fun k => match k with
  | 0 => .array .int
  | 1 => .array .int
  | 2 => .array .int
  | 3 => .array .int
  | 4 => .array .int
  | 5 => .object "BlackRoad$Road"
  | _ => .object "BlackRoad$Warmth"
abbrev wsX00 : List Cond := u_ws RX0 TX0 7
theorem nmX0 : ∀ a, a < 7 → ∀ b, b < 7 → a ≠ b → (TX0 a).2.1 ≠ (TX0 b).2.1 := by decide +kernel
theorem tyX0_ok : ∀ k, k < 7 → parseFieldDescriptor (TX0 k).2.2.1 = some (tyX0 k) := by decide +kernel
abbrev cX0_init : ByteArray := prog_2_method_1_code
def yX0_init : MethodName := ⟨RX0, "<init>", "(LBlackRoad$Road;LBlackRoad$Warmth;)V"⟩
abbrev cX0_begin : ByteArray := prog_2_method_2_code
def yX0_begin : MethodName := ⟨RX0, "begin", "(III)V"⟩
abbrev cX0_meanAt : ByteArray := prog_2_method_3_code
def yX0_meanAt : MethodName := ⟨RX0, "meanAt", "(II)I"⟩
abbrev cX0_meanBehind : ByteArray := prog_2_method_4_code
def yX0_meanBehind : MethodName := ⟨RX0, "meanBehind", "(II)I"⟩
abbrev cX0_cool : ByteArray := prog_2_method_5_code
def yX0_cool : MethodName := ⟨RX0, "cool", "(I)I"⟩
def RX1 : String := "BlackRoad$Haulage"
def TX1 : u_T := fun k => match k with
  | 0 => ("BlackRoad$Haulage", "plants", "LBlackRoad$Plants;", true)
  | 1 => ("BlackRoad$Haulage", "hours", "LBlackRoad$Hours;", true)
  | 2 => ("BlackRoad$Haulage", "loads", "LBlackRoad$Loads;", true)
  | 3 => ("BlackRoad$Haulage", "road", "LBlackRoad$Road;", true)
  | 4 => ("BlackRoad$Haulage", "world", "I", false)
  | 5 => ("BlackRoad$Haulage", "trucks", "I", false)
  | 6 => ("BlackRoad$Haulage", "orderedUpTo", "I", false)
  | 7 => ("BlackRoad$Haulage", "stock", "[I", true)
  | 8 => ("BlackRoad$Haulage", "filling", "[I", true)
  | 9 => ("BlackRoad$Haulage", "readyAt", "[I", true)
  | 10 => ("BlackRoad$Haulage", "sent", "[I", true)
  | 11 => ("BlackRoad$Haulage", "doing", "[I", true)
  | 12 => ("BlackRoad$Haulage", "comes", "[I", true)
  | 13 => ("BlackRoad$Haulage", "carried", "[I", true)
  | _ => ("BlackRoad$Haulage", "ordered", "[I", true)
def tyX1 : Nat → FieldType := fun k => match k with
  | 0 => .object "BlackRoad$Plants"
  | 1 => .object "BlackRoad$Hours"
  | 2 => .object "BlackRoad$Loads"
  | 3 => .object "BlackRoad$Road"
  | 4 => .int
  | 5 => .int
  | 6 => .int
  | 7 => .array .int
  | 8 => .array .int
  | 9 => .array .int
  | 10 => .array .int
  | 11 => .array .int
  | 12 => .array .int
  | 13 => .array .int
  | _ => .array .int
abbrev wsX10 : List Cond := u_ws RX1 TX1 15
theorem nmX1 : ∀ a, a < 15 → ∀ b, b < 15 → a ≠ b → (TX1 a).2.1 ≠ (TX1 b).2.1 := by decide +kernel
theorem tyX1_ok : ∀ k, k < 15 → parseFieldDescriptor (TX1 k).2.2.1 = some (tyX1 k) := by decide +kernel
abbrev cX1_init : ByteArray := prog_3_method_1_code
def yX1_init : MethodName := ⟨RX1, "<init>", "(LBlackRoad$Road;LBlackRoad$Plants;LBlackRoad$Hours;LBlackRoad$Loads;)V"⟩
abbrev cX1_begin : ByteArray := prog_3_method_2_code
def yX1_begin : MethodName := ⟨RX1, "begin", "(II)V"⟩
abbrev cX1_makeMix : ByteArray := prog_3_method_3_code
def yX1_makeMix : MethodName := ⟨RX1, "makeMix", "(I)V"⟩
abbrev cX1_comeIn : ByteArray := prog_3_method_4_code
def yX1_comeIn : MethodName := ⟨RX1, "comeIn", "(I)V"⟩
abbrev cX1_servePlant : ByteArray := prog_3_method_5_code
def yX1_servePlant : MethodName := ⟨RX1, "servePlant", "(II)V"⟩
abbrev cX1_beginFilling : ByteArray := prog_3_method_6_code
def yX1_beginFilling : MethodName := ⟨RX1, "beginFilling", "(II)V"⟩
abbrev cX1_firstStanding : ByteArray := prog_3_method_7_code
def yX1_firstStanding : MethodName := ⟨RX1, "firstStanding", "(III)I"⟩
abbrev cX1_orderLoads : ByteArray := prog_3_method_8_code
def yX1_orderLoads : MethodName := ⟨RX1, "orderLoads", "(I)V"⟩
abbrev cX1_nextToOrder : ByteArray := prog_3_method_9_code
def yX1_nextToOrder : MethodName := ⟨RX1, "nextToOrder", "()I"⟩
abbrev cX1_orderLoad : ByteArray := prog_3_method_10_code
def yX1_orderLoad : MethodName := ⟨RX1, "orderLoad", "(III)V"⟩
abbrev cX1_leastSent : ByteArray := prog_3_method_11_code
def yX1_leastSent : MethodName := ⟨RX1, "leastSent", "(I)I"⟩
abbrev cX1_unload : ByteArray := prog_3_method_12_code
def yX1_unload : MethodName := ⟨RX1, "unload", "(I)I"⟩
abbrev cX1_orderAgain : ByteArray := prog_3_method_13_code
def yX1_orderAgain : MethodName := ⟨RX1, "orderAgain", "(I)V"⟩
def RX2 : String := "BlackRoad$Hours"
def TX2 : u_T := fun k => match k with
  | 0 => ("BlackRoad$Hours", "kinds", "[I", true)
  | 1 => ("BlackRoad$Hours", "owners", "[I", true)
  | 2 => ("BlackRoad$Hours", "places", "[I", true)
  | 3 => ("BlackRoad$Hours", "froms", "[I", true)
  | 4 => ("BlackRoad$Hours", "tills", "[I", true)
  | 5 => ("BlackRoad$Hours", "bits", "[I", true)
  | 6 => ("BlackRoad$Hours", "count", "I", false)
  | 7 => ("BlackRoad$Hours", "worldCount", "I", false)
  | 8 => ("BlackRoad$Hours", "told", "I", false)
  | _ => ("BlackRoad$Hours", "worldsTold", "I", false)
def tyX2 : Nat → FieldType := fun k => match k with
  | 0 => .array .int
  | 1 => .array .int
  | 2 => .array .int
  | 3 => .array .int
  | 4 => .array .int
  | 5 => .array .int
  | 6 => .int
  | 7 => .int
  | 8 => .int
  | _ => .int
abbrev wsX20 : List Cond := u_ws RX2 TX2 10
theorem nmX2 : ∀ a, a < 10 → ∀ b, b < 10 → a ≠ b → (TX2 a).2.1 ≠ (TX2 b).2.1 := by decide +kernel
theorem tyX2_ok : ∀ k, k < 10 → parseFieldDescriptor (TX2 k).2.2.1 = some (tyX2 k) := by decide +kernel
abbrev cX2_init : ByteArray := prog_4_method_1_code
def yX2_init : MethodName := ⟨RX2, "<init>", "()V"⟩
abbrev cX2_read : ByteArray := prog_4_method_2_code
def yX2_read : MethodName := ⟨RX2, "read", "(LBlackRoad$Tape;)Z"⟩
abbrev cX2_scan : ByteArray := prog_4_method_3_code
def yX2_scan : MethodName := ⟨RX2, "scan", "(LBlackRoad$Tape;Z)V"⟩
abbrev cX2_passClause : ByteArray := prog_4_method_4_code
def yX2_passClause : MethodName := ⟨RX2, "passClause", "(LBlackRoad$Tape;Z)V"⟩
abbrev cX2_kindOf : ByteArray := prog_4_method_5_code
def yX2_kindOf : MethodName := ⟨RX2, "kindOf", "(LBlackRoad$Tape;)I"⟩
abbrev cX2_holds : ByteArray := prog_4_method_6_code
def yX2_holds : MethodName := ⟨RX2, "holds", "(II)Z"⟩
abbrev cX2_markWorld : ByteArray := prog_4_method_7_code
def yX2_markWorld : MethodName := ⟨RX2, "markWorld", "(I)V"⟩
abbrev cX2_mark : ByteArray := prog_4_method_8_code
def yX2_mark : MethodName := ⟨RX2, "mark", "(III)V"⟩
abbrev cX2_wet : ByteArray := prog_4_method_9_code
def yX2_wet : MethodName := ⟨RX2, "wet", "(II)V"⟩
abbrev cX2_shutBit : ByteArray := prog_4_method_10_code
def yX2_shutBit : MethodName := ⟨RX2, "shutBit", "(I)I"⟩
abbrev cX2_isOpen : ByteArray := prog_4_method_11_code
def yX2_isOpen : MethodName := ⟨RX2, "isOpen", "(II)Z"⟩
abbrev cX2_isShut : ByteArray := prog_4_method_12_code
def yX2_isShut : MethodName := ⟨RX2, "isShut", "(III)Z"⟩
abbrev cX2_haul : ByteArray := prog_4_method_13_code
def yX2_haul : MethodName := ⟨RX2, "haul", "(III)I"⟩
def RX3 : String := "BlackRoad$Loads"
def TX3 : u_T := fun k => match k with
  | 0 => ("BlackRoad$Loads", "row", "[I", false)
  | 1 => ("BlackRoad$Loads", "order", "[I", false)
  | 2 => ("BlackRoad$Loads", "laidCount", "I", false)
  | _ => ("BlackRoad$Loads", "count", "I", false)
def tyX3 : Nat → FieldType := fun k => match k with
  | 0 => .array .int
  | 1 => .array .int
  | 2 => .int
  | _ => .int
abbrev wsX30 : List Cond := u_ws RX3 TX3 4
theorem nmX3 : ∀ a, a < 4 → ∀ b, b < 4 → a ≠ b → (TX3 a).2.1 ≠ (TX3 b).2.1 := by decide +kernel
theorem tyX3_ok : ∀ k, k < 4 → parseFieldDescriptor (TX3 k).2.2.1 = some (tyX3 k) := by decide +kernel
abbrev cX3_init : ByteArray := prog_5_method_1_code
def yX3_init : MethodName := ⟨RX3, "<init>", "()V"⟩
abbrev cX3_clear : ByteArray := prog_5_method_2_code
def yX3_clear : MethodName := ⟨RX3, "clear", "()V"⟩
abbrev cX3_add : ByteArray := prog_5_method_3_code
def yX3_add : MethodName := ⟨RX3, "add", "(IIIII)I"⟩
abbrev cX3_of : ByteArray := prog_5_method_4_code
def yX3_of : MethodName := ⟨RX3, "of", "(II)I"⟩
abbrev cX3_note : ByteArray := prog_5_method_5_code
def yX3_note : MethodName := ⟨RX3, "note", "(III)V"⟩
abbrev cX3_noteLaid : ByteArray := prog_5_method_6_code
def yX3_noteLaid : MethodName := ⟨RX3, "noteLaid", "(I)V"⟩
abbrev cX3_ofTonne : ByteArray := prog_5_method_7_code
def yX3_ofTonne : MethodName := ⟨RX3, "ofTonne", "(I)I"⟩
def RX4 : String := "BlackRoad$Paving"
def TX4 : u_T := fun k => match k with
  | 0 => ("BlackRoad$Paving", "sums", "[I", true)
  | 1 => ("BlackRoad$Paving", "firsts", "[I", true)
  | 2 => ("BlackRoad$Paving", "stamp", "I", false)
  | 3 => ("BlackRoad$Paving", "road", "LBlackRoad$Road;", true)
  | 4 => ("BlackRoad$Paving", "warmth", "LBlackRoad$Warmth;", true)
  | 5 => ("BlackRoad$Paving", "haulage", "LBlackRoad$Haulage;", true)
  | 6 => ("BlackRoad$Paving", "cooling", "LBlackRoad$Cooling;", true)
  | 7 => ("BlackRoad$Paving", "made", "Z", false)
  | 8 => ("BlackRoad$Paving", "done", "Z", false)
  | 9 => ("BlackRoad$Paving", "world", "I", false)
  | 10 => ("BlackRoad$Paving", "pace", "I", false)
  | 11 => ("BlackRoad$Paving", "trucks", "I", false)
  | 12 => ("BlackRoad$Paving", "atHand", "I", false)
  | 13 => ("BlackRoad$Paving", "laidOfIt", "I", false)
  | 14 => ("BlackRoad$Paving", "coldest", "I", false)
  | _ => ("BlackRoad$Paving", "held", "I", false)
def tyX4 : Nat → FieldType := fun k => match k with
  | 0 => .array .int
  | 1 => .array .int
  | 2 => .int
  | 3 => .object "BlackRoad$Road"
  | 4 => .object "BlackRoad$Warmth"
  | 5 => .object "BlackRoad$Haulage"
  | 6 => .object "BlackRoad$Cooling"
  | 7 => .boolean
  | 8 => .boolean
  | 9 => .int
  | 10 => .int
  | 11 => .int
  | 12 => .int
  | 13 => .int
  | 14 => .int
  | _ => .int
abbrev wsX40 : List Cond := u_ws RX4 TX4 16
theorem nmX4 : ∀ a, a < 16 → ∀ b, b < 16 → a ≠ b → (TX4 a).2.1 ≠ (TX4 b).2.1 := by decide +kernel
theorem tyX4_ok : ∀ k, k < 16 → parseFieldDescriptor (TX4 k).2.2.1 = some (tyX4 k) := by decide +kernel
abbrev cX4_init : ByteArray := prog_6_method_1_code
def yX4_init : MethodName := ⟨RX4, "<init>", "(LBlackRoad$Road;LBlackRoad$Warmth;LBlackRoad$Haulage;LBlackRoad$Cooling;)V"⟩
abbrev cX4_forget : ByteArray := prog_6_method_2_code
def yX4_forget : MethodName := ⟨RX4, "forget", "()V"⟩
abbrev cX4_isDone : ByteArray := prog_6_method_3_code
def yX4_isDone : MethodName := ⟨RX4, "isDone", "(III)Z"⟩
abbrev cX4_clear : ByteArray := prog_6_method_4_code
def yX4_clear : MethodName := ⟨RX4, "clear", "()V"⟩
abbrev cX4_pave : ByteArray := prog_6_method_5_code
def yX4_pave : MethodName := ⟨RX4, "pave", "(I)V"⟩
abbrev cX4_isFirmBelow : ByteArray := prog_6_method_6_code
def yX4_isFirmBelow : MethodName := ⟨RX4, "isFirmBelow", "(I)Z"⟩
abbrev cX4_takeLoad : ByteArray := prog_6_method_7_code
def yX4_takeLoad : MethodName := ⟨RX4, "takeLoad", "(I)Z"⟩
abbrev cX4_layOut : ByteArray := prog_6_method_8_code
def yX4_layOut : MethodName := ⟨RX4, "layOut", "(II)I"⟩
def RX5 : String := "BlackRoad$Plants"
def TX5 : u_T := fun k => match k with
  | 0 => ("BlackRoad$Plants", "kinds", "[I", true)
  | 1 => ("BlackRoad$Plants", "rates", "[I", true)
  | 2 => ("BlackRoad$Plants", "silos", "[I", true)
  | 3 => ("BlackRoad$Plants", "fills", "[I", true)
  | 4 => ("BlackRoad$Plants", "count", "I", false)
  | 5 => ("BlackRoad$Plants", "trucks", "I", false)
  | _ => ("BlackRoad$Plants", "carry", "I", false)
def tyX5 : Nat → FieldType := fun k => match k with
  | 0 => .array .int
  | 1 => .array .int
  | 2 => .array .int
  | 3 => .array .int
  | 4 => .int
  | 5 => .int
  | _ => .int
abbrev wsX50 : List Cond := u_ws RX5 TX5 7
theorem nmX5 : ∀ a, a < 7 → ∀ b, b < 7 → a ≠ b → (TX5 a).2.1 ≠ (TX5 b).2.1 := by decide +kernel
theorem tyX5_ok : ∀ k, k < 7 → parseFieldDescriptor (TX5 k).2.2.1 = some (tyX5 k) := by decide +kernel
abbrev cX5_init : ByteArray := prog_7_method_1_code
def yX5_init : MethodName := ⟨RX5, "<init>", "()V"⟩
abbrev cX5_add : ByteArray := prog_7_method_2_code
def yX5_add : MethodName := ⟨RX5, "add", "(IIII)I"⟩
abbrev cX5_make : ByteArray := prog_7_method_3_code
def yX5_make : MethodName := ⟨RX5, "make", "(I)Z"⟩
def RX6 : String := "BlackRoad$Rate"
def TX6 : u_T := fun k => match k with
  | 0 => ("BlackRoad$Rate", "text", "LBlackRoad$Tape;", true)
  | 1 => ("BlackRoad$Rate", "t", "I", false)
  | 2 => ("BlackRoad$Rate", "d", "I", false)
  | 3 => ("BlackRoad$Rate", "j", "I", false)
  | _ => ("BlackRoad$Rate", "m", "I", false)
def tyX6 : Nat → FieldType := fun k => match k with
  | 0 => .object "BlackRoad$Tape"
  | 1 => .int
  | 2 => .int
  | 3 => .int
  | _ => .int
abbrev wsX60 : List Cond := u_ws RX6 TX6 5
theorem nmX6 : ∀ a, a < 5 → ∀ b, b < 5 → a ≠ b → (TX6 a).2.1 ≠ (TX6 b).2.1 := by decide +kernel
theorem tyX6_ok : ∀ k, k < 5 → parseFieldDescriptor (TX6 k).2.2.1 = some (tyX6 k) := by decide +kernel
abbrev cX6_init : ByteArray := prog_8_method_1_code
def yX6_init : MethodName := ⟨RX6, "<init>", "()V"⟩
abbrev cX6_read : ByteArray := prog_8_method_2_code
def yX6_read : MethodName := ⟨RX6, "read", "(LBlackRoad$Tape;)Z"⟩
abbrev cX6_tell : ByteArray := prog_8_method_3_code
def yX6_tell : MethodName := ⟨RX6, "tell", "(IIII)J"⟩
abbrev cX6_sum : ByteArray := prog_8_method_4_code
def yX6_sum : MethodName := ⟨RX6, "sum", "(LBlackRoad$Tape;I)J"⟩
abbrev cX6_product : ByteArray := prog_8_method_5_code
def yX6_product : MethodName := ⟨RX6, "product", "(LBlackRoad$Tape;I)J"⟩
abbrev cX6_one : ByteArray := prog_8_method_6_code
def yX6_one : MethodName := ⟨RX6, "one", "(LBlackRoad$Tape;I)J"⟩
abbrev cX6_opens : ByteArray := prog_8_method_7_code
def yX6_opens : MethodName := ⟨RX6, "opens", "(LBlackRoad$Tape;CI)Z"⟩
abbrev cX6_letter : ByteArray := prog_8_method_8_code
def yX6_letter : MethodName := ⟨RX6, "letter", "(LBlackRoad$Tape;)J"⟩
abbrev cX6_held : ByteArray := prog_8_method_9_code
def yX6_held : MethodName := ⟨RX6, "held", "(J)J"⟩
def RX7 : String := "BlackRoad$Road"
def TX7 : u_T := fun k => match k with
  | 0 => ("BlackRoad$Road", "lengths", "[I", true)
  | 1 => ("BlackRoad$Road", "olds", "[I", true)
  | 2 => ("BlackRoad$Road", "best", "[I", true)
  | 3 => ("BlackRoad$Road", "costs", "[I", true)
  | 4 => ("BlackRoad$Road", "thicks", "[I", true)
  | 5 => ("BlackRoad$Road", "kinds", "[I", true)
  | 6 => ("BlackRoad$Road", "depths", "[I", true)
  | 7 => ("BlackRoad$Road", "tonnes", "[I", true)
  | 8 => ("BlackRoad$Road", "sections", "I", false)
  | 9 => ("BlackRoad$Road", "layers", "I", false)
  | 10 => ("BlackRoad$Road", "wide", "I", false)
  | 11 => ("BlackRoad$Road", "smooth", "I", false)
  | 12 => ("BlackRoad$Road", "deep", "I", false)
  | 13 => ("BlackRoad$Road", "mill", "I", false)
  | 14 => ("BlackRoad$Road", "lay", "I", false)
  | _ => ("BlackRoad$Road", "cost", "I", false)
def tyX7 : Nat → FieldType := fun k => match k with
  | 0 => .array .int
  | 1 => .array .int
  | 2 => .array .int
  | 3 => .array .int
  | 4 => .array .int
  | 5 => .array .int
  | 6 => .array .int
  | 7 => .array .int
  | 8 => .int
  | 9 => .int
  | 10 => .int
  | 11 => .int
  | 12 => .int
  | 13 => .int
  | 14 => .int
  | _ => .int
abbrev wsX70 : List Cond := u_ws RX7 TX7 16
theorem nmX7 : ∀ a, a < 16 → ∀ b, b < 16 → a ≠ b → (TX7 a).2.1 ≠ (TX7 b).2.1 := by decide +kernel
theorem tyX7_ok : ∀ k, k < 16 → parseFieldDescriptor (TX7 k).2.2.1 = some (tyX7 k) := by decide +kernel
abbrev cX7_init : ByteArray := prog_9_method_1_code
def yX7_init : MethodName := ⟨RX7, "<init>", "()V"⟩
abbrev cX7_addSection : ByteArray := prog_9_method_2_code
def yX7_addSection : MethodName := ⟨RX7, "addSection", "(II)I"⟩
abbrev cX7_addLayer : ByteArray := prog_9_method_3_code
def yX7_addLayer : MethodName := ⟨RX7, "addLayer", "(II)I"⟩
abbrev cX7_jobs : ByteArray := prog_9_method_4_code
def yX7_jobs : MethodName := ⟨RX7, "jobs", "()I"⟩
abbrev cX7_sectionOf : ByteArray := prog_9_method_5_code
def yX7_sectionOf : MethodName := ⟨RX7, "sectionOf", "(I)I"⟩
abbrev cX7_layerOf : ByteArray := prog_9_method_6_code
def yX7_layerOf : MethodName := ⟨RX7, "layerOf", "(I)I"⟩
abbrev cX7_kindOf : ByteArray := prog_9_method_7_code
def yX7_kindOf : MethodName := ⟨RX7, "kindOf", "(I)I"⟩
abbrev cX7_allTonnes : ByteArray := prog_9_method_8_code
def yX7_allTonnes : MethodName := ⟨RX7, "allTonnes", "()I"⟩
abbrev cX7_settle : ByteArray := prog_9_method_9_code
def yX7_settle : MethodName := ⟨RX7, "settle", "()V"⟩
abbrev cX7_weighHeights : ByteArray := prog_9_method_10_code
def yX7_weighHeights : MethodName := ⟨RX7, "weighHeights", "()V"⟩
abbrev cX7_costFrom : ByteArray := prog_9_method_11_code
def yX7_costFrom : MethodName := ⟨RX7, "costFrom", "(II)I"⟩
abbrev cX7_cheapest : ByteArray := prog_9_method_12_code
def yX7_cheapest : MethodName := ⟨RX7, "cheapest", "(III)I"⟩
abbrev cX7_chooseLevels : ByteArray := prog_9_method_13_code
def yX7_chooseLevels : MethodName := ⟨RX7, "chooseLevels", "()V"⟩
abbrev cX7_measureJobs : ByteArray := prog_9_method_14_code
def yX7_measureJobs : MethodName := ⟨RX7, "measureJobs", "()V"⟩
def RX8 : String := "BlackRoad$Rolling"
def TX8 : u_T := fun k => match k with
  | 0 => ("BlackRoad$Rolling", "sorts", "[I", true)
  | 1 => ("BlackRoad$Rolling", "speeds", "[I", true)
  | 2 => ("BlackRoad$Rolling", "tops", "[I", true)
  | 3 => ("BlackRoad$Rolling", "lows", "[I", true)
  | 4 => ("BlackRoad$Rolling", "passes", "[I", true)
  | 5 => ("BlackRoad$Rolling", "freeAt", "[I", true)
  | 6 => ("BlackRoad$Rolling", "begun", "[I", true)
  | 7 => ("BlackRoad$Rolling", "overAt", "[I", true)
  | 8 => ("BlackRoad$Rolling", "road", "LBlackRoad$Road;", true)
  | 9 => ("BlackRoad$Rolling", "cooling", "LBlackRoad$Cooling;", true)
  | 10 => ("BlackRoad$Rolling", "rolledStamp", "I", false)
  | _ => ("BlackRoad$Rolling", "count", "I", false)
def tyX8 : Nat → FieldType := fun k => match k with
  | 0 => .array .int
  | 1 => .array .int
  | 2 => .array .int
  | 3 => .array .int
  | 4 => .array .int
  | 5 => .array .int
  | 6 => .array .int
  | 7 => .array .int
  | 8 => .object "BlackRoad$Road"
  | 9 => .object "BlackRoad$Cooling"
  | 10 => .int
  | _ => .int
abbrev wsX80 : List Cond := u_ws RX8 TX8 12
theorem nmX8 : ∀ a, a < 12 → ∀ b, b < 12 → a ≠ b → (TX8 a).2.1 ≠ (TX8 b).2.1 := by decide +kernel
theorem tyX8_ok : ∀ k, k < 12 → parseFieldDescriptor (TX8 k).2.2.1 = some (tyX8 k) := by decide +kernel
abbrev cX8_init : ByteArray := prog_10_method_1_code
def yX8_init : MethodName := ⟨RX8, "<init>", "(LBlackRoad$Road;LBlackRoad$Cooling;)V"⟩
abbrev cX8_add : ByteArray := prog_10_method_2_code
def yX8_add : MethodName := ⟨RX8, "add", "(II)I"⟩
abbrev cX8_setSort : ByteArray := prog_10_method_3_code
def yX8_setSort : MethodName := ⟨RX8, "setSort", "(IIII)V"⟩
abbrev cX8_missed : ByteArray := prog_10_method_4_code
def yX8_missed : MethodName := ⟨RX8, "missed", "(II)I"⟩
abbrev cX8_missedOn : ByteArray := prog_10_method_5_code
def yX8_missedOn : MethodName := ⟨RX8, "missedOn", "(I)I"⟩
abbrev cX8_roll : ByteArray := prog_10_method_6_code
def yX8_roll : MethodName := ⟨RX8, "roll", "(I)V"⟩
abbrev cX8_beginPass : ByteArray := prog_10_method_7_code
def yX8_beginPass : MethodName := ⟨RX8, "beginPass", "(II)V"⟩
abbrev cX8_mayBegin : ByteArray := prog_10_method_8_code
def yX8_mayBegin : MethodName := ⟨RX8, "mayBegin", "(III)Z"⟩
def RX9 : String := "BlackRoad$Tape"
def TX9 : u_T := fun k => match k with
  | 0 => ("BlackRoad$Tape", "bytes", "[I", true)
  | 1 => ("BlackRoad$Tape", "size", "I", false)
  | 2 => ("BlackRoad$Tape", "kind", "I", false)
  | 3 => ("BlackRoad$Tape", "value", "I", false)
  | 4 => ("BlackRoad$Tape", "fault", "I", false)
  | 5 => ("BlackRoad$Tape", "faultPlace", "I", false)
  | 6 => ("BlackRoad$Tape", "from", "I", false)
  | _ => ("BlackRoad$Tape", "till", "I", false)
def tyX9 : Nat → FieldType := fun k => match k with
  | 0 => .array .int
  | 1 => .int
  | 2 => .int
  | 3 => .int
  | 4 => .int
  | 5 => .int
  | 6 => .int
  | _ => .int
abbrev wsX90 : List Cond := u_ws RX9 TX9 8
theorem nmX9 : ∀ a, a < 8 → ∀ b, b < 8 → a ≠ b → (TX9 a).2.1 ≠ (TX9 b).2.1 := by decide +kernel
theorem tyX9_ok : ∀ k, k < 8 → parseFieldDescriptor (TX9 k).2.2.1 = some (tyX9 k) := by decide +kernel
abbrev cX9_init : ByteArray := prog_11_method_1_code
def yX9_init : MethodName := ⟨RX9, "<init>", "(I)V"⟩
abbrev cX9_addFour : ByteArray := prog_11_method_2_code
def yX9_addFour : MethodName := ⟨RX9, "addFour", "(I)V"⟩
abbrev cX9_copyFrom : ByteArray := prog_11_method_3_code
def yX9_copyFrom : MethodName := ⟨RX9, "copyFrom", "(LBlackRoad$Tape;)V"⟩
abbrev cX9_start : ByteArray := prog_11_method_4_code
def yX9_start : MethodName := ⟨RX9, "start", "()V"⟩
abbrev cX9_next : ByteArray := prog_11_method_5_code
def yX9_next : MethodName := ⟨RX9, "next", "()V"⟩
abbrev cX9_isSound : ByteArray := prog_11_method_6_code
def yX9_isSound : MethodName := ⟨RX9, "isSound", "()Z"⟩
abbrev cX9_isSign : ByteArray := prog_11_method_7_code
def yX9_isSign : MethodName := ⟨RX9, "isSign", "(C)Z"⟩
abbrev cX9_isWord : ByteArray := prog_11_method_8_code
def yX9_isWord : MethodName := ⟨RX9, "isWord", "(Ljava/lang/String;)Z"⟩
abbrev cX9_fail : ByteArray := prog_11_method_9_code
def yX9_fail : MethodName := ⟨RX9, "fail", "(I)V"⟩
abbrev cX9_passSign : ByteArray := prog_11_method_10_code
def yX9_passSign : MethodName := ⟨RX9, "passSign", "(C)V"⟩
abbrev cX9_passWord : ByteArray := prog_11_method_11_code
def yX9_passWord : MethodName := ⟨RX9, "passWord", "(Ljava/lang/String;)V"⟩
abbrev cX9_passNumber : ByteArray := prog_11_method_12_code
def yX9_passNumber : MethodName := ⟨RX9, "passNumber", "(II)I"⟩
abbrev cX9_isBlank : ByteArray := prog_11_method_13_code
def yX9_isBlank : MethodName := ⟨RX9, "isBlank", "(I)Z"⟩
abbrev cX9_isLetter : ByteArray := prog_11_method_14_code
def yX9_isLetter : MethodName := ⟨RX9, "isLetter", "(I)Z"⟩
abbrev cX9_isDigit : ByteArray := prog_11_method_15_code
def yX9_isDigit : MethodName := ⟨RX9, "isDigit", "(I)Z"⟩
def RX10 : String := "BlackRoad$Warmth"
def TX10 : u_T := fun k => match k with
  | 0 => ("BlackRoad$Warmth", "hot", "I", false)
  | 1 => ("BlackRoad$Warmth", "keep", "I", false)
  | 2 => ("BlackRoad$Warmth", "refuse", "I", false)
  | 3 => ("BlackRoad$Warmth", "firm", "I", false)
  | 4 => ("BlackRoad$Warmth", "join", "I", false)
  | 5 => ("BlackRoad$Warmth", "air", "I", false)
  | 6 => ("BlackRoad$Warmth", "ground", "I", false)
  | 7 => ("BlackRoad$Warmth", "airTakes", "I", false)
  | _ => ("BlackRoad$Warmth", "groundTakes", "I", false)
def tyX10 : Nat → FieldType := fun k => match k with
  | 0 => .int
  | 1 => .int
  | 2 => .int
  | 3 => .int
  | 4 => .int
  | 5 => .int
  | 6 => .int
  | 7 => .int
  | _ => .int
abbrev wsX100 : List Cond := u_ws RX10 TX10 9
theorem nmX10 : ∀ a, a < 9 → ∀ b, b < 9 → a ≠ b → (TX10 a).2.1 ≠ (TX10 b).2.1 := by decide +kernel
theorem tyX10_ok : ∀ k, k < 9 → parseFieldDescriptor (TX10 k).2.2.1 = some (tyX10 k) := by decide +kernel
abbrev cX10_init : ByteArray := prog_12_method_1_code
def yX10_init : MethodName := ⟨RX10, "<init>", "()V"⟩
def RX11 : String := "BlackRoad"
def TX11 : u_T := fun k => match k with
  | 0 => ("BlackRoad", "road", "LBlackRoad$Road;", true)
  | 1 => ("BlackRoad", "plants", "LBlackRoad$Plants;", true)
  | 2 => ("BlackRoad", "warmth", "LBlackRoad$Warmth;", true)
  | 3 => ("BlackRoad", "tape", "LBlackRoad$Tape;", true)
  | 4 => ("BlackRoad", "hours", "LBlackRoad$Hours;", true)
  | 5 => ("BlackRoad", "rate", "LBlackRoad$Rate;", true)
  | 6 => ("BlackRoad", "loads", "LBlackRoad$Loads;", true)
  | 7 => ("BlackRoad", "cooling", "LBlackRoad$Cooling;", true)
  | 8 => ("BlackRoad", "haulage", "LBlackRoad$Haulage;", true)
  | 9 => ("BlackRoad", "paving", "LBlackRoad$Paving;", true)
  | 10 => ("BlackRoad", "rolling", "LBlackRoad$Rolling;", true)
  | 11 => ("BlackRoad", "drawn", "[I", true)
  | 12 => ("BlackRoad", "trial", "[I", true)
  | 13 => ("BlackRoad", "champion", "[I", true)
  | 14 => ("BlackRoad", "fewestKnown", "[I", true)
  | 15 => ("BlackRoad", "paceKnown", "I", false)
  | 16 => ("BlackRoad", "lastFault", "I", false)
  | _ => ("BlackRoad", "lastPlace", "I", false)
def tyX11 : Nat → FieldType := fun k => match k with
  | 0 => .object "BlackRoad$Road"
  | 1 => .object "BlackRoad$Plants"
  | 2 => .object "BlackRoad$Warmth"
  | 3 => .object "BlackRoad$Tape"
  | 4 => .object "BlackRoad$Hours"
  | 5 => .object "BlackRoad$Rate"
  | 6 => .object "BlackRoad$Loads"
  | 7 => .object "BlackRoad$Cooling"
  | 8 => .object "BlackRoad$Haulage"
  | 9 => .object "BlackRoad$Paving"
  | 10 => .object "BlackRoad$Rolling"
  | 11 => .array .int
  | 12 => .array .int
  | 13 => .array .int
  | 14 => .array .int
  | 15 => .int
  | 16 => .int
  | _ => .int
abbrev wsX110 : List Cond := u_ws RX11 TX11 18
theorem nmX11 : ∀ a, a < 18 → ∀ b, b < 18 → a ≠ b → (TX11 a).2.1 ≠ (TX11 b).2.1 := by decide +kernel
theorem tyX11_ok : ∀ k, k < 18 → parseFieldDescriptor (TX11 k).2.2.1 = some (tyX11 k) := by decide +kernel
abbrev cX11_init : ByteArray := prog_1_method_1_code
def yX11_init : MethodName := ⟨RX11, "<init>", "()V"⟩
abbrev cX11_section : ByteArray := prog_1_method_2_code
def yX11_section : MethodName := ⟨RX11, "section", "(II)I"⟩
abbrev cX11_even : ByteArray := prog_1_method_3_code
def yX11_even : MethodName := ⟨RX11, "even", "(IIIII)Z"⟩
abbrev cX11_levels : ByteArray := prog_1_method_4_code
def yX11_levels : MethodName := ⟨RX11, "levels", "()I"⟩
abbrev cX11_level : ByteArray := prog_1_method_5_code
def yX11_level : MethodName := ⟨RX11, "level", "(I)I"⟩
abbrev cX11_layer : ByteArray := prog_1_method_6_code
def yX11_layer : MethodName := ⟨RX11, "layer", "(II)I"⟩
abbrev cX11_job : ByteArray := prog_1_method_7_code
def yX11_job : MethodName := ⟨RX11, "job", "(II)I"⟩
abbrev cX11_plant : ByteArray := prog_1_method_8_code
def yX11_plant : MethodName := ⟨RX11, "plant", "(IIII)I"⟩
abbrev cX11_trucks : ByteArray := prog_1_method_9_code
def yX11_trucks : MethodName := ⟨RX11, "trucks", "(II)Z"⟩
abbrev cX11_heat : ByteArray := prog_1_method_10_code
def yX11_heat : MethodName := ⟨RX11, "heat", "(IIIII)Z"⟩
abbrev cX11_weather : ByteArray := prog_1_method_11_code
def yX11_weather : MethodName := ⟨RX11, "weather", "(IIII)Z"⟩
abbrev cX11_roller : ByteArray := prog_1_method_12_code
def yX11_roller : MethodName := ⟨RX11, "roller", "(II)I"⟩
abbrev cX11_sort : ByteArray := prog_1_method_13_code
def yX11_sort : MethodName := ⟨RX11, "sort", "(IIII)Z"⟩
abbrev cX11_feed : ByteArray := prog_1_method_14_code
def yX11_feed : MethodName := ⟨RX11, "feed", "(IIIII)I"⟩
abbrev cX11_end : ByteArray := prog_1_method_15_code
def yX11_end : MethodName := ⟨RX11, "end", "(I)I"⟩
abbrev cX11_hours : ByteArray := prog_1_method_16_code
def yX11_hours : MethodName := ⟨RX11, "hours", "()I"⟩
abbrev cX11_rate : ByteArray := prog_1_method_17_code
def yX11_rate : MethodName := ⟨RX11, "rate", "()Z"⟩
abbrev cX11_fault : ByteArray := prog_1_method_18_code
def yX11_fault : MethodName := ⟨RX11, "fault", "(I)I"⟩
abbrev cX11_world : ByteArray := prog_1_method_19_code
def yX11_world : MethodName := ⟨RX11, "world", "(III)I"⟩
abbrev cX11_run : ByteArray := prog_1_method_20_code
def yX11_run : MethodName := ⟨RX11, "run", "(III)I"⟩
abbrev cX11_pace : ByteArray := prog_1_method_21_code
def yX11_pace : MethodName := ⟨RX11, "pace", "()I"⟩
abbrev cX11_fewest : ByteArray := prog_1_method_22_code
def yX11_fewest : MethodName := ⟨RX11, "fewest", "(I)I"⟩
abbrev cX11_load : ByteArray := prog_1_method_23_code
def yX11_load : MethodName := ⟨RX11, "load", "(IIII)I"⟩
abbrev cX11_tonne : ByteArray := prog_1_method_24_code
def yX11_tonne : MethodName := ⟨RX11, "tonne", "(III)I"⟩
abbrev cX11_laid : ByteArray := prog_1_method_25_code
def yX11_laid : MethodName := ⟨RX11, "laid", "(IIII)I"⟩
abbrev cX11_mean : ByteArray := prog_1_method_26_code
def yX11_mean : MethodName := ⟨RX11, "mean", "(IIII)I"⟩
abbrev cX11_tells : ByteArray := prog_1_method_27_code
def yX11_tells : MethodName := ⟨RX11, "tells", "(IIII)I"⟩
abbrev cX11_pay : ByteArray := prog_1_method_28_code
def yX11_pay : MethodName := ⟨RX11, "pay", "(IIII)J"⟩
abbrev cX11_core : ByteArray := prog_1_method_29_code
def yX11_core : MethodName := ⟨RX11, "core", "(III)I"⟩
abbrev cX11_about : ByteArray := prog_1_method_30_code
def yX11_about : MethodName := ⟨RX11, "about", "(I)I"⟩
abbrev cX11_changed : ByteArray := prog_1_method_31_code
def yX11_changed : MethodName := ⟨RX11, "changed", "()V"⟩
abbrev cX11_tapeWasRead : ByteArray := prog_1_method_32_code
def yX11_tapeWasRead : MethodName := ⟨RX11, "tapeWasRead", "()V"⟩
abbrev cX11_isPaved : ByteArray := prog_1_method_33_code
def yX11_isPaved : MethodName := ⟨RX11, "isPaved", "(II)Z"⟩
abbrev cX11_canBePaved : ByteArray := prog_1_method_34_code
def yX11_canBePaved : MethodName := ⟨RX11, "canBePaved", "()Z"⟩
abbrev cX11_tryPace : ByteArray := prog_1_method_35_code
def yX11_tryPace : MethodName := ⟨RX11, "tryPace", "(I)Z"⟩
abbrev cX11_isTrialBetter : ByteArray := prog_1_method_36_code
def yX11_isTrialBetter : MethodName := ⟨RX11, "isTrialBetter", "()Z"⟩
abbrev cX11_neverStops : ByteArray := prog_1_method_37_code
def yX11_neverStops : MethodName := ⟨RX11, "neverStops", "(II)Z"⟩
abbrev cX11_isColdJoint : ByteArray := prog_1_method_38_code
def yX11_isColdJoint : MethodName := ⟨RX11, "isColdJoint", "(I)Z"⟩
abbrev cX11_denseOf : ByteArray := prog_1_method_39_code
def yX11_denseOf : MethodName := ⟨RX11, "denseOf", "(I)I"⟩
abbrev cX11_draw : ByteArray := prog_1_method_40_code
def yX11_draw : MethodName := ⟨RX11, "draw", "(II)V"⟩
abbrev cX11_isTold : ByteArray := prog_1_method_41_code
def yX11_isTold : MethodName := ⟨RX11, "isTold", "(I)Z"⟩
abbrev cX11_isFrom : ByteArray := prog_1_method_42_code
def yX11_isFrom : MethodName := ⟨RX11, "isFrom", "(III)Z"⟩
abbrev cX11_at : ByteArray := prog_1_method_43_code
def yX11_at : MethodName := ⟨RX11, "at", "([II)I"⟩
abbrev cX11_set : ByteArray := prog_1_method_44_code
def yX11_set : MethodName := ⟨RX11, "set", "([III)V"⟩
abbrev cX11_cut : ByteArray := prog_1_method_45_code
def yX11_cut : MethodName := ⟨RX11, "cut", "(II)I"⟩
def RX12 : String := "BlackRoadModel"
def TX12 : u_T := fun k => match k with
  | 0 => ("BlackRoadModel", "sections", "I", false)
  | 1 => ("BlackRoadModel", "length", "[I", true)
  | 2 => ("BlackRoadModel", "old", "[I", true)
  | 3 => ("BlackRoadModel", "wide", "I", false)
  | 4 => ("BlackRoadModel", "smooth", "I", false)
  | 5 => ("BlackRoadModel", "deep", "I", false)
  | 6 => ("BlackRoadModel", "mill", "I", false)
  | 7 => ("BlackRoadModel", "lay", "I", false)
  | 8 => ("BlackRoadModel", "layers", "I", false)
  | 9 => ("BlackRoadModel", "thick", "[I", true)
  | 10 => ("BlackRoadModel", "layerKind", "[I", true)
  | 11 => ("BlackRoadModel", "least", "[I", true)
  | 12 => ("BlackRoadModel", "fresh", "[I", true)
  | 13 => ("BlackRoadModel", "jobs", "I", false)
  | 14 => ("BlackRoadModel", "allTonnes", "I", false)
  | 15 => ("BlackRoadModel", "depth", "[I", true)
  | 16 => ("BlackRoadModel", "tonnes", "[I", true)
  | 17 => ("BlackRoadModel", "plants", "I", false)
  | 18 => ("BlackRoadModel", "plantKind", "[I", true)
  | 19 => ("BlackRoadModel", "rate", "[I", true)
  | 20 => ("BlackRoadModel", "silo", "[I", true)
  | 21 => ("BlackRoadModel", "fill", "[I", true)
  | 22 => ("BlackRoadModel", "trucks", "I", false)
  | 23 => ("BlackRoadModel", "carry", "I", false)
  | 24 => ("BlackRoadModel", "hot", "I", false)
  | 25 => ("BlackRoadModel", "keep", "I", false)
  | 26 => ("BlackRoadModel", "refuse", "I", false)
  | 27 => ("BlackRoadModel", "firm", "I", false)
  | 28 => ("BlackRoadModel", "join", "I", false)
  | 29 => ("BlackRoadModel", "air", "I", false)
  | 30 => ("BlackRoadModel", "ground", "I", false)
  | 31 => ("BlackRoadModel", "toAir", "I", false)
  | 32 => ("BlackRoadModel", "toGround", "I", false)
  | 33 => ("BlackRoadModel", "rollers", "I", false)
  | 34 => ("BlackRoadModel", "rollerSort", "[I", true)
  | 35 => ("BlackRoadModel", "speed", "[I", true)
  | 36 => ("BlackRoadModel", "top", "[I", true)
  | 37 => ("BlackRoadModel", "low", "[I", true)
  | 38 => ("BlackRoadModel", "passes", "[I", true)
  | 39 => ("BlackRoadModel", "tape", "[I", true)
  | 40 => ("BlackRoadModel", "taped", "I", false)
  | 41 => ("BlackRoadModel", "fault", "I", false)
  | 42 => ("BlackRoadModel", "faultPlace", "I", false)
  | 43 => ("BlackRoadModel", "at", "I", false)
  | 44 => ("BlackRoadModel", "place", "I", false)
  | 45 => ("BlackRoadModel", "token", "I", false)
  | 46 => ("BlackRoadModel", "number", "I", false)
  | 47 => ("BlackRoadModel", "told", "J", false)
  | 48 => ("BlackRoadModel", "clauses", "I", false)
  | 49 => ("BlackRoadModel", "worlds", "I", false)
  | 50 => ("BlackRoadModel", "newClauses", "I", false)
  | 51 => ("BlackRoadModel", "newWorlds", "I", false)
  | 52 => ("BlackRoadModel", "word", "[I", true)
  | 53 => ("BlackRoadModel", "holdsIn", "[I", true)
  | 54 => ("BlackRoadModel", "ofPlant", "[I", true)
  | 55 => ("BlackRoadModel", "one", "[I", true)
  | 56 => ("BlackRoadModel", "two", "[I", true)
  | 57 => ("BlackRoadModel", "read", "I", false)
  | 58 => ("BlackRoadModel", "state", "[I", true)
  | 59 => ("BlackRoadModel", "comesAt", "[I", true)
  | 60 => ("BlackRoadModel", "line", "[I", true)
  | 61 => ("BlackRoadModel", "plantOf", "[I", true)
  | 62 => ("BlackRoadModel", "loadOf", "[I", true)
  | 63 => ("BlackRoadModel", "lined", "I", false)
  | 64 => ("BlackRoadModel", "inSilo", "[I", true)
  | 65 => ("BlackRoadModel", "filling", "[I", true)
  | 66 => ("BlackRoadModel", "readyAt", "[I", true)
  | 67 => ("BlackRoadModel", "ordered", "[I", true)
  | 68 => ("BlackRoadModel", "laid", "[I", true)
  | 69 => ("BlackRoadModel", "firstAt", "[I", true)
  | 70 => ("BlackRoadModel", "laidAt", "[I", true)
  | 71 => ("BlackRoadModel", "jobHeat", "[I", true)
  | 72 => ("BlackRoadModel", "loads", "I", false)
  | 73 => ("BlackRoadModel", "allLaid", "I", false)
  | 74 => ("BlackRoadModel", "hand", "I", false)
  | 75 => ("BlackRoadModel", "has", "I", false)
  | 76 => ("BlackRoadModel", "stops", "I", false)
  | 77 => ("BlackRoadModel", "ends", "I", false)
  | 78 => ("BlackRoadModel", "begins", "I", false)
  | 79 => ("BlackRoadModel", "refusedLoads", "I", false)
  | 80 => ("BlackRoadModel", "refusedTonnes", "I", false)
  | 81 => ("BlackRoadModel", "loadJob", "[I", true)
  | 82 => ("BlackRoadModel", "loadTonnes", "[I", true)
  | 83 => ("BlackRoadModel", "loadTruck", "[I", true)
  | 84 => ("BlackRoadModel", "loadPlant", "[I", true)
  | 85 => ("BlackRoadModel", "orderedAt", "[I", true)
  | 86 => ("BlackRoadModel", "begunAt", "[I", true)
  | 87 => ("BlackRoadModel", "takenAt", "[I", true)
  | 88 => ("BlackRoadModel", "loadHeat", "[I", true)
  | 89 => ("BlackRoadModel", "isRefused", "[Z", true)
  | 90 => ("BlackRoadModel", "tonneFrom", "[I", true)
  | 91 => ("BlackRoadModel", "runWorld", "I", false)
  | 92 => ("BlackRoadModel", "runPace", "I", false)
  | 93 => ("BlackRoadModel", "mostStops", "I", false)
  | 94 => ("BlackRoadModel", "allStops", "I", false)
  | 95 => ("BlackRoadModel", "lastEnd", "I", false)
  | 96 => ("BlackRoadModel", "means", "[S", true)
  | 97 => ("BlackRoadModel", "shell", "[I", true)
  | 98 => ("BlackRoadModel", "was", "[I", true)
  | 99 => ("BlackRoadModel", "begun", "[I", true)
  | 100 => ("BlackRoadModel", "over", "[I", true)
  | 101 => ("BlackRoadModel", "busyTo", "[I", true)
  | 102 => ("BlackRoadModel", "busySort", "[I", true)
  | 103 => ("BlackRoadModel", "lastOver", "[I", true)
  | 104 => ("BlackRoadModel", "freeAt", "[I", true)
  | 105 => ("BlackRoadModel", "rateMany", "I", false)
  | 106 => ("BlackRoadModel", "op", "[I", true)
  | 107 => ("BlackRoadModel", "arg", "[I", true)
  | 108 => ("BlackRoadModel", "written", "I", false)
  | 109 => ("BlackRoadModel", "opens", "I", false)
  | 110 => ("BlackRoadModel", "piled", "I", false)
  | 111 => ("BlackRoadModel", "isWhole", "Z", false)
  | 112 => ("BlackRoadModel", "pile", "[I", true)
  | 113 => ("BlackRoadModel", "values", "[J", true)
  | _ => ("BlackRoadModel", "lot", "[I", true)
def tyX12 : Nat → FieldType := fun k => match k with
  | 0 => .int
  | 1 => .array .int
  | 2 => .array .int
  | 3 => .int
  | 4 => .int
  | 5 => .int
  | 6 => .int
  | 7 => .int
  | 8 => .int
  | 9 => .array .int
  | 10 => .array .int
  | 11 => .array .int
  | 12 => .array .int
  | 13 => .int
  | 14 => .int
  | 15 => .array .int
  | 16 => .array .int
  | 17 => .int
  | 18 => .array .int
  | 19 => .array .int
  | 20 => .array .int
  | 21 => .array .int
  | 22 => .int
  | 23 => .int
  | 24 => .int
  | 25 => .int
  | 26 => .int
  | 27 => .int
  | 28 => .int
  | 29 => .int
  | 30 => .int
  | 31 => .int
  | 32 => .int
  | 33 => .int
  | 34 => .array .int
  | 35 => .array .int
  | 36 => .array .int
  | 37 => .array .int
  | 38 => .array .int
  | 39 => .array .int
  | 40 => .int
  | 41 => .int
  | 42 => .int
  | 43 => .int
  | 44 => .int
  | 45 => .int
  | 46 => .int
  | 47 => .long
  | 48 => .int
  | 49 => .int
  | 50 => .int
  | 51 => .int
  | 52 => .array .int
  | 53 => .array .int
  | 54 => .array .int
  | 55 => .array .int
  | 56 => .array .int
  | 57 => .int
  | 58 => .array .int
  | 59 => .array .int
  | 60 => .array .int
  | 61 => .array .int
  | 62 => .array .int
  | 63 => .int
  | 64 => .array .int
  | 65 => .array .int
  | 66 => .array .int
  | 67 => .array .int
  | 68 => .array .int
  | 69 => .array .int
  | 70 => .array .int
  | 71 => .array .int
  | 72 => .int
  | 73 => .int
  | 74 => .int
  | 75 => .int
  | 76 => .int
  | 77 => .int
  | 78 => .int
  | 79 => .int
  | 80 => .int
  | 81 => .array .int
  | 82 => .array .int
  | 83 => .array .int
  | 84 => .array .int
  | 85 => .array .int
  | 86 => .array .int
  | 87 => .array .int
  | 88 => .array .int
  | 89 => .array .boolean
  | 90 => .array .int
  | 91 => .int
  | 92 => .int
  | 93 => .int
  | 94 => .int
  | 95 => .int
  | 96 => .array .short
  | 97 => .array .int
  | 98 => .array .int
  | 99 => .array .int
  | 100 => .array .int
  | 101 => .array .int
  | 102 => .array .int
  | 103 => .array .int
  | 104 => .array .int
  | 105 => .int
  | 106 => .array .int
  | 107 => .array .int
  | 108 => .int
  | 109 => .int
  | 110 => .int
  | 111 => .boolean
  | 112 => .array .int
  | 113 => .array .long
  | _ => .array .int
abbrev wsX120 : List Cond := u_ws RX12 TX12 115
theorem nmX12 : ∀ a, a < 115 → ∀ b, b < 115 → a ≠ b → (TX12 a).2.1 ≠ (TX12 b).2.1 := by decide +kernel
theorem tyX12_ok : ∀ k, k < 115 → parseFieldDescriptor (TX12 k).2.2.1 = some (tyX12 k) := by decide +kernel
abbrev cX12_init : ByteArray := prog_14_method_1_code
def yX12_init : MethodName := ⟨RX12, "<init>", "()V"⟩
abbrev cX12_isIn : ByteArray := prog_14_method_2_code
def yX12_isIn : MethodName := ⟨RX12, "isIn", "(III)Z"⟩
abbrev cX12_section : ByteArray := prog_14_method_3_code
def yX12_section : MethodName := ⟨RX12, "section", "(II)I"⟩
abbrev cX12_even : ByteArray := prog_14_method_4_code
def yX12_even : MethodName := ⟨RX12, "even", "(IIIII)Z"⟩
abbrev cX12_costOf : ByteArray := prog_14_method_5_code
def yX12_costOf : MethodName := ⟨RX12, "costOf", "(II)I"⟩
abbrev cX12_bestOf : ByteArray := prog_14_method_6_code
def yX12_bestOf : MethodName := ⟨RX12, "bestOf", "(II)I"⟩
abbrev cX12_restOf : ByteArray := prog_14_method_7_code
def yX12_restOf : MethodName := ⟨RX12, "restOf", "(II)I"⟩
abbrev cX12_find : ByteArray := prog_14_method_8_code
def yX12_find : MethodName := ⟨RX12, "find", "()I"⟩
abbrev cX12_levels : ByteArray := prog_14_method_9_code
def yX12_levels : MethodName := ⟨RX12, "levels", "()I"⟩
abbrev cX12_level : ByteArray := prog_14_method_10_code
def yX12_level : MethodName := ⟨RX12, "level", "(I)I"⟩
abbrev cX12_layer : ByteArray := prog_14_method_11_code
def yX12_layer : MethodName := ⟨RX12, "layer", "(II)I"⟩
abbrev cX12_hasJobs : ByteArray := prog_14_method_12_code
def yX12_hasJobs : MethodName := ⟨RX12, "hasJobs", "()Z"⟩
abbrev cX12_job : ByteArray := prog_14_method_13_code
def yX12_job : MethodName := ⟨RX12, "job", "(II)I"⟩
abbrev cX12_plant : ByteArray := prog_14_method_14_code
def yX12_plant : MethodName := ⟨RX12, "plant", "(IIII)I"⟩
abbrev cX12_trucks : ByteArray := prog_14_method_15_code
def yX12_trucks : MethodName := ⟨RX12, "trucks", "(II)Z"⟩
abbrev cX12_heat : ByteArray := prog_14_method_16_code
def yX12_heat : MethodName := ⟨RX12, "heat", "(IIIII)Z"⟩
abbrev cX12_weather : ByteArray := prog_14_method_17_code
def yX12_weather : MethodName := ⟨RX12, "weather", "(IIII)Z"⟩
abbrev cX12_roller : ByteArray := prog_14_method_18_code
def yX12_roller : MethodName := ⟨RX12, "roller", "(II)I"⟩
abbrev cX12_sort : ByteArray := prog_14_method_19_code
def yX12_sort : MethodName := ⟨RX12, "sort", "(IIII)Z"⟩
abbrev cX12_four : ByteArray := prog_14_method_20_code
def yX12_four : MethodName := ⟨RX12, "four", "(I)V"⟩
abbrev cX12_feed : ByteArray := prog_14_method_21_code
def yX12_feed : MethodName := ⟨RX12, "feed", "(IIIII)I"⟩
abbrev cX12_end : ByteArray := prog_14_method_22_code
def yX12_end : MethodName := ⟨RX12, "end", "(I)I"⟩
abbrev cX12_see : ByteArray := prog_14_method_23_code
def yX12_see : MethodName := ⟨RX12, "see", "(I)I"⟩
abbrev cX12_isLetter : ByteArray := prog_14_method_24_code
def yX12_isLetter : MethodName := ⟨RX12, "isLetter", "(I)Z"⟩
abbrev cX12_isDigit : ByteArray := prog_14_method_25_code
def yX12_isDigit : MethodName := ⟨RX12, "isDigit", "(I)Z"⟩
abbrev cX12_nextToken : ByteArray := prog_14_method_26_code
def yX12_nextToken : MethodName := ⟨RX12, "nextToken", "()V"⟩
abbrev cX12_add : ByteArray := prog_14_method_27_code
def yX12_add : MethodName := ⟨RX12, "add", "(JII)J"⟩
abbrev cX12_wordOf : ByteArray := prog_14_method_28_code
def yX12_wordOf : MethodName := ⟨RX12, "wordOf", "()I"⟩
abbrev cX12_take : ByteArray := prog_14_method_29_code
def yX12_take : MethodName := ⟨RX12, "take", "(II)I"⟩
abbrev cX12_need : ByteArray := prog_14_method_30_code
def yX12_need : MethodName := ⟨RX12, "need", "(I)I"⟩
abbrev cX12_inClause : ByteArray := prog_14_method_31_code
def yX12_inClause : MethodName := ⟨RX12, "inClause", "(II)I"⟩
abbrev cX12_clause : ByteArray := prog_14_method_32_code
def yX12_clause : MethodName := ⟨RX12, "clause", "()I"⟩
abbrev cX12_readHours : ByteArray := prog_14_method_33_code
def yX12_readHours : MethodName := ⟨RX12, "readHours", "()I"⟩
abbrev cX12_isTold : ByteArray := prog_14_method_34_code
def yX12_isTold : MethodName := ⟨RX12, "isTold", "(I)Z"⟩
abbrev cX12_hours : ByteArray := prog_14_method_35_code
def yX12_hours : MethodName := ⟨RX12, "hours", "()I"⟩
abbrev cX12_fault : ByteArray := prog_14_method_36_code
def yX12_fault : MethodName := ⟨RX12, "fault", "(I)I"⟩
abbrev cX12_holds : ByteArray := prog_14_method_37_code
def yX12_holds : MethodName := ⟨RX12, "holds", "(III)Z"⟩
abbrev cX12_haulOf : ByteArray := prog_14_method_38_code
def yX12_haulOf : MethodName := ⟨RX12, "haulOf", "(III)I"⟩
abbrev cX12_isShut : ByteArray := prog_14_method_39_code
def yX12_isShut : MethodName := ⟨RX12, "isShut", "(III)Z"⟩
abbrev cX12_isOpen : ByteArray := prog_14_method_40_code
def yX12_isOpen : MethodName := ⟨RX12, "isOpen", "(II)Z"⟩
abbrev cX12_manyWorlds : ByteArray := prog_14_method_41_code
def yX12_manyWorlds : MethodName := ⟨RX12, "manyWorlds", "()I"⟩
abbrev cX12_world : ByteArray := prog_14_method_42_code
def yX12_world : MethodName := ⟨RX12, "world", "(III)I"⟩
abbrev cX12_hasPlants : ByteArray := prog_14_method_43_code
def yX12_hasPlants : MethodName := ⟨RX12, "hasPlants", "()Z"⟩
abbrev cX12_firstAtPlant : ByteArray := prog_14_method_44_code
def yX12_firstAtPlant : MethodName := ⟨RX12, "firstAtPlant", "(I)I"⟩
abbrev cX12_firstWaiting : ByteArray := prog_14_method_45_code
def yX12_firstWaiting : MethodName := ⟨RX12, "firstWaiting", "(I)I"⟩
abbrev cX12_comeIn : ByteArray := prog_14_method_46_code
def yX12_comeIn : MethodName := ⟨RX12, "comeIn", "(I)V"⟩
abbrev cX12_plantsGo : ByteArray := prog_14_method_47_code
def yX12_plantsGo : MethodName := ⟨RX12, "plantsGo", "(I)V"⟩
abbrev cX12_sentTo : ByteArray := prog_14_method_48_code
def yX12_sentTo : MethodName := ⟨RX12, "sentTo", "(I)I"⟩
abbrev cX12_plantFor : ByteArray := prog_14_method_49_code
def yX12_plantFor : MethodName := ⟨RX12, "plantFor", "(I)I"⟩
abbrev cX12_order : ByteArray := prog_14_method_50_code
def yX12_order : MethodName := ⟨RX12, "order", "(II)V"⟩
abbrev cX12_isFirm : ByteArray := prog_14_method_51_code
def yX12_isFirm : MethodName := ⟨RX12, "isFirm", "(I)Z"⟩
abbrev cX12_takes : ByteArray := prog_14_method_52_code
def yX12_takes : MethodName := ⟨RX12, "takes", "(II)V"⟩
abbrev cX12_paves : ByteArray := prog_14_method_53_code
def yX12_paves : MethodName := ⟨RX12, "paves", "(I)V"⟩
abbrev cX12_begin : ByteArray := prog_14_method_54_code
def yX12_begin : MethodName := ⟨RX12, "begin", "(II)V"⟩
abbrev cX12_goes : ByteArray := prog_14_method_55_code
def yX12_goes : MethodName := ⟨RX12, "goes", "(II)Z"⟩
abbrev cX12_isRun : ByteArray := prog_14_method_56_code
def yX12_isRun : MethodName := ⟨RX12, "isRun", "(II)Z"⟩
abbrev cX12_run : ByteArray := prog_14_method_57_code
def yX12_run : MethodName := ⟨RX12, "run", "(III)I"⟩
abbrev cX12_goInAll : ByteArray := prog_14_method_58_code
def yX12_goInAll : MethodName := ⟨RX12, "goInAll", "(I)Z"⟩
abbrev cX12_pace : ByteArray := prog_14_method_59_code
def yX12_pace : MethodName := ⟨RX12, "pace", "()I"⟩
abbrev cX12_fewest : ByteArray := prog_14_method_60_code
def yX12_fewest : MethodName := ⟨RX12, "fewest", "(I)I"⟩
abbrev cX12_load : ByteArray := prog_14_method_61_code
def yX12_load : MethodName := ⟨RX12, "load", "(IIII)I"⟩
abbrev cX12_tonne : ByteArray := prog_14_method_62_code
def yX12_tonne : MethodName := ⟨RX12, "tonne", "(III)I"⟩
abbrev cX12_cool : ByteArray := prog_14_method_63_code
def yX12_cool : MethodName := ⟨RX12, "cool", "(I)V"⟩
abbrev cX12_meanOf : ByteArray := prog_14_method_64_code
def yX12_meanOf : MethodName := ⟨RX12, "meanOf", "(II)I"⟩
abbrev cX12_mean : ByteArray := prog_14_method_65_code
def yX12_mean : MethodName := ⟨RX12, "mean", "(IIII)I"⟩
abbrev cX12_settle : ByteArray := prog_14_method_66_code
def yX12_settle : MethodName := ⟨RX12, "settle", "(I)V"⟩
abbrev cX12_mayRoll : ByteArray := prog_14_method_67_code
def yX12_mayRoll : MethodName := ⟨RX12, "mayRoll", "(III)Z"⟩
abbrev cX12_rollOne : ByteArray := prog_14_method_68_code
def yX12_rollOne : MethodName := ⟨RX12, "rollOne", "(II)V"⟩
abbrev cX12_roll : ByteArray := prog_14_method_69_code
def yX12_roll : MethodName := ⟨RX12, "roll", "()V"⟩
abbrev cX12_isCold : ByteArray := prog_14_method_70_code
def yX12_isCold : MethodName := ⟨RX12, "isCold", "(I)Z"⟩
abbrev cX12_missedOf : ByteArray := prog_14_method_71_code
def yX12_missedOf : MethodName := ⟨RX12, "missedOf", "(I)I"⟩
abbrev cX12_denseOf : ByteArray := prog_14_method_72_code
def yX12_denseOf : MethodName := ⟨RX12, "denseOf", "(I)I"⟩
abbrev cX12_laid : ByteArray := prog_14_method_73_code
def yX12_laid : MethodName := ⟨RX12, "laid", "(IIII)I"⟩
abbrev cX12_emit : ByteArray := prog_14_method_74_code
def yX12_emit : MethodName := ⟨RX12, "emit", "(II)V"⟩
abbrev cX12_push : ByteArray := prog_14_method_75_code
def yX12_push : MethodName := ⟨RX12, "push", "(I)V"⟩
abbrev cX12_whole : ByteArray := prog_14_method_76_code
def yX12_whole : MethodName := ⟨RX12, "whole", "()V"⟩
abbrev cX12_settleTo : ByteArray := prog_14_method_77_code
def yX12_settleTo : MethodName := ⟨RX12, "settleTo", "(I)V"⟩
abbrev cX12_letterOf : ByteArray := prog_14_method_78_code
def yX12_letterOf : MethodName := ⟨RX12, "letterOf", "()I"⟩
abbrev cX12_beginOne : ByteArray := prog_14_method_79_code
def yX12_beginOne : MethodName := ⟨RX12, "beginOne", "()I"⟩
abbrev cX12_behindOne : ByteArray := prog_14_method_80_code
def yX12_behindOne : MethodName := ⟨RX12, "behindOne", "()I"⟩
abbrev cX12_readRate : ByteArray := prog_14_method_81_code
def yX12_readRate : MethodName := ⟨RX12, "readRate", "()I"⟩
abbrev cX12_rate : ByteArray := prog_14_method_82_code
def yX12_rate : MethodName := ⟨RX12, "rate", "()Z"⟩
abbrev cX12_clip : ByteArray := prog_14_method_83_code
def yX12_clip : MethodName := ⟨RX12, "clip", "(J)J"⟩
abbrev cX12_act : ByteArray := prog_14_method_84_code
def yX12_act : MethodName := ⟨RX12, "act", "(IJJ)J"⟩
abbrev cX12_work : ByteArray := prog_14_method_85_code
def yX12_work : MethodName := ⟨RX12, "work", "(IIII)I"⟩
abbrev cX12_isSmall : ByteArray := prog_14_method_86_code
def yX12_isSmall : MethodName := ⟨RX12, "isSmall", "(I)Z"⟩
abbrev cX12_tells : ByteArray := prog_14_method_87_code
def yX12_tells : MethodName := ⟨RX12, "tells", "(IIII)I"⟩
abbrev cX12_isDrawn : ByteArray := prog_14_method_88_code
def yX12_isDrawn : MethodName := ⟨RX12, "isDrawn", "(II)Z"⟩
abbrev cX12_pay : ByteArray := prog_14_method_89_code
def yX12_pay : MethodName := ⟨RX12, "pay", "(IIII)J"⟩
abbrev cX12_core : ByteArray := prog_14_method_90_code
def yX12_core : MethodName := ⟨RX12, "core", "(III)I"⟩
abbrev cX12_about : ByteArray := prog_14_method_91_code
def yX12_about : MethodName := ⟨RX12, "about", "(I)I"⟩
def RJx145de : String := "java/io/Serializable"
def TJx145de : u_T := fun k => match k with
  | _ => ("", "", "", false)
def tyJx145de : Nat → FieldType := fun k => match k with
  | _ => .int
abbrev wsJx145de0 : List Cond := u_ws RJx145de TJx145de 0
theorem nmJx145de : ∀ a, a < 0 → ∀ b, b < 0 → a ≠ b → (TJx145de a).2.1 ≠ (TJx145de b).2.1 := by decide +kernel
theorem tyJx145de_ok : ∀ k, k < 0 → parseFieldDescriptor (TJx145de k).2.2.1 = some (tyJx145de k) := by decide +kernel
def RJx9f9b0 : String := "java/lang/CharSequence"
def TJx9f9b0 : u_T := fun k => match k with
  | _ => ("", "", "", false)
def tyJx9f9b0 : Nat → FieldType := fun k => match k with
  | _ => .int
abbrev wsJx9f9b00 : List Cond := u_ws RJx9f9b0 TJx9f9b0 0
theorem nmJx9f9b0 : ∀ a, a < 0 → ∀ b, b < 0 → a ≠ b → (TJx9f9b0 a).2.1 ≠ (TJx9f9b0 b).2.1 := by decide +kernel
theorem tyJx9f9b0_ok : ∀ k, k < 0 → parseFieldDescriptor (TJx9f9b0 k).2.2.1 = some (tyJx9f9b0 k) := by decide +kernel
def RJx8e188 : String := "java/lang/Cloneable"
def TJx8e188 : u_T := fun k => match k with
  | _ => ("", "", "", false)
def tyJx8e188 : Nat → FieldType := fun k => match k with
  | _ => .int
abbrev wsJx8e1880 : List Cond := u_ws RJx8e188 TJx8e188 0
theorem nmJx8e188 : ∀ a, a < 0 → ∀ b, b < 0 → a ≠ b → (TJx8e188 a).2.1 ≠ (TJx8e188 b).2.1 := by decide +kernel
theorem tyJx8e188_ok : ∀ k, k < 0 → parseFieldDescriptor (TJx8e188 k).2.2.1 = some (tyJx8e188 k) := by decide +kernel
def RJxb160c : String := "java/lang/Comparable"
def TJxb160c : u_T := fun k => match k with
  | _ => ("", "", "", false)
def tyJxb160c : Nat → FieldType := fun k => match k with
  | _ => .int
abbrev wsJxb160c0 : List Cond := u_ws RJxb160c TJxb160c 0
theorem nmJxb160c : ∀ a, a < 0 → ∀ b, b < 0 → a ≠ b → (TJxb160c a).2.1 ≠ (TJxb160c b).2.1 := by decide +kernel
theorem tyJxb160c_ok : ∀ k, k < 0 → parseFieldDescriptor (TJxb160c k).2.2.1 = some (tyJxb160c k) := by decide +kernel
def RJ9 : String := "java/lang/Math"
def TJ9 : u_T := fun k => match k with
  | _ => ("", "", "", false)
def tyJ9 : Nat → FieldType := fun k => match k with
  | _ => .int
abbrev wsJ90 : List Cond := u_ws RJ9 TJ9 0
theorem nmJ9 : ∀ a, a < 0 → ∀ b, b < 0 → a ≠ b → (TJ9 a).2.1 ≠ (TJ9 b).2.1 := by decide +kernel
theorem tyJ9_ok : ∀ k, k < 0 → parseFieldDescriptor (TJ9 k).2.2.1 = some (tyJ9 k) := by decide +kernel
abbrev cJ9_max_7cf53 : ByteArray := prog_16_method_65_code
def yJ9_max_7cf53 : MethodName := ⟨RJ9, "max", "(II)I"⟩
abbrev cJ9_max_f86c9 : ByteArray := prog_16_method_66_code
def yJ9_max_f86c9 : MethodName := ⟨RJ9, "max", "(JJ)J"⟩
abbrev cJ9_min_7cf53 : ByteArray := prog_16_method_69_code
def yJ9_min_7cf53 : MethodName := ⟨RJ9, "min", "(II)I"⟩
abbrev cJ9_min_f86c9 : ByteArray := prog_16_method_70_code
def yJ9_min_f86c9 : MethodName := ⟨RJ9, "min", "(JJ)J"⟩
def RJ0 : String := "java/lang/String"
def TJ0 : u_T := fun k => match k with
  | _ => ("", "", "", false)
def tyJ0 : Nat → FieldType := fun k => match k with
  | _ => .int
abbrev wsJ00 : List Cond := u_ws RJ0 TJ0 0
theorem nmJ0 : ∀ a, a < 0 → ∀ b, b < 0 → a ≠ b → (TJ0 a).2.1 ≠ (TJ0 b).2.1 := by decide +kernel
theorem tyJ0_ok : ∀ k, k < 0 → parseFieldDescriptor (TJ0 k).2.2.1 = some (tyJ0 k) := by decide +kernel
abbrev cJ0_length_8abf5 : ByteArray := prog_17_method_54_code
def yJ0_length_8abf5 : MethodName := ⟨RJ0, "length", "()I"⟩
abbrev cJ0_charAt_5068e : ByteArray := prog_17_method_56_code
def yJ0_charAt_5068e : MethodName := ⟨RJ0, "charAt", "(I)C"⟩
abbrev cJ0_coder_7d493 : ByteArray := prog_17_method_152_code
def yJ0_coder_7d493 : MethodName := ⟨RJ0, "coder", "()B"⟩
abbrev cJ0_isLatin1_aae02 : ByteArray := prog_17_method_154_code
def yJ0_isLatin1_aae02 : MethodName := ⟨RJ0, "isLatin1", "()Z"⟩
abbrev cJ0_checkIndex_df160 : ByteArray := prog_17_method_155_code
def yJ0_checkIndex_df160 : MethodName := ⟨RJ0, "checkIndex", "(II)V"⟩
def RJ1 : String := "java/lang/StringLatin1"
def TJ1 : u_T := fun k => match k with
  | _ => ("", "", "", false)
def tyJ1 : Nat → FieldType := fun k => match k with
  | _ => .int
abbrev wsJ10 : List Cond := u_ws RJ1 TJ1 0
theorem nmJ1 : ∀ a, a < 0 → ∀ b, b < 0 → a ≠ b → (TJ1 a).2.1 ≠ (TJ1 b).2.1 := by decide +kernel
theorem tyJ1_ok : ∀ k, k < 0 → parseFieldDescriptor (TJ1 k).2.2.1 = some (tyJ1 k) := by decide +kernel
abbrev cJ1_charAt_3b067 : ByteArray := prog_18_method_2_code
def yJ1_charAt_3b067 : MethodName := ⟨RJ1, "charAt", "([BI)C"⟩
def RJ2 : String := "java/lang/StringUTF16"
def TJ2 : u_T := fun k => match k with
  | _ => ("", "", "", false)
def tyJ2 : Nat → FieldType := fun k => match k with
  | _ => .int
abbrev wsJ20 : List Cond := u_ws RJ2 TJ2 0
theorem nmJ2 : ∀ a, a < 0 → ∀ b, b < 0 → a ≠ b → (TJ2 a).2.1 ≠ (TJ2 b).2.1 := by decide +kernel
theorem tyJ2_ok : ∀ k, k < 0 → parseFieldDescriptor (TJ2 k).2.2.1 = some (tyJ2 k) := by decide +kernel
abbrev cJ2_getChar_3b067 : ByteArray := prog_19_method_5_code
def yJ2_getChar_3b067 : MethodName := ⟨RJ2, "getChar", "([BI)C"⟩
abbrev cJ2_length_9d52b : ByteArray := prog_19_method_6_code
def yJ2_length_9d52b : MethodName := ⟨RJ2, "length", "([B)I"⟩
abbrev cJ2_charAt_3b067 : ByteArray := prog_19_method_83_code
def yJ2_charAt_3b067 : MethodName := ⟨RJ2, "charAt", "([BI)C"⟩
abbrev cJ2_checkIndex_2214a : ByteArray := prog_19_method_91_code
def yJ2_checkIndex_2214a : MethodName := ⟨RJ2, "checkIndex", "(I[B)V"⟩
def RJ10 : String := "java/lang/System"
def TJ10 : u_T := fun k => match k with
  | _ => ("", "", "", false)
def tyJ10 : Nat → FieldType := fun k => match k with
  | _ => .int
abbrev wsJ100 : List Cond := u_ws RJ10 TJ10 0
theorem nmJ10 : ∀ a, a < 0 → ∀ b, b < 0 → a ≠ b → (TJ10 a).2.1 ≠ (TJ10 b).2.1 := by decide +kernel
theorem tyJ10_ok : ∀ k, k < 0 → parseFieldDescriptor (TJ10 k).2.2.1 = some (tyJ10 k) := by decide +kernel
def RJxfd54e : String := "java/lang/constant/Constable"
def TJxfd54e : u_T := fun k => match k with
  | _ => ("", "", "", false)
def tyJxfd54e : Nat → FieldType := fun k => match k with
  | _ => .int
abbrev wsJxfd54e0 : List Cond := u_ws RJxfd54e TJxfd54e 0
theorem nmJxfd54e : ∀ a, a < 0 → ∀ b, b < 0 → a ≠ b → (TJxfd54e a).2.1 ≠ (TJxfd54e b).2.1 := by decide +kernel
theorem tyJxfd54e_ok : ∀ k, k < 0 → parseFieldDescriptor (TJxfd54e k).2.2.1 = some (tyJxfd54e k) := by decide +kernel
def RJx3cf43 : String := "java/lang/constant/ConstantDesc"
def TJx3cf43 : u_T := fun k => match k with
  | _ => ("", "", "", false)
def tyJx3cf43 : Nat → FieldType := fun k => match k with
  | _ => .int
abbrev wsJx3cf430 : List Cond := u_ws RJx3cf43 TJx3cf43 0
theorem nmJx3cf43 : ∀ a, a < 0 → ∀ b, b < 0 → a ≠ b → (TJx3cf43 a).2.1 ≠ (TJx3cf43 b).2.1 := by decide +kernel
theorem tyJx3cf43_ok : ∀ k, k < 0 → parseFieldDescriptor (TJx3cf43 k).2.2.1 = some (tyJx3cf43 k) := by decide +kernel
def RJ7 : String := "java/util/Arrays"
def TJ7 : u_T := fun k => match k with
  | _ => ("", "", "", false)
def tyJ7 : Nat → FieldType := fun k => match k with
  | _ => .int
abbrev wsJ70 : List Cond := u_ws RJ7 TJ7 0
theorem nmJ7 : ∀ a, a < 0 → ∀ b, b < 0 → a ≠ b → (TJ7 a).2.1 ≠ (TJ7 b).2.1 := by decide +kernel
theorem tyJ7_ok : ∀ k, k < 0 → parseFieldDescriptor (TJ7 k).2.2.1 = some (tyJ7 k) := by decide +kernel
abbrev cJ7_fill_53178 : ByteArray := prog_21_method_103_code
def yJ7_fill_53178 : MethodName := ⟨RJ7, "fill", "([II)V"⟩
abbrev cJ7_copyOf_59c91 : ByteArray := prog_21_method_123_code
def yJ7_copyOf_59c91 : MethodName := ⟨RJ7, "copyOf", "([II)[I"⟩
def RJ3 : String := "jdk/internal/util/Preconditions"
def TJ3 : u_T := fun k => match k with
  | _ => ("", "", "", false)
def tyJ3 : Nat → FieldType := fun k => match k with
  | _ => .int
abbrev wsJ30 : List Cond := u_ws RJ3 TJ3 0
theorem nmJ3 : ∀ a, a < 0 → ∀ b, b < 0 → a ≠ b → (TJ3 a).2.1 ≠ (TJ3 b).2.1 := by decide +kernel
theorem tyJ3_ok : ∀ k, k < 0 → parseFieldDescriptor (TJ3 k).2.2.1 = some (tyJ3 k) := by decide +kernel
abbrev cJ3_checkIndex_8e157 : ByteArray := prog_22_method_11_code
def yJ3_checkIndex_8e157 : MethodName := ⟨RJ3, "checkIndex", "(IILjava/util/function/BiFunction;)I"⟩
def RL : String := "BlackRoadLaw"
abbrev cL_law : ByteArray := code
def yL_law : MethodName := ⟨RL, "law", "([I)Z"⟩
abbrev vwCl : List vw_C := [(RX0, TX0, 7), (RX1, TX1, 15), (RX2, TX2, 10), (RX3, TX3, 4), (RX4, TX4, 16), (RX5, TX5, 7), (RX6, TX6, 5), (RX7, TX7, 16), (RX8, TX8, 12), (RX9, TX9, 8), (RX10, TX10, 9), (RX11, TX11, 18), (RX12, TX12, 115)]
end
section
/-! the methods as blocks: printed by wip/tools/prog.py out of the bytecode. A block: what it does in a row, how it ends, where it goes on. -/
abbrev Blk : Type := List Instr × Instr × List Nat
def gl {α : Type} : List α → Nat → Option α
  | [], _ => none
  | a :: _, 0 => some a
  | _ :: l, k + 1 => gl l k
def mb_Br_init : List Blk := [([.aload 0, .nop, .aload 0, .new 7, .dup], .invokespecial 1, [1]),
  ([.putfield 11000, .aload 0, .new 5, .dup], .invokespecial 2, [2]),
  ([.putfield 11001, .aload 0, .new 10, .dup], .invokespecial 3, [3]),
  ([.putfield 11002, .aload 0, .new 9, .dup, .iconst 400], .invokespecial 4, [4]),
  ([.putfield 11003, .aload 0, .new 2, .dup], .invokespecial 5, [5]),
  ([.putfield 11004, .aload 0, .new 6, .dup], .invokespecial 7, [6]),
  ([.putfield 11005, .aload 0, .new 3, .dup], .invokespecial 10, [7]),
  ([.putfield 11006, .aload 0, .new 0, .dup, .aload 0, .getfield 11000, .aload 0, .getfield 11002], .invokespecial 11, [8]),
  ([.putfield 11007, .aload 0, .new 1, .dup, .aload 0, .getfield 11000, .aload 0, .getfield 11001, .aload 0, .getfield 11004, .aload 0, .getfield 11006], .invokespecial 12, [9]),
  ([.putfield 11008, .aload 0, .new 4, .dup, .aload 0, .getfield 11000, .aload 0, .getfield 11002, .aload 0, .getfield 11008, .aload 0, .getfield 11007], .invokespecial 13, [10]),
  ([.putfield 11009, .aload 0, .new 8, .dup, .aload 0, .getfield 11000, .aload 0, .getfield 11007], .invokespecial 14, [11]),
  ([.putfield 11010, .aload 0, .iconst 36, .newarray .int, .putfield 11011, .aload 0, .iconst 3, .newarray .int, .putfield 11012, .aload 0, .iconst 3, .newarray .int, .putfield 11013, .aload 0, .iconst 21, .newarray .int, .putfield 11014, .aload 0, .iconst (-2), .putfield 11015, .aload 0, .iconst (-1), .putfield 11016, .aload 0, .iconst (-1), .putfield 11017, .aload 0, .getfield 11014, .iconst (-2)], .invokestatic 6, [12]),
  ([], .return_, [])]
def mb_Road_init : List Blk := [([.aload 0, .nop, .aload 0, .iconst 12, .newarray .int, .putfield 7000, .aload 0, .iconst 12, .newarray .int, .putfield 7001, .aload 0, .iconst 12, .newarray .int, .putfield 7002, .aload 0, .iconst 732, .newarray .int, .putfield 7003, .aload 0, .iconst 3, .newarray .int, .putfield 7004, .aload 0, .iconst 3, .newarray .int, .putfield 7005, .aload 0, .iconst 36, .newarray .int, .putfield 7006, .aload 0, .iconst 36, .newarray .int, .putfield 7007, .aload 0, .iconst 0, .putfield 7008, .aload 0, .iconst 0, .putfield 7009, .aload 0, .iconst 70, .putfield 7010, .aload 0, .iconst 2, .putfield 7011, .aload 0, .iconst 10, .putfield 7012, .aload 0, .iconst 2, .putfield 7013, .aload 0, .iconst 3, .putfield 7014, .aload 0, .iconst (-1), .putfield 7015], .return_, [])]
def mb_Plants_init : List Blk := [([.aload 0, .nop, .aload 0, .iconst 3, .newarray .int, .putfield 5000, .aload 0, .iconst 3, .newarray .int, .putfield 5001, .aload 0, .iconst 3, .newarray .int, .putfield 5002, .aload 0, .iconst 3, .newarray .int, .putfield 5003, .aload 0, .iconst 0, .putfield 5004, .aload 0, .iconst 6, .putfield 5005, .aload 0, .iconst 20, .putfield 5006], .return_, [])]
def mb_Warmth_init : List Blk := [([.aload 0, .nop, .aload 0, .iconst 160, .putfield 10000, .aload 0, .iconst 4, .putfield 10001, .aload 0, .iconst 110, .putfield 10002, .aload 0, .iconst 80, .putfield 10003, .aload 0, .iconst 70, .putfield 10004, .aload 0, .iconst 15, .putfield 10005, .aload 0, .iconst 20, .putfield 10006, .aload 0, .iconst 60, .putfield 10007, .aload 0, .iconst 40, .putfield 10008], .return_, [])]
def mb_Tape_init : List Blk := [([.aload 0, .nop, .aload 0, .iconst 0, .putfield 9001, .aload 0, .iconst 0, .putfield 9002, .aload 0, .iconst 0, .putfield 9003, .aload 0, .iconst 0, .putfield 9004, .aload 0, .iconst (-1), .putfield 9005, .aload 0, .iconst 0, .putfield 9006, .aload 0, .iconst 0, .putfield 9007, .aload 0, .iconst 0, .iload 1], .invokedynamic 1, [1]),
  ([.newarray .int, .putfield 9000], .return_, [])]
def mb_Hours_init : List Blk := [([.aload 0, .nop, .aload 0, .iconst 40, .newarray .int, .putfield 2000, .aload 0, .iconst 40, .newarray .int, .putfield 2001, .aload 0, .iconst 40, .newarray .int, .putfield 2002, .aload 0, .iconst 40, .newarray .int, .putfield 2003, .aload 0, .iconst 40, .newarray .int, .putfield 2004, .aload 0, .iconst 12960, .newarray .int, .putfield 2005, .aload 0, .iconst 0, .putfield 2006, .aload 0, .iconst 1, .putfield 2007, .aload 0, .iconst 0, .putfield 2008, .aload 0, .iconst 0, .putfield 2009, .aload 0, .getfield 2005, .iconst 1], .invokestatic 6, [1]),
  ([], .return_, [])]
def mb_Arrays_fill : List Blk := [([.iconst 0, .istore 2, .aload 0], .arraylength, [1]),
  ([.istore 3], .nop, [2]),
  ([.iload 2, .iload 3], .if_icmp .ge 0, [5, 3]),
  ([.aload 0, .iload 2, .iload 1], .iastore, [4]),
  ([.iinc 2 1], .goto 0, [2]),
  ([], .return_, [])]
def mb_Rate_init : List Blk := [([.aload 0, .nop, .aload 0, .new 9, .dup, .iconst 100], .invokespecial 4, [1]),
  ([.putfield 6000, .aload 0, .iconst 0, .putfield 6001, .aload 0, .iconst 0, .putfield 6002, .aload 0, .iconst 0, .putfield 6003, .aload 0, .iconst 0, .putfield 6004, .aload 0, .getfield 6000, .iconst 1946157056], .invokevirtual 8, [2]),
  ([.aload 0, .getfield 6000, .iconst 1, .putfield 9001], .return_, [])]
def mb_Tape_addFour : List Blk := [([.iconst 24, .istore 2], .nop, [1]),
  ([.iload 2], .ifCond .lt 0, [4, 2]),
  ([.aload 0, .getfield 9000, .aload 0, .getfield 9001, .iload 1, .iload 2, .iushr, .iconst 255, .iand], .invokestatic 9, [3]),
  ([.aload 0, .dup, .getfield 9001, .iconst 1, .iadd, .putfield 9001, .iinc 2 (-8)], .goto 0, [1]),
  ([], .return_, [])]
def mb_Br_set : List Blk := [([.iload 1], .ifCond .lt 0, [4, 1]),
  ([.iload 1, .aload 0], .arraylength, [2]),
  ([], .if_icmp .ge 0, [4, 3]),
  ([.aload 0, .iload 1, .iload 2], .iastore, [4]),
  ([], .return_, [])]
def mb_Loads_init : List Blk := [([.aload 0, .nop, .aload 0, .iconst 576, .newarray .int, .putfield 3000, .aload 0, .iconst 64, .newarray .int, .putfield 3001, .aload 0, .iconst 0, .putfield 3002, .aload 0, .iconst 0, .putfield 3003], .return_, [])]
def mb_Cooling_init : List Blk := [([.aload 0, .nop, .aload 0, .iconst 36, .newarray .int, .putfield 0, .aload 0, .iconst 36, .newarray .int, .putfield 1, .aload 0, .iconst 36, .newarray .int, .putfield 2, .aload 0, .iconst 180, .newarray .int, .putfield 3, .aload 0, .iconst 21636, .newarray .int, .putfield 4, .aload 0, .aload 1, .putfield 5, .aload 0, .aload 2, .putfield 6], .return_, [])]
def mb_Haulage_init : List Blk := [([.aload 0, .nop, .aload 0, .iconst 0, .putfield 1004, .aload 0, .iconst 0, .putfield 1005, .aload 0, .iconst 0, .putfield 1006, .aload 0, .iconst 3, .newarray .int, .putfield 1007, .aload 0, .iconst 3, .newarray .int, .putfield 1008, .aload 0, .iconst 3, .newarray .int, .putfield 1009, .aload 0, .iconst 3, .newarray .int, .putfield 1010, .aload 0, .iconst 16, .newarray .int, .putfield 1011, .aload 0, .iconst 16, .newarray .int, .putfield 1012, .aload 0, .iconst 16, .newarray .int, .putfield 1013, .aload 0, .iconst 36, .newarray .int, .putfield 1014, .aload 0, .aload 1, .putfield 1003, .aload 0, .aload 2, .putfield 1000, .aload 0, .aload 3, .putfield 1001, .aload 0, .aload 4, .putfield 1002], .return_, [])]
def mb_Paving_init : List Blk := [([.aload 0, .nop, .aload 0, .iconst 6, .newarray .int, .putfield 4000, .aload 0, .iconst 36, .newarray .int, .putfield 4001, .aload 0, .iconst 0, .putfield 4002, .aload 0, .iconst 0, .putfield 4007, .aload 0, .iconst 0, .putfield 4008, .aload 0, .iconst 0, .putfield 4009, .aload 0, .iconst 0, .putfield 4010, .aload 0, .iconst 0, .putfield 4011, .aload 0, .iconst 0, .putfield 4012, .aload 0, .iconst 0, .putfield 4013, .aload 0, .iconst 0, .putfield 4014, .aload 0, .iconst 0, .putfield 4015, .aload 0, .aload 1, .putfield 4003, .aload 0, .aload 2, .putfield 4004, .aload 0, .aload 3, .putfield 4005, .aload 0, .aload 4, .putfield 4006], .return_, [])]
def mb_Rolling_init : List Blk := [([.aload 0, .nop, .aload 0, .iconst 6, .newarray .int, .putfield 8000, .aload 0, .iconst 6, .newarray .int, .putfield 8001, .aload 0, .iconst 3, .newarray .int, .dup, .iconst 0, .iconst 150], .iastore, [1]),
  ([.dup, .iconst 1, .iconst 120], .iastore, [2]),
  ([.dup, .iconst 2, .iconst 90], .iastore, [3]),
  ([.putfield 8002, .aload 0, .iconst 3, .newarray .int, .dup, .iconst 0, .iconst 110], .iastore, [4]),
  ([.dup, .iconst 1, .iconst 80], .iastore, [5]),
  ([.dup, .iconst 2, .iconst 60], .iastore, [6]),
  ([.putfield 8003, .aload 0, .iconst 3, .newarray .int, .dup, .iconst 0, .iconst 2], .iastore, [7]),
  ([.dup, .iconst 1, .iconst 3], .iastore, [8]),
  ([.dup, .iconst 2, .iconst 2], .iastore, [9]),
  ([.putfield 8004, .aload 0, .iconst 6, .newarray .int, .putfield 8005, .aload 0, .iconst 108, .newarray .int, .putfield 8006, .aload 0, .iconst 36, .newarray .int, .putfield 8007, .aload 0, .iconst (-1), .putfield 8010, .aload 0, .iconst 0, .putfield 8011, .aload 0, .aload 1, .putfield 8008, .aload 0, .aload 2, .putfield 8009], .return_, [])]
def mb_Br_section : List Blk := [([.iload 1, .iconst 10, .iconst 500], .invokestatic 16, [1]),
  ([], .ifCond .eq 0, [4, 2]),
  ([.iload 2, .iconst 0, .iconst 60], .invokestatic 16, [3]),
  ([], .ifCond .ne 0, [5, 4]),
  ([.iconst (-1)], .ireturn, []),
  ([.aload 0, .getfield 11000, .iload 1, .iload 2], .invokevirtual 17, [6]),
  ([.istore 3, .aload 0], .invokevirtual 29, [7]),
  ([.iload 3], .ireturn, [])]
def mb_Br_isFrom : List Blk := [([.iload 0, .iload 1], .if_icmp .lt 0, [3, 1]),
  ([.iload 0, .iload 2], .if_icmp .gt 0, [3, 2]),
  ([.iconst 1], .goto 0, [4]),
  ([.iconst 0], .nop, [4]),
  ([], .freturn, [])]
def mb_Road_addSection : List Blk := [([.aload 0, .getfield 7008, .iconst 12], .if_icmp .lt 0, [2, 1]),
  ([.iconst (-1)], .ireturn, []),
  ([.aload 0, .getfield 7000, .aload 0, .getfield 7008, .iload 1], .invokestatic 9, [3]),
  ([.aload 0, .getfield 7001, .aload 0, .getfield 7008, .iload 2], .invokestatic 9, [4]),
  ([.aload 0, .dup, .getfield 7008, .iconst 1, .iadd, .putfield 7008, .aload 0], .invokevirtual 18, [5]),
  ([.aload 0, .getfield 7008, .iconst 1, .isub], .ireturn, [])]
def mb_Road_settle : List Blk := [([.aload 0], .invokevirtual 19, [1]),
  ([.aload 0], .invokevirtual 23, [2]),
  ([.aload 0], .invokevirtual 24, [3]),
  ([], .return_, [])]
def mb_Road_weighHeights : List Blk := [([.aload 0, .getfield 7008, .iconst 1, .isub, .istore 1], .nop, [1]),
  ([.iload 1], .ifCond .lt 0, [8, 2]),
  ([.iconst 0, .istore 2], .nop, [3]),
  ([.iload 2, .iconst 61], .if_icmp .ge 0, [7, 4]),
  ([.aload 0, .getfield 7003, .iload 1, .iconst 61, .imul, .iload 2, .iadd, .aload 0, .iload 1, .iload 2], .invokevirtual 20, [5]),
  ([], .invokestatic 9, [6]),
  ([.iinc 2 1], .goto 0, [3]),
  ([.iinc 1 (-1)], .goto 0, [1]),
  ([], .return_, [])]
def mb_Road_costFrom : List Blk := [([.aload 0, .getfield 7001, .iload 1], .invokestatic 21, [1]),
  ([.istore 3, .iload 2, .iload 3, .aload 0, .getfield 7012, .isub], .if_icmp .ge 0, [3, 2]),
  ([.iconst 1000000], .ireturn, []),
  ([.iload 2, .iload 3], .if_icmp .ge 0, [5, 4]),
  ([.iload 3, .iload 2, .isub, .aload 0, .getfield 7013, .imul], .goto 0, [6]),
  ([.iload 2, .iload 3, .isub, .aload 0, .getfield 7014, .imul], .nop, [6]),
  ([.istore 4, .iload 1, .iconst 1, .iadd, .aload 0, .getfield 7008], .if_icmp .lt 0, [8, 7]),
  ([.iload 4], .ireturn, []),
  ([.aload 0, .iload 1, .iconst 1, .iadd, .iload 2, .aload 0, .getfield 7011, .isub, .iload 2, .aload 0, .getfield 7011, .iadd], .invokevirtual 22, [9]),
  ([.istore 5, .iload 5, .iconst (-1)], .if_icmp .ne 0, [11, 10]),
  ([.iconst 1000000], .goto 0, [13]),
  ([.iload 4, .aload 0, .getfield 7003, .iload 1, .iconst 1, .iadd, .iconst 61, .imul, .iload 5, .iadd], .invokestatic 21, [12]),
  ([.iadd], .nop, [13]),
  ([], .ireturn, [])]
def mb_Br_at : List Blk := [([.iload 1], .ifCond .lt 0, [5, 1]),
  ([.iload 1, .aload 0], .arraylength, [2]),
  ([], .if_icmp .ge 0, [5, 3]),
  ([.aload 0, .iload 1], .iaload, [4]),
  ([], .goto 0, [6]),
  ([.iconst 0], .nop, [6]),
  ([], .ireturn, [])]
def mb_Road_cheapest : List Blk := [([.iconst (-1), .istore 4, .iconst 1000000, .istore 5, .iconst 0, .iload 2], .invokedynamic 1, [1]),
  ([.istore 6], .nop, [2]),
  ([.iload 6, .iconst 60, .iload 3], .invokedynamic 2, [3]),
  ([], .if_icmp .gt 0, [8, 4]),
  ([.aload 0, .getfield 7003, .iload 1, .iconst 61, .imul, .iload 6, .iadd], .invokestatic 21, [5]),
  ([.istore 7, .iload 7, .iload 5], .if_icmp .ge 0, [7, 6]),
  ([.iload 7, .istore 5, .iload 6, .istore 4], .nop, [7]),
  ([.iinc 6 1], .goto 0, [2]),
  ([.iload 4], .ireturn, [])]
def mb_Road_chooseLevels : List Blk := [([.aload 0, .iconst (-1), .putfield 7015, .iconst 0, .istore 1, .iconst 60, .istore 2, .iconst 0, .istore 3], .nop, [1]),
  ([.iload 3, .aload 0, .getfield 7008], .if_icmp .ge 0, [10, 2]),
  ([.aload 0, .iload 3, .iload 1, .iload 2], .invokevirtual 22, [3]),
  ([.istore 4, .iload 4, .iconst (-1)], .if_icmp .ne 0, [5, 4]),
  ([.aload 0, .iconst (-1), .putfield 7015], .return_, []),
  ([.aload 0, .getfield 7002, .iload 3, .iload 4], .invokestatic 9, [6]),
  ([.iload 3], .ifCond .ne 0, [9, 7]),
  ([.aload 0, .aload 0, .getfield 7003, .iload 4], .invokestatic 21, [8]),
  ([.putfield 7015], .nop, [9]),
  ([.iload 4, .aload 0, .getfield 7011, .isub, .istore 1, .iload 4, .aload 0, .getfield 7011, .iadd, .istore 2, .iinc 3 1], .goto 0, [1]),
  ([], .return_, [])]
def mb_Road_measureJobs : List Blk := [([.iconst 0, .istore 1], .nop, [1]),
  ([.iload 1, .aload 0], .invokevirtual 25, [2]),
  ([], .if_icmp .ge 0, [17, 3]),
  ([.aload 0, .iload 1], .invokevirtual 26, [4]),
  ([.istore 2, .aload 0, .iload 1], .invokevirtual 27, [5]),
  ([.istore 3, .iload 3], .ifCond .ne 0, [10, 6]),
  ([.iconst 0, .aload 0, .getfield 7002, .iload 2], .invokestatic 21, [7]),
  ([.aload 0, .getfield 7001, .iload 2], .invokestatic 21, [8]),
  ([.isub], .invokedynamic 1, [9]),
  ([], .goto 0, [11]),
  ([.iconst 0], .nop, [11]),
  ([.istore 4, .aload 0, .getfield 7004, .iload 3], .invokestatic 21, [12]),
  ([.iload 4, .iadd, .istore 5, .aload 0, .getfield 7006, .iload 1, .iload 5], .invokestatic 9, [13]),
  ([.aload 0, .getfield 7007, .iload 1, .aload 0, .getfield 7000, .iload 2], .invokestatic 21, [14]),
  ([.aload 0, .getfield 7010, .imul, .iload 5, .imul, .iconst 24, .imul, .iconst 99999, .iadd, .iconst 100000], .idiv, [15]),
  ([], .invokestatic 9, [16]),
  ([.iinc 1 1], .goto 0, [1]),
  ([], .return_, [])]
def mb_Road_jobs : List Blk := [([.aload 0, .getfield 7008, .aload 0, .getfield 7009, .imul], .ireturn, [])]
def mb_Road_sectionOf : List Blk := [([.aload 0, .getfield 7008], .ifCond .ne 0, [2, 1]),
  ([.iconst 0], .goto 0, [3]),
  ([.iload 1, .aload 0, .getfield 7008], .irem, [3]),
  ([], .ireturn, [])]
def mb_Road_layerOf : List Blk := [([.iload 1, .aload 0, .getfield 7008], .invokestatic 28, [1]),
  ([], .ireturn, [])]
def mb_Br_cut : List Blk := [([.iload 1], .ifCond .ne 0, [2, 1]),
  ([.iconst 0], .goto 0, [3]),
  ([.iload 0, .iload 1], .idiv, [3]),
  ([], .ireturn, [])]
def mb_Br_changed : List Blk := [([.aload 0, .getfield 11009], .invokevirtual 30, [1]),
  ([.aload 0, .iconst (-2), .putfield 11015, .aload 0, .getfield 11014, .iconst (-2)], .invokestatic 6, [2]),
  ([], .return_, [])]
def mb_Paving_forget : List Blk := [([.aload 0, .iconst 0, .putfield 4007], .return_, [])]
def mb_Br_even : List Blk := [([.iload 1, .iconst 20, .iconst 120], .invokestatic 16, [1]),
  ([], .ifCond .eq 0, [10, 2]),
  ([.iload 2, .iconst 0, .iconst 9], .invokestatic 16, [3]),
  ([], .ifCond .eq 0, [10, 4]),
  ([.iload 3, .iconst 0, .iconst 20], .invokestatic 16, [5]),
  ([], .ifCond .eq 0, [10, 6]),
  ([.iload 4, .iconst 1, .iconst 9], .invokestatic 16, [7]),
  ([], .ifCond .eq 0, [10, 8]),
  ([.iload 5, .iconst 1, .iconst 9], .invokestatic 16, [9]),
  ([], .ifCond .ne 0, [11, 10]),
  ([.iconst 0], .freturn, []),
  ([.aload 0, .getfield 11000, .iload 1, .putfield 7010, .aload 0, .getfield 11000, .iload 2, .putfield 7011, .aload 0, .getfield 11000, .iload 3, .putfield 7012, .aload 0, .getfield 11000, .iload 4, .putfield 7013, .aload 0, .getfield 11000, .iload 5, .putfield 7014, .aload 0, .getfield 11000], .invokevirtual 18, [12]),
  ([.aload 0], .invokevirtual 29, [13]),
  ([.iconst 1], .freturn, [])]
def mb_Br_levels : List Blk := [([.aload 0, .getfield 11000, .getfield 7015], .ireturn, [])]
def mb_Br_level : List Blk := [([.aload 0, .getfield 11000, .getfield 7015, .iconst (-1)], .if_icmp .eq 0, [3, 1]),
  ([.iload 1, .iconst 0, .aload 0, .getfield 11000, .getfield 7008, .iconst 1, .isub], .invokestatic 16, [2]),
  ([], .ifCond .ne 0, [4, 3]),
  ([.iconst (-1)], .ireturn, []),
  ([.aload 0, .getfield 11000, .getfield 7002, .iload 1], .invokestatic 21, [5]),
  ([], .ireturn, [])]
def mb_Br_layer : List Blk := [([.iload 1, .iconst 20, .iconst 200], .invokestatic 16, [1]),
  ([], .ifCond .eq 0, [4, 2]),
  ([.iload 2, .iconst 0, .iconst 2], .invokestatic 16, [3]),
  ([], .ifCond .ne 0, [5, 4]),
  ([.iconst (-1)], .ireturn, []),
  ([.aload 0, .getfield 11000, .iload 1, .iload 2], .invokevirtual 35, [6]),
  ([.istore 3, .aload 0], .invokevirtual 29, [7]),
  ([.iload 3], .ireturn, [])]
def mb_Road_addLayer : List Blk := [([.aload 0, .getfield 7009, .iconst 3], .if_icmp .lt 0, [2, 1]),
  ([.iconst (-1)], .ireturn, []),
  ([.aload 0, .getfield 7004, .aload 0, .getfield 7009, .iload 1], .invokestatic 9, [3]),
  ([.aload 0, .getfield 7005, .aload 0, .getfield 7009, .iload 2], .invokestatic 9, [4]),
  ([.aload 0, .dup, .getfield 7009, .iconst 1, .iadd, .putfield 7009, .aload 0], .invokevirtual 18, [5]),
  ([.aload 0, .getfield 7009, .iconst 1, .isub], .ireturn, [])]
def mb_Br_job : List Blk := [([.aload 0, .getfield 11000, .getfield 7015, .iconst (-1)], .if_icmp .eq 0, [4, 1]),
  ([.iload 1, .iconst 0, .aload 0, .getfield 11000], .invokevirtual 25, [2]),
  ([.iconst 1, .isub], .invokestatic 16, [3]),
  ([], .ifCond .ne 0, [5, 4]),
  ([.iconst (-1)], .ireturn, []),
  ([.iload 2], .tableswitch 0 0 3 #[], [14, 6, 8, 10, 12]),
  ([.aload 0, .getfield 11000, .iload 1], .invokevirtual 26, [7]),
  ([], .ireturn, []),
  ([.aload 0, .getfield 11000, .iload 1], .invokevirtual 27, [9]),
  ([], .ireturn, []),
  ([.aload 0, .getfield 11000, .getfield 7006, .iload 1], .invokestatic 21, [11]),
  ([], .ireturn, []),
  ([.aload 0, .getfield 11000, .getfield 7007, .iload 1], .invokestatic 21, [13]),
  ([], .ireturn, []),
  ([.iconst (-1)], .ireturn, [])]
def mb_Br_plant : List Blk := [([.iload 1, .iconst 0, .iconst 2], .invokestatic 16, [1]),
  ([], .ifCond .eq 0, [8, 2]),
  ([.iload 2, .iconst 1, .iconst 10], .invokestatic 16, [3]),
  ([], .ifCond .eq 0, [8, 4]),
  ([.iload 3, .iconst 10, .iconst 200], .invokestatic 16, [5]),
  ([], .ifCond .eq 0, [8, 6]),
  ([.iload 4, .iconst 1, .iconst 20], .invokestatic 16, [7]),
  ([], .ifCond .ne 0, [9, 8]),
  ([.iconst (-1)], .ireturn, []),
  ([.aload 0, .getfield 11001, .iload 1, .iload 2, .iload 3, .iload 4], .invokevirtual 38, [10]),
  ([.istore 5, .aload 0], .invokevirtual 29, [11]),
  ([.iload 5], .ireturn, [])]
def mb_Plants_add : List Blk := [([.aload 0, .getfield 5004, .iconst 3], .if_icmp .lt 0, [2, 1]),
  ([.iconst (-1)], .ireturn, []),
  ([.aload 0, .getfield 5000, .aload 0, .getfield 5004, .iload 1], .invokestatic 9, [3]),
  ([.aload 0, .getfield 5001, .aload 0, .getfield 5004, .iload 2], .invokestatic 9, [4]),
  ([.aload 0, .getfield 5002, .aload 0, .getfield 5004, .iload 3], .invokestatic 9, [5]),
  ([.aload 0, .getfield 5003, .aload 0, .getfield 5004, .iload 4], .invokestatic 9, [6]),
  ([.aload 0, .dup, .getfield 5004, .iconst 1, .iadd, .putfield 5004, .aload 0, .getfield 5004, .iconst 1, .isub], .ireturn, [])]
def mb_Br_trucks : List Blk := [([.iload 1, .iconst 1, .iconst 16], .invokestatic 16, [1]),
  ([], .ifCond .eq 0, [4, 2]),
  ([.iload 2, .iconst 5, .iconst 30], .invokestatic 16, [3]),
  ([], .ifCond .ne 0, [5, 4]),
  ([.iconst 0], .freturn, []),
  ([.aload 0, .getfield 11001, .iload 1, .putfield 5005, .aload 0, .getfield 11001, .iload 2, .putfield 5006, .aload 0], .invokevirtual 29, [6]),
  ([.iconst 1], .freturn, [])]
def mb_Br_heat : List Blk := [([.iload 1, .iconst 100, .iconst 200], .invokestatic 16, [1]),
  ([], .ifCond .eq 0, [10, 2]),
  ([.iload 2, .iconst 1, .iconst 20], .invokestatic 16, [3]),
  ([], .ifCond .eq 0, [10, 4]),
  ([.iload 3, .iconst 0, .iconst 200], .invokestatic 16, [5]),
  ([], .ifCond .eq 0, [10, 6]),
  ([.iload 4, .iconst 0, .iconst 200], .invokestatic 16, [7]),
  ([], .ifCond .eq 0, [10, 8]),
  ([.iload 5, .iconst 0, .iconst 200], .invokestatic 16, [9]),
  ([], .ifCond .ne 0, [11, 10]),
  ([.iconst 0], .freturn, []),
  ([.aload 0, .getfield 11002, .iload 1, .putfield 10000, .aload 0, .getfield 11002, .iload 2, .putfield 10001, .aload 0, .getfield 11002, .iload 3, .putfield 10002, .aload 0, .getfield 11002, .iload 4, .putfield 10003, .aload 0, .getfield 11002, .iload 5, .putfield 10004, .aload 0], .invokevirtual 29, [12]),
  ([.iconst 1], .freturn, [])]
def mb_Br_weather : List Blk := [([.iload 1, .iconst (-20), .iconst 50], .invokestatic 16, [1]),
  ([], .ifCond .eq 0, [8, 2]),
  ([.iload 2, .iconst (-20), .iconst 60], .invokestatic 16, [3]),
  ([], .ifCond .eq 0, [8, 4]),
  ([.iload 3, .iconst 1, .iconst 200], .invokestatic 16, [5]),
  ([], .ifCond .eq 0, [8, 6]),
  ([.iload 4, .iconst 1, .iconst 200], .invokestatic 16, [7]),
  ([], .ifCond .ne 0, [9, 8]),
  ([.iconst 0], .freturn, []),
  ([.aload 0, .getfield 11002, .iload 1, .putfield 10005, .aload 0, .getfield 11002, .iload 2, .putfield 10006, .aload 0, .getfield 11002, .iload 3, .putfield 10007, .aload 0, .getfield 11002, .iload 4, .putfield 10008, .aload 0], .invokevirtual 29, [10]),
  ([.iconst 1], .freturn, [])]
def mb_Br_roller : List Blk := [([.iload 1, .iconst 0, .iconst 2], .invokestatic 16, [1]),
  ([], .ifCond .eq 0, [4, 2]),
  ([.iload 2, .iconst 10, .iconst 100], .invokestatic 16, [3]),
  ([], .ifCond .ne 0, [5, 4]),
  ([.iconst (-1)], .ireturn, []),
  ([.aload 0, .getfield 11010, .iload 1, .iload 2], .invokevirtual 43, [6]),
  ([], .ireturn, [])]
def mb_Rolling_add : List Blk := [([.aload 0, .getfield 8011, .iconst 6], .if_icmp .lt 0, [2, 1]),
  ([.iconst (-1)], .ireturn, []),
  ([.aload 0, .getfield 8000, .aload 0, .getfield 8011, .iload 1], .invokestatic 9, [3]),
  ([.aload 0, .getfield 8001, .aload 0, .getfield 8011, .iload 2], .invokestatic 9, [4]),
  ([.aload 0, .dup, .getfield 8011, .iconst 1, .iadd, .putfield 8011, .aload 0, .iconst (-1), .putfield 8010, .aload 0, .getfield 8011, .iconst 1, .isub], .ireturn, [])]
def mb_Br_sort : List Blk := [([.iload 1, .iconst 0, .iconst 2], .invokestatic 16, [1]),
  ([], .ifCond .eq 0, [8, 2]),
  ([.iload 2, .iconst 0, .iconst 200], .invokestatic 16, [3]),
  ([], .ifCond .eq 0, [8, 4]),
  ([.iload 3, .iconst 0, .iload 2], .invokestatic 16, [5]),
  ([], .ifCond .eq 0, [8, 6]),
  ([.iload 4, .iconst 0, .iconst 9], .invokestatic 16, [7]),
  ([], .ifCond .ne 0, [9, 8]),
  ([.iconst 0], .freturn, []),
  ([.aload 0, .getfield 11010, .iload 1, .iload 2, .iload 3, .iload 4], .invokevirtual 45, [10]),
  ([.iconst 1], .freturn, [])]
def mb_Rolling_setSort : List Blk := [([.aload 0, .getfield 8002, .iload 1, .iload 2], .invokestatic 9, [1]),
  ([.aload 0, .getfield 8003, .iload 1, .iload 3], .invokestatic 9, [2]),
  ([.aload 0, .getfield 8004, .iload 1, .iload 4], .invokestatic 9, [3]),
  ([.aload 0, .iconst (-1), .putfield 8010], .return_, [])]
def mb_Br_feed : List Blk := [([.aload 0, .getfield 11003, .getfield 9001, .iconst 20, .iadd, .iconst 400], .if_icmp .le 0, [2, 1]),
  ([.iconst (-1)], .ireturn, []),
  ([.aload 0, .getfield 11003, .iload 1], .invokevirtual 8, [3]),
  ([.aload 0, .getfield 11003, .iload 2], .invokevirtual 8, [4]),
  ([.aload 0, .getfield 11003, .iload 3], .invokevirtual 8, [5]),
  ([.aload 0, .getfield 11003, .iload 4], .invokevirtual 8, [6]),
  ([.aload 0, .getfield 11003, .iload 5], .invokevirtual 8, [7]),
  ([.aload 0, .getfield 11003, .getfield 9001], .ireturn, [])]
def mb_Br_end : List Blk := [([.iload 1, .iconst 0, .aload 0, .getfield 11003, .getfield 9001], .invokestatic 16, [1]),
  ([], .ifCond .ne 0, [3, 2]),
  ([.iconst (-1)], .ireturn, []),
  ([.aload 0, .getfield 11003, .iload 1, .putfield 9001, .iload 1], .ireturn, [])]
def mb_Br_hours : List Blk := [([.aload 0, .getfield 11004, .aload 0, .getfield 11003], .invokevirtual 49, [1]),
  ([.istore 1, .aload 0], .invokevirtual 77, [2]),
  ([.iload 1], .ifCond .ne 0, [4, 3]),
  ([.iconst (-1)], .ireturn, []),
  ([.aload 0], .invokevirtual 29, [5]),
  ([.aload 0, .getfield 11004, .getfield 2006], .ireturn, [])]
def mb_Hours_read : List Blk := [([.aload 0, .aload 1, .iconst 0], .invokevirtual 50, [1]),
  ([.aload 1], .invokevirtual 56, [2]),
  ([], .ifCond .ne 0, [4, 3]),
  ([.iconst 0], .freturn, []),
  ([.aload 0, .aload 1, .iconst 1], .invokevirtual 50, [5]),
  ([.aload 0, .aload 0, .getfield 2008, .putfield 2006, .aload 0, .iconst 1, .aload 0, .getfield 2009], .invokedynamic 1, [6]),
  ([.putfield 2007, .iconst 0, .istore 2], .nop, [7]),
  ([.iload 2, .aload 0, .getfield 2007], .if_icmp .ge 0, [10, 8]),
  ([.aload 0, .iload 2], .invokevirtual 72, [9]),
  ([.iinc 2 1], .goto 0, [7]),
  ([.iconst 1], .freturn, [])]
def mb_Hours_scan : List Blk := [([.aload 0, .iconst 0, .putfield 2008, .aload 0, .iconst 0, .putfield 2009, .aload 1], .invokevirtual 51, [1]),
  ([.iconst 0, .istore 3], .nop, [2]),
  ([.iload 3, .iconst 40], .if_icmp .gt 0, [8, 3]),
  ([.aload 1], .invokevirtual 56, [4]),
  ([], .ifCond .eq 0, [8, 5]),
  ([.aload 1, .getfield 9002], .ifCond .eq 0, [8, 6]),
  ([.aload 0, .aload 1, .iload 2], .invokevirtual 57, [7]),
  ([.iinc 3 1], .goto 0, [2]),
  ([], .return_, [])]
def mb_Tape_start : List Blk := [([.aload 0, .iconst 0, .putfield 9007, .aload 0, .iconst 0, .putfield 9004, .aload 0, .iconst (-1), .putfield 9005, .aload 0], .invokevirtual 52, [1]),
  ([], .return_, [])]
def mb_Tape_next : List Blk := [([.aload 0, .aload 0, .getfield 9007, .putfield 9006], .nop, [1]),
  ([.aload 0, .getfield 9006, .aload 0, .getfield 9001], .if_icmp .ge 0, [6, 2]),
  ([.aload 0, .getfield 9000, .aload 0, .getfield 9006], .invokestatic 21, [3]),
  ([], .invokestatic 53, [4]),
  ([], .ifCond .eq 0, [6, 5]),
  ([.aload 0, .dup, .getfield 9006, .iconst 1, .iadd, .putfield 9006], .goto 0, [1]),
  ([.aload 0, .aload 0, .getfield 9006, .putfield 9007, .aload 0, .iconst 0, .putfield 9003, .aload 0, .getfield 9006, .aload 0, .getfield 9001], .if_icmp .lt 0, [8, 7]),
  ([.aload 0, .iconst 0, .putfield 9002], .goto 0, [30]),
  ([.aload 0, .getfield 9000, .aload 0, .getfield 9006], .invokestatic 21, [9]),
  ([], .invokestatic 54, [10]),
  ([], .ifCond .eq 0, [17, 11]),
  ([.aload 0, .iconst 1, .putfield 9002], .nop, [12]),
  ([.aload 0, .getfield 9007, .aload 0, .getfield 9001], .if_icmp .ge 0, [30, 13]),
  ([.aload 0, .getfield 9000, .aload 0, .getfield 9007], .invokestatic 21, [14]),
  ([], .invokestatic 54, [15]),
  ([], .ifCond .eq 0, [30, 16]),
  ([.aload 0, .dup, .getfield 9007, .iconst 1, .iadd, .putfield 9007], .goto 0, [12]),
  ([.aload 0, .getfield 9000, .aload 0, .getfield 9006], .invokestatic 21, [18]),
  ([], .invokestatic 55, [19]),
  ([], .ifCond .eq 0, [28, 20]),
  ([.aload 0, .iconst 2, .putfield 9002], .nop, [21]),
  ([.aload 0, .getfield 9007, .aload 0, .getfield 9001], .if_icmp .ge 0, [30, 22]),
  ([.aload 0, .getfield 9000, .aload 0, .getfield 9007], .invokestatic 21, [23]),
  ([], .invokestatic 55, [24]),
  ([], .ifCond .eq 0, [30, 25]),
  ([.aload 0, .iconst 100000, .aload 0, .getfield 9003, .iconst 10, .imul, .aload 0, .getfield 9000, .aload 0, .getfield 9007], .invokestatic 21, [26]),
  ([.iadd, .iconst 48, .isub], .invokedynamic 2, [27]),
  ([.putfield 9003, .aload 0, .dup, .getfield 9007, .iconst 1, .iadd, .putfield 9007], .goto 0, [21]),
  ([.aload 0, .iconst 3, .putfield 9002, .aload 0, .aload 0, .getfield 9000, .aload 0, .getfield 9006], .invokestatic 21, [29]),
  ([.putfield 9003, .aload 0, .dup, .getfield 9007, .iconst 1, .iadd, .putfield 9007], .nop, [30]),
  ([], .return_, [])]
def mb_Tape_isBlank : List Blk := [([.iload 0, .iconst 32], .if_icmp .eq 0, [2, 1]),
  ([.iload 0, .iconst 10], .if_icmp .ne 0, [3, 2]),
  ([.iconst 1], .goto 0, [4]),
  ([.iconst 0], .nop, [4]),
  ([], .freturn, [])]
def mb_Tape_isLetter : List Blk := [([.iload 0, .iconst 97], .if_icmp .lt 0, [2, 1]),
  ([.iload 0, .iconst 122], .if_icmp .le 0, [4, 2]),
  ([.iload 0, .iconst 65], .if_icmp .lt 0, [5, 3]),
  ([.iload 0, .iconst 90], .if_icmp .gt 0, [5, 4]),
  ([.iconst 1], .goto 0, [6]),
  ([.iconst 0], .nop, [6]),
  ([], .freturn, [])]
def mb_Tape_isDigit : List Blk := [([.iload 0, .iconst 48], .if_icmp .lt 0, [3, 1]),
  ([.iload 0, .iconst 57], .if_icmp .gt 0, [3, 2]),
  ([.iconst 1], .goto 0, [4]),
  ([.iconst 0], .nop, [4]),
  ([], .freturn, [])]
def mb_Tape_isSound : List Blk := [([.aload 0, .getfield 9004], .ifCond .ne 0, [2, 1]),
  ([.iconst 1], .goto 0, [3]),
  ([.iconst 0], .nop, [3]),
  ([], .freturn, [])]
def mb_Hours_passClause : List Blk := [([.aload 1], .invokestatic 58, [1]),
  ([.istore 3, .iload 3, .iconst (-1)], .if_icmp .ne 0, [4, 2]),
  ([.aload 1, .iconst 1], .invokevirtual 67, [3]),
  ([], .return_, []),
  ([.aload 0, .getfield 2008, .iconst 40], .if_icmp .lt 0, [7, 5]),
  ([.aload 1, .iconst 3], .invokevirtual 67, [6]),
  ([], .return_, []),
  ([.aload 1], .invokevirtual 52, [8]),
  ([.iconst 0, .istore 4, .iconst 0, .istore 5, .iconst 0, .istore 6, .iload 3], .ifCond .ne 0, [12, 9]),
  ([.aload 1, .aload 0, .getfield 2009, .aload 0, .getfield 2009, .iconst 2], .invokedynamic 2, [10]),
  ([], .invokevirtual 68, [11]),
  ([.pop], .goto 0, [26]),
  ([.iload 3, .iconst 1], .if_icmp .ne 0, [18, 13]),
  ([.aload 1, .iconst 0, .iconst 2], .invokevirtual 68, [14]),
  ([.istore 4, .aload 1, .iconst 1, .iconst 120], .invokevirtual 68, [15]),
  ([.istore 6, .aload 1, .ldc 5], .invokevirtual 69, [16]),
  ([.aload 1, .iconst 0, .iconst 4319], .invokevirtual 68, [17]),
  ([.istore 5], .goto 0, [26]),
  ([.iload 3, .iconst 2], .if_icmp .ne 0, [21, 19]),
  ([.aload 1, .iconst 0, .iconst 2], .invokevirtual 68, [20]),
  ([], .goto 0, [22]),
  ([.iconst 0], .nop, [22]),
  ([.istore 4, .aload 1, .iconst 0, .iconst 4319], .invokevirtual 68, [23]),
  ([.istore 5, .aload 1, .ldc 6], .invokevirtual 69, [24]),
  ([.aload 1, .iload 5, .iconst 4319], .invokevirtual 68, [25]),
  ([.istore 6], .nop, [26]),
  ([.aload 1, .iconst 59], .invokevirtual 70, [27]),
  ([.iload 2], .ifCond .eq 0, [33, 28]),
  ([.aload 0, .getfield 2000, .aload 0, .getfield 2008, .iload 3], .invokestatic 9, [29]),
  ([.aload 0, .getfield 2001, .aload 0, .getfield 2008, .aload 0, .getfield 2009, .iconst 1, .isub], .invokestatic 9, [30]),
  ([.aload 0, .getfield 2002, .aload 0, .getfield 2008, .iload 4], .invokestatic 9, [31]),
  ([.aload 0, .getfield 2003, .aload 0, .getfield 2008, .iload 5], .invokestatic 9, [32]),
  ([.aload 0, .getfield 2004, .aload 0, .getfield 2008, .iload 6], .invokestatic 9, [33]),
  ([.aload 0, .dup, .getfield 2008, .iconst 1, .iadd, .putfield 2008, .aload 0, .dup, .getfield 2009, .iload 3], .ifCond .ne 0, [35, 34]),
  ([.iconst 1], .goto 0, [36]),
  ([.iconst 0], .nop, [36]),
  ([.iadd, .putfield 2009], .return_, [])]
def mb_Hours_kindOf : List Blk := [([.aload 0, .ldc 0], .invokevirtual 59, [1]),
  ([], .ifCond .eq 0, [3, 2]),
  ([.iconst 0], .ireturn, []),
  ([.aload 0, .ldc 1], .invokevirtual 59, [4]),
  ([], .ifCond .eq 0, [6, 5]),
  ([.iconst 1], .ireturn, []),
  ([.aload 0, .ldc 2], .invokevirtual 59, [7]),
  ([], .ifCond .eq 0, [9, 8]),
  ([.iconst 2], .ireturn, []),
  ([.aload 0, .ldc 3], .invokevirtual 59, [10]),
  ([], .ifCond .eq 0, [12, 11]),
  ([.iconst 3], .ireturn, []),
  ([.aload 0, .ldc 4], .invokevirtual 59, [13]),
  ([], .ifCond .eq 0, [15, 14]),
  ([.iconst 4], .goto 0, [16]),
  ([.iconst (-1)], .nop, [16]),
  ([], .ireturn, [])]
def mb_Tape_isWord : List Blk := [([.aload 0, .getfield 9002, .iconst 1], .if_icmp .ne 0, [3, 1]),
  ([.aload 0, .getfield 9007, .aload 0, .getfield 9006, .isub, .aload 1], .invokevirtual 60, [2]),
  ([], .if_icmp .eq 0, [4, 3]),
  ([.iconst 0], .freturn, []),
  ([.iconst 0, .istore 2], .nop, [5]),
  ([.iload 2, .aload 1], .invokevirtual 60, [6]),
  ([], .if_icmp .ge 0, [12, 7]),
  ([.aload 0, .getfield 9000, .aload 0, .getfield 9006, .iload 2, .iadd], .invokestatic 21, [8]),
  ([.aload 1, .iload 2], .invokevirtual 62, [9]),
  ([], .if_icmp .eq 0, [11, 10]),
  ([.iconst 0], .freturn, []),
  ([.iinc 2 1], .goto 0, [5]),
  ([.iconst 1], .freturn, [])]
def mb_String_length : List Blk := [([.aload 0, .instanceof 0, .fsub, .aload 0], .invokevirtual 61, [1]),
  ([.ishr], .ireturn, [])]
def mb_String_coder : List Blk := [([.getstatic 0], .ifCond .eq 0, [2, 1]),
  ([.aload 0, .instanceof 1], .goto 0, [3]),
  ([.iconst 1], .nop, [3]),
  ([], .dreturn, [])]
def mb_String_charAt : List Blk := [([.aload 0], .invokevirtual 63, [1]),
  ([], .ifCond .eq 0, [4, 2]),
  ([.aload 0, .instanceof 0, .iload 1], .invokestatic 64, [3]),
  ([], .dreturn, []),
  ([.aload 0, .instanceof 0, .iload 1], .invokestatic 999, [5]),
  ([], .dreturn, [])]
def mb_String_isLatin1 : List Blk := [([.getstatic 0], .ifCond .eq 0, [3, 1]),
  ([.aload 0, .instanceof 1], .ifCond .ne 0, [3, 2]),
  ([.iconst 1], .goto 0, [4]),
  ([.iconst 0], .nop, [4]),
  ([], .freturn, [])]
def mb_StringLatin1_charAt : List Blk := [([.iload 1, .aload 0, .fsub], .invokestatic 65, [1]),
  ([.aload 0, .iload 1], .baload, [2]),
  ([.iconst 255, .iand, .i2c], .dreturn, [])]
def mb_String_checkIndex : List Blk := [([.iload 0, .iload 1, .getstatic 1], .invokestatic 66, [1]),
  ([.pop], .return_, [])]
def mb_Preconditions_checkIndex : List Blk := [([.iload 0], .ifCond .lt 0, [2, 1]),
  ([.iload 0, .iload 1], .if_icmp .lt 0, [4, 2]),
  ([.aload 2, .iload 0, .iload 1], .invokestatic 999, [3]),
  ([], .athrow, []),
  ([.iload 0], .ireturn, [])]
def mb_Tape_fail : List Blk := [([.aload 0, .getfield 9004], .ifCond .ne 0, [2, 1]),
  ([.aload 0, .iload 1, .putfield 9004, .aload 0, .aload 0, .getfield 9006, .putfield 9005], .nop, [2]),
  ([], .return_, [])]
def mb_Tape_passNumber : List Blk := [([.aload 0, .getfield 9002, .iconst 2], .if_icmp .eq 0, [3, 1]),
  ([.aload 0, .iconst 1], .invokevirtual 67, [2]),
  ([], .goto 0, [6]),
  ([.aload 0, .getfield 9003, .iload 1, .iload 2], .invokestatic 16, [4]),
  ([], .ifCond .ne 0, [6, 5]),
  ([.aload 0, .iconst 2], .invokevirtual 67, [6]),
  ([.aload 0], .invokevirtual 56, [7]),
  ([], .ifCond .ne 0, [9, 8]),
  ([.iload 1], .ireturn, []),
  ([.aload 0, .getfield 9003, .istore 3, .aload 0], .invokevirtual 52, [10]),
  ([.iload 3], .ireturn, [])]
def mb_Tape_passWord : List Blk := [([.aload 0], .invokevirtual 56, [1]),
  ([], .ifCond .eq 0, [6, 2]),
  ([.aload 0, .aload 1], .invokevirtual 59, [3]),
  ([], .ifCond .eq 0, [6, 4]),
  ([.aload 0], .invokevirtual 52, [5]),
  ([], .goto 0, [7]),
  ([.aload 0, .iconst 1], .invokevirtual 67, [7]),
  ([], .return_, [])]
def mb_Tape_passSign : List Blk := [([.aload 0], .invokevirtual 56, [1]),
  ([], .ifCond .eq 0, [6, 2]),
  ([.aload 0, .iload 1], .invokevirtual 71, [3]),
  ([], .ifCond .eq 0, [6, 4]),
  ([.aload 0], .invokevirtual 52, [5]),
  ([], .goto 0, [7]),
  ([.aload 0, .iconst 1], .invokevirtual 67, [7]),
  ([], .return_, [])]
def mb_Tape_isSign : List Blk := [([.aload 0, .getfield 9002, .iconst 3], .if_icmp .ne 0, [3, 1]),
  ([.aload 0, .getfield 9003, .iload 1], .if_icmp .ne 0, [3, 2]),
  ([.iconst 1], .goto 0, [4]),
  ([.iconst 0], .nop, [4]),
  ([], .freturn, [])]
def mb_Hours_markWorld : List Blk := [([.iconst 0, .istore 2, .iconst 0, .istore 3], .nop, [1]),
  ([.iload 3, .aload 0, .getfield 2006], .if_icmp .ge 0, [9, 2]),
  ([.iload 2, .aload 0, .getfield 2000, .iload 3], .invokestatic 21, [3]),
  ([.iconst 3], .if_icmp .ne 0, [7, 4]),
  ([.aload 0, .iload 3, .iload 1], .invokevirtual 73, [5]),
  ([], .ifCond .eq 0, [7, 6]),
  ([.iconst 1], .goto 0, [8]),
  ([.iconst 0], .nop, [8]),
  ([.ior, .istore 2, .iinc 3 1], .goto 0, [1]),
  ([.iconst 0, .istore 3], .nop, [10]),
  ([.iload 3, .iconst 4320], .if_icmp .ge 0, [16, 11]),
  ([.aload 0, .getfield 2005, .iload 1, .iconst 4320, .imul, .iload 3, .iadd, .iload 2], .ifCond .eq 0, [13, 12]),
  ([.iconst 0], .goto 0, [14]),
  ([.iconst 1], .nop, [14]),
  ([], .invokestatic 9, [15]),
  ([.iinc 3 1], .goto 0, [10]),
  ([.iconst 0, .istore 3], .nop, [17]),
  ([.iload 3, .aload 0, .getfield 2006], .if_icmp .ge 0, [32, 18]),
  ([.aload 0, .getfield 2000, .iload 3], .invokestatic 21, [19]),
  ([.iconst 3], .if_icmp .ne 0, [24, 20]),
  ([.aload 0, .iload 3, .iload 1], .invokevirtual 73, [21]),
  ([], .ifCond .eq 0, [24, 22]),
  ([.aload 0, .iload 1, .iload 3, .iconst 1], .invokevirtual 74, [23]),
  ([], .goto 0, [31]),
  ([.aload 0, .getfield 2000, .iload 3], .invokestatic 21, [25]),
  ([.iconst 2], .if_icmp .ne 0, [31, 26]),
  ([.aload 0, .iload 3, .iload 1], .invokevirtual 73, [27]),
  ([], .ifCond .eq 0, [31, 28]),
  ([.aload 0, .iload 1, .iload 3, .aload 0, .getfield 2002, .iload 3], .invokestatic 21, [29]),
  ([], .invokestatic 75, [30]),
  ([], .invokevirtual 74, [31]),
  ([.iinc 3 1], .goto 0, [17]),
  ([.iconst 0, .istore 3], .nop, [33]),
  ([.iload 3, .aload 0, .getfield 2006], .if_icmp .ge 0, [40, 34]),
  ([.aload 0, .getfield 2000, .iload 3], .invokestatic 21, [35]),
  ([.iconst 4], .if_icmp .ne 0, [39, 36]),
  ([.aload 0, .iload 3, .iload 1], .invokevirtual 73, [37]),
  ([], .ifCond .eq 0, [39, 38]),
  ([.aload 0, .iload 1, .iload 3], .invokevirtual 76, [39]),
  ([.iinc 3 1], .goto 0, [33]),
  ([], .return_, [])]
def mb_Hours_holds : List Blk := [([.aload 0, .getfield 2001, .iload 1], .invokestatic 21, [1]),
  ([.istore 3, .iload 3, .iconst (-1)], .if_icmp .eq 0, [3, 2]),
  ([.iload 3, .iload 2], .if_icmp .ne 0, [4, 3]),
  ([.iconst 1], .goto 0, [5]),
  ([.iconst 0], .nop, [5]),
  ([], .freturn, [])]
def mb_Hours_mark : List Blk := [([.aload 0, .getfield 2003, .iload 2], .invokestatic 21, [1]),
  ([.istore 4], .nop, [2]),
  ([.iload 4, .aload 0, .getfield 2004, .iload 2], .invokestatic 21, [3]),
  ([], .if_icmp .gt 0, [7, 4]),
  ([.iload 1, .iconst 4320, .imul, .iload 4, .iadd, .istore 5, .aload 0, .getfield 2005, .iload 5, .aload 0, .getfield 2005, .iload 5], .invokestatic 21, [5]),
  ([.iload 3, .ior], .invokestatic 9, [6]),
  ([.iinc 4 1], .goto 0, [2]),
  ([], .return_, [])]
def mb_Hours_shutBit : List Blk := [([.iconst 2, .iload 0, .ishl], .ireturn, [])]
def mb_Hours_wet : List Blk := [([.aload 0, .getfield 2003, .iload 2], .invokestatic 21, [1]),
  ([.istore 3], .nop, [2]),
  ([.iload 3, .aload 0, .getfield 2004, .iload 2], .invokestatic 21, [3]),
  ([], .if_icmp .gt 0, [7, 4]),
  ([.iload 1, .iconst 4320, .imul, .iload 3, .iadd, .istore 4, .aload 0, .getfield 2005, .iload 4, .aload 0, .getfield 2005, .iload 4], .invokestatic 21, [5]),
  ([.iconst (-2), .iand], .invokestatic 9, [6]),
  ([.iinc 3 1], .goto 0, [2]),
  ([], .return_, [])]
def mb_Br_tapeWasRead : List Blk := [([.aload 0, .aload 0, .getfield 11003, .getfield 9004, .putfield 11016, .aload 0, .aload 0, .getfield 11003, .getfield 9005, .putfield 11017, .aload 0, .getfield 11003, .iconst 0, .putfield 9001], .return_, [])]
def mb_Br_rate : List Blk := [([.aload 0, .getfield 11003, .getfield 9001, .iconst 100], .if_icmp .le 0, [2, 1]),
  ([.iconst 0], .freturn, []),
  ([.aload 0, .getfield 11005, .aload 0, .getfield 11003], .invokevirtual 79, [3]),
  ([.istore 1, .aload 0], .invokevirtual 77, [4]),
  ([.iload 1], .freturn, [])]
def mb_Rate_read : List Blk := [([.aload 1], .invokevirtual 51, [1]),
  ([.aload 0, .aload 1, .iconst 0], .invokevirtual 80, [2]),
  ([.pop2, .aload 1, .getfield 9002], .ifCond .eq 0, [4, 3]),
  ([.aload 1, .iconst 1], .invokevirtual 67, [4]),
  ([.aload 1], .invokevirtual 56, [5]),
  ([], .ifCond .ne 0, [7, 6]),
  ([.iconst 0], .freturn, []),
  ([.aload 0, .getfield 6000, .aload 1], .invokevirtual 86, [8]),
  ([.iconst 1], .freturn, [])]
def mb_Rate_sum : List Blk := [([.aload 0, .aload 1, .iload 2], .invokevirtual 81, [1]),
  ([.lstore 3, .iconst 0, .istore 5], .nop, [2]),
  ([.iload 5, .iconst 100], .if_icmp .ge 0, [19, 3]),
  ([.aload 1], .invokevirtual 56, [4]),
  ([], .ifCond .eq 0, [19, 5]),
  ([.aload 1, .iconst 43], .invokevirtual 71, [6]),
  ([], .ifCond .eq 0, [11, 7]),
  ([.aload 1], .invokevirtual 52, [8]),
  ([.lload 3, .aload 0, .aload 1, .iload 2], .invokevirtual 81, [9]),
  ([.ladd], .invokestatic 85, [10]),
  ([.lstore 3], .goto 0, [18]),
  ([.aload 1, .iconst 45], .invokevirtual 71, [12]),
  ([], .ifCond .eq 0, [17, 13]),
  ([.aload 1], .invokevirtual 52, [14]),
  ([.lload 3, .aload 0, .aload 1, .iload 2], .invokevirtual 81, [15]),
  ([.lsub], .invokestatic 85, [16]),
  ([.lstore 3], .goto 0, [18]),
  ([.lload 3], .lreturn, []),
  ([.iinc 5 1], .goto 0, [2]),
  ([.lload 3], .lreturn, [])]
def mb_Rate_product : List Blk := [([.aload 0, .aload 1, .iload 2], .invokevirtual 82, [1]),
  ([.lstore 3, .iconst 0, .istore 5], .nop, [2]),
  ([.iload 5, .iconst 100], .if_icmp .ge 0, [21, 3]),
  ([.aload 1], .invokevirtual 56, [4]),
  ([], .ifCond .eq 0, [21, 5]),
  ([.aload 1, .iconst 42], .invokevirtual 71, [6]),
  ([], .ifCond .eq 0, [11, 7]),
  ([.aload 1], .invokevirtual 52, [8]),
  ([.lload 3, .aload 0, .aload 1, .iload 2], .invokevirtual 82, [9]),
  ([.lmul], .invokestatic 85, [10]),
  ([.lstore 3], .goto 0, [20]),
  ([.aload 1, .iconst 47], .invokevirtual 71, [12]),
  ([], .ifCond .eq 0, [19, 13]),
  ([.aload 1], .invokevirtual 52, [14]),
  ([.aload 0, .aload 1, .iload 2], .invokevirtual 82, [15]),
  ([.lstore 6, .lload 6, .jsr_w 0, .lcmp], .ifCond .ne 0, [17, 16]),
  ([.jsr_w 0], .goto 0, [18]),
  ([.lload 3, .lload 6], .ldiv, [18]),
  ([.lstore 3], .goto 0, [20]),
  ([.lload 3], .lreturn, []),
  ([.iinc 5 1], .goto 0, [2]),
  ([.lload 3], .lreturn, [])]
def mb_Rate_one : List Blk := [([.aload 1, .getfield 9002, .iconst 2], .if_icmp .ne 0, [3, 1]),
  ([.aload 1, .iconst 0, .iconst 9999], .invokevirtual 68, [2]),
  ([.i2l], .lreturn, []),
  ([.aload 1, .iconst 45], .invokevirtual 71, [4]),
  ([], .ifCond .eq 0, [11, 5]),
  ([.aload 0, .aload 1, .iconst 45, .iload 2], .invokevirtual 83, [6]),
  ([], .ifCond .eq 0, [9, 7]),
  ([.aload 0, .aload 1, .iload 2, .iconst 1, .iadd], .invokevirtual 82, [8]),
  ([.lneg], .goto 0, [10]),
  ([.jsr_w 0], .nop, [10]),
  ([], .lreturn, []),
  ([.aload 1, .ldc 7], .invokevirtual 59, [12]),
  ([.istore 3, .iload 3], .ifCond .ne 0, [15, 13]),
  ([.aload 1, .ldc 8], .invokevirtual 59, [14]),
  ([], .ifCond .eq 0, [16, 15]),
  ([.iconst 1], .goto 0, [17]),
  ([.iconst 0], .nop, [17]),
  ([.istore 4, .iload 4], .ifCond .ne 0, [22, 18]),
  ([.aload 1, .iconst 40], .invokevirtual 71, [19]),
  ([], .ifCond .ne 0, [22, 20]),
  ([.aload 0, .aload 1], .invokevirtual 84, [21]),
  ([], .lreturn, []),
  ([.iload 4], .ifCond .eq 0, [24, 23]),
  ([.aload 1], .invokevirtual 52, [24]),
  ([.aload 0, .aload 1, .iconst 40, .iload 2], .invokevirtual 83, [25]),
  ([], .ifCond .ne 0, [27, 26]),
  ([.jsr_w 0], .lreturn, []),
  ([.aload 0, .aload 1, .iload 2, .iconst 1, .iadd], .invokevirtual 80, [28]),
  ([.lstore 5, .iload 4], .ifCond .eq 0, [39, 29]),
  ([.aload 1, .iconst 44], .invokevirtual 70, [30]),
  ([.aload 1], .invokevirtual 56, [31]),
  ([], .ifCond .ne 0, [33, 32]),
  ([.jsr_w 0], .lreturn, []),
  ([.aload 0, .aload 1, .iload 2, .iconst 1, .iadd], .invokevirtual 80, [34]),
  ([.lstore 7, .iload 3], .ifCond .eq 0, [37, 35]),
  ([.lload 5, .lload 7], .invokedynamic 4, [36]),
  ([], .goto 0, [38]),
  ([.lload 5, .lload 7], .invokedynamic 3, [38]),
  ([.lstore 5], .nop, [39]),
  ([.aload 1, .iconst 41], .invokevirtual 70, [40]),
  ([.lload 5], .lreturn, [])]
def mb_Rate_opens : List Blk := [([.aload 1, .iload 2], .invokevirtual 71, [1]),
  ([], .ifCond .ne 0, [4, 2]),
  ([.aload 1, .iconst 1], .invokevirtual 67, [3]),
  ([.iconst 0], .freturn, []),
  ([.iload 3, .iconst 8], .if_icmp .lt 0, [7, 5]),
  ([.aload 1, .iconst 3], .invokevirtual 67, [6]),
  ([.iconst 0], .freturn, []),
  ([.aload 1], .invokevirtual 52, [8]),
  ([.iconst 1], .freturn, [])]
def mb_Rate_letter : List Blk := [([.jsr_w 0, .lstore 2, .aload 1, .ldc 9], .invokevirtual 59, [1]),
  ([], .ifCond .eq 0, [3, 2]),
  ([.aload 0, .getfield 6001, .i2l, .lstore 2], .goto 0, [14]),
  ([.aload 1, .ldc 10], .invokevirtual 59, [4]),
  ([], .ifCond .eq 0, [6, 5]),
  ([.aload 0, .getfield 6002, .i2l, .lstore 2], .goto 0, [14]),
  ([.aload 1, .ldc 11], .invokevirtual 59, [7]),
  ([], .ifCond .eq 0, [9, 8]),
  ([.aload 0, .getfield 6003, .i2l, .lstore 2], .goto 0, [14]),
  ([.aload 1, .ldc 12], .invokevirtual 59, [10]),
  ([], .ifCond .eq 0, [12, 11]),
  ([.aload 0, .getfield 6004, .i2l, .lstore 2], .goto 0, [14]),
  ([.aload 1, .iconst 1], .invokevirtual 67, [13]),
  ([.jsr_w 0], .lreturn, []),
  ([.aload 1], .invokevirtual 52, [15]),
  ([.lload 2], .lreturn, [])]
def mb_Rate_held : List Blk := [([.jsr_w (-1000000000), .jsr_w 1000000000, .lload 0], .invokedynamic 4, [1]),
  ([], .invokedynamic 3, [2]),
  ([], .lreturn, [])]
def mb_Tape_copyFrom : List Blk := [([.iconst 0, .istore 2], .nop, [1]),
  ([.iload 2, .aload 1, .getfield 9001], .if_icmp .ge 0, [5, 2]),
  ([.aload 0, .getfield 9000, .iload 2, .aload 1, .getfield 9000, .iload 2], .invokestatic 21, [3]),
  ([], .invokestatic 9, [4]),
  ([.iinc 2 1], .goto 0, [1]),
  ([.aload 0, .aload 1, .getfield 9001, .putfield 9001], .return_, [])]
def mb_Br_fault : List Blk := [([.iload 1], .lookupswitch 0 #[(0, 0), (1, 0)], [3, 1, 2]),
  ([.aload 0, .getfield 11016], .ireturn, []),
  ([.aload 0, .getfield 11017], .ireturn, []),
  ([.iconst (-1)], .ireturn, [])]
def mb_Br_world : List Blk := [([.iload 1, .iconst 0, .aload 0, .getfield 11004, .getfield 2007, .iconst 1, .isub], .invokestatic 16, [1]),
  ([], .ifCond .eq 0, [4, 2]),
  ([.iload 2, .iconst 0, .iconst 4319], .invokestatic 16, [3]),
  ([], .ifCond .ne 0, [5, 4]),
  ([.iconst (-1)], .ireturn, []),
  ([.iload 3], .ifCond .ne 0, [11, 6]),
  ([.aload 0, .getfield 11004, .iload 1, .iload 2], .invokevirtual 89, [7]),
  ([], .ifCond .eq 0, [9, 8]),
  ([.iconst 1], .goto 0, [10]),
  ([.iconst 0], .nop, [10]),
  ([], .ireturn, []),
  ([.iload 3, .iconst 1, .iconst 3], .invokestatic 16, [12]),
  ([], .ifCond .eq 0, [15, 13]),
  ([.aload 0, .getfield 11004, .iload 1, .iload 3, .iconst 1, .isub, .iload 2], .invokevirtual 90, [14]),
  ([], .ireturn, []),
  ([.iload 3, .iconst 4, .iconst 6], .invokestatic 16, [16]),
  ([], .ifCond .eq 0, [22, 17]),
  ([.aload 0, .getfield 11004, .iload 1, .iload 3, .iconst 1, .isub, .iconst 3, .isub, .iload 2], .invokevirtual 91, [18]),
  ([], .ifCond .eq 0, [20, 19]),
  ([.iconst 1], .goto 0, [21]),
  ([.iconst 0], .nop, [21]),
  ([], .ireturn, []),
  ([.iconst (-1)], .ireturn, [])]
def mb_Hours_isOpen : List Blk := [([.aload 0, .getfield 2005, .iload 1, .iconst 4320, .imul, .iload 2, .iadd], .invokestatic 21, [1]),
  ([.iconst 1, .iand], .ifCond .eq 0, [3, 2]),
  ([.iconst 1], .goto 0, [4]),
  ([.iconst 0], .nop, [4]),
  ([], .freturn, [])]
def mb_Hours_haul : List Blk := [([.iconst 20, .istore 4, .iconst (-1), .istore 5, .iconst 0, .istore 6], .nop, [1]),
  ([.iload 6, .aload 0, .getfield 2006], .if_icmp .ge 0, [14, 2]),
  ([.aload 0, .getfield 2003, .iload 6], .invokestatic 21, [3]),
  ([.istore 7, .aload 0, .getfield 2000, .iload 6], .invokestatic 21, [4]),
  ([.iconst 1], .if_icmp .ne 0, [13, 5]),
  ([.aload 0, .getfield 2002, .iload 6], .invokestatic 21, [6]),
  ([.iload 2], .if_icmp .ne 0, [13, 7]),
  ([.aload 0, .iload 6, .iload 1], .invokevirtual 73, [8]),
  ([], .ifCond .eq 0, [13, 9]),
  ([.iload 7, .iload 3], .if_icmp .gt 0, [13, 10]),
  ([.iload 7, .iload 5], .if_icmp .lt 0, [13, 11]),
  ([.iload 7, .istore 5, .aload 0, .getfield 2004, .iload 6], .invokestatic 21, [12]),
  ([.istore 4], .nop, [13]),
  ([.iinc 6 1], .goto 0, [1]),
  ([.iload 4], .ireturn, [])]
def mb_Hours_isShut : List Blk := [([.aload 0, .getfield 2005, .iload 1, .iconst 4320, .imul, .iload 3, .iadd], .invokestatic 21, [1]),
  ([.iload 2], .invokestatic 75, [2]),
  ([.iand], .ifCond .eq 0, [4, 3]),
  ([.iconst 1], .goto 0, [5]),
  ([.iconst 0], .nop, [5]),
  ([], .freturn, [])]
def mb_Br_run : List Blk := [([.iload 3, .iconst 0, .iconst 5], .invokestatic 16, [1]),
  ([], .ifCond .eq 0, [4, 2]),
  ([.aload 0, .iload 1, .iload 2], .invokevirtual 93, [3]),
  ([], .ifCond .ne 0, [5, 4]),
  ([.iconst (-1)], .ireturn, []),
  ([.iload 3, .iconst 2], .if_icmp .ne 0, [7, 6]),
  ([.aload 0, .getfield 11006, .getfield 3003], .goto 0, [8]),
  ([.aload 0, .getfield 11009, .getfield 4000, .iload 3], .invokestatic 21, [8]),
  ([], .ireturn, [])]
def mb_Br_isPaved : List Blk := [([.iload 2, .iconst 1, .iconst 20], .invokestatic 16, [1]),
  ([], .ifCond .eq 0, [9, 2]),
  ([.iload 1, .iconst 0, .aload 0, .getfield 11004, .getfield 2007, .iconst 1, .isub], .invokestatic 16, [3]),
  ([], .ifCond .eq 0, [9, 4]),
  ([.aload 0], .invokevirtual 94, [5]),
  ([], .ifCond .eq 0, [9, 6]),
  ([.aload 0, .getfield 11009, .iload 1, .iload 2, .aload 0, .getfield 11001, .getfield 5005], .invokevirtual 96, [7]),
  ([], .ifCond .eq 0, [9, 8]),
  ([.iconst 1], .goto 0, [10]),
  ([.iconst 0], .nop, [10]),
  ([], .freturn, [])]
def mb_Br_canBePaved : List Blk := [([.aload 0, .getfield 11000, .getfield 7015, .iconst (-1)], .if_icmp .eq 0, [3, 1]),
  ([.aload 0, .getfield 11000], .invokevirtual 25, [2]),
  ([], .ifCond .ne 0, [4, 3]),
  ([.iconst 0], .freturn, []),
  ([.iconst 0, .istore 1], .nop, [5]),
  ([.iload 1, .aload 0, .getfield 11000, .getfield 7009], .if_icmp .ge 0, [11, 6]),
  ([.aload 0, .getfield 11001, .aload 0, .getfield 11000, .getfield 7005, .iload 1], .invokestatic 21, [7]),
  ([], .invokevirtual 95, [8]),
  ([], .ifCond .ne 0, [10, 9]),
  ([.iconst 0], .freturn, []),
  ([.iinc 1 1], .goto 0, [5]),
  ([.iconst 1], .freturn, [])]
def mb_Plants_make : List Blk := [([.iconst 0, .istore 2], .nop, [1]),
  ([.iload 2, .aload 0, .getfield 5004], .if_icmp .ge 0, [6, 2]),
  ([.aload 0, .getfield 5000, .iload 2], .invokestatic 21, [3]),
  ([.iload 1], .if_icmp .ne 0, [5, 4]),
  ([.iconst 1], .freturn, []),
  ([.iinc 2 1], .goto 0, [1]),
  ([.iconst 0], .freturn, [])]
def mb_Paving_isDone : List Blk := [([.aload 0, .getfield 4007], .ifCond .eq 0, [5, 1]),
  ([.aload 0, .getfield 4009, .iload 1], .if_icmp .ne 0, [5, 2]),
  ([.aload 0, .getfield 4010, .iload 2], .if_icmp .ne 0, [5, 3]),
  ([.aload 0, .getfield 4011, .iload 3], .if_icmp .ne 0, [5, 4]),
  ([.aload 0, .getfield 4008], .freturn, []),
  ([.aload 0], .invokevirtual 97, [6]),
  ([.aload 0, .iload 1, .putfield 4009, .aload 0, .iload 2, .putfield 4010, .aload 0, .iload 3, .putfield 4011, .aload 0, .getfield 4005, .aload 0, .getfield 4009, .aload 0, .getfield 4011], .invokevirtual 98, [7]),
  ([.iconst 0, .istore 4], .nop, [8]),
  ([.iload 4, .iconst 4320], .if_icmp .ge 0, [21, 9]),
  ([.aload 0, .getfield 4008], .ifCond .ne 0, [21, 10]),
  ([.aload 0, .getfield 4005, .iload 4], .invokevirtual 100, [11]),
  ([.aload 0, .getfield 4005, .iload 4], .invokevirtual 101, [12]),
  ([.iconst 0, .istore 5], .nop, [13]),
  ([.iload 5, .aload 0, .getfield 4005, .getfield 1000, .getfield 5004], .if_icmp .ge 0, [16, 14]),
  ([.aload 0, .getfield 4005, .iload 5, .iload 4], .invokevirtual 102, [15]),
  ([.iinc 5 1], .goto 0, [13]),
  ([.aload 0, .getfield 4005, .iload 4], .invokevirtual 107, [17]),
  ([.aload 0, .getfield 4005, .getfield 1001, .aload 0, .getfield 4009, .iload 4], .invokevirtual 89, [18]),
  ([], .ifCond .eq 0, [20, 19]),
  ([.aload 0, .iload 4], .invokevirtual 114, [20]),
  ([.iinc 4 1], .goto 0, [8]),
  ([.aload 0, .iconst 1, .putfield 4007, .aload 0, .getfield 4008], .freturn, [])]
def mb_Paving_clear : List Blk := [([.aload 0, .dup, .getfield 4002, .iconst 1, .iadd, .putfield 4002, .aload 0, .iconst 0, .putfield 4008, .aload 0, .iconst 0, .putfield 4012, .aload 0, .iconst 0, .putfield 4013, .aload 0, .iconst 0, .putfield 4015, .aload 0, .getfield 4000, .iconst 0], .invokestatic 6, [1]),
  ([.aload 0, .getfield 4000, .iconst 3, .iconst (-1)], .invokestatic 9, [2]),
  ([.aload 0, .getfield 4001, .iconst (-1)], .invokestatic 6, [3]),
  ([], .return_, [])]
def mb_Haulage_begin : List Blk := [([.aload 0, .iload 1, .putfield 1004, .aload 0, .iload 2, .putfield 1005, .aload 0, .iconst 0, .putfield 1006, .aload 0, .getfield 1002], .invokevirtual 99, [1]),
  ([.aload 0, .getfield 1007, .iconst 0], .invokestatic 6, [2]),
  ([.aload 0, .getfield 1008, .iconst (-1)], .invokestatic 6, [3]),
  ([.aload 0, .getfield 1009, .iconst 0], .invokestatic 6, [4]),
  ([.aload 0, .getfield 1010, .iconst 0], .invokestatic 6, [5]),
  ([.aload 0, .getfield 1011, .iconst 0], .invokestatic 6, [6]),
  ([.aload 0, .getfield 1012, .iconst 0], .invokestatic 6, [7]),
  ([.aload 0, .getfield 1013, .iconst (-1)], .invokestatic 6, [8]),
  ([.aload 0, .getfield 1014, .iconst 0], .invokestatic 6, [9]),
  ([], .return_, [])]
def mb_Loads_clear : List Blk := [([.aload 0, .iconst 0, .putfield 3003, .aload 0, .iconst 0, .putfield 3002], .return_, [])]
def mb_Haulage_makeMix : List Blk := [([.iconst 0, .istore 2], .nop, [1]),
  ([.iload 2, .aload 0, .getfield 1000, .getfield 5004], .if_icmp .ge 0, [10, 2]),
  ([.aload 0, .getfield 1001, .aload 0, .getfield 1004, .iload 2, .iload 1], .invokevirtual 91, [3]),
  ([], .ifCond .ne 0, [9, 4]),
  ([.aload 0, .getfield 1007, .iload 2, .aload 0, .getfield 1000, .getfield 5002, .iload 2], .invokestatic 21, [5]),
  ([.aload 0, .getfield 1007, .iload 2], .invokestatic 21, [6]),
  ([.aload 0, .getfield 1000, .getfield 5001, .iload 2], .invokestatic 21, [7]),
  ([.iadd], .invokedynamic 2, [8]),
  ([], .invokestatic 9, [9]),
  ([.iinc 2 1], .goto 0, [1]),
  ([], .return_, [])]
def mb_Haulage_comeIn : List Blk := [([.iconst 0, .istore 2], .nop, [1]),
  ([.iload 2, .aload 0, .getfield 1005], .if_icmp .ge 0, [14, 2]),
  ([.aload 0, .getfield 1012, .iload 2], .invokestatic 21, [3]),
  ([.iload 1], .if_icmp .ne 0, [8, 4]),
  ([.aload 0, .getfield 1011, .iload 2], .invokestatic 21, [5]),
  ([.iconst 1], .if_icmp .ne 0, [8, 6]),
  ([.aload 0, .getfield 1011, .iload 2, .iconst 2], .invokestatic 9, [7]),
  ([], .goto 0, [13]),
  ([.aload 0, .getfield 1012, .iload 2], .invokestatic 21, [9]),
  ([.iload 1], .if_icmp .ne 0, [13, 10]),
  ([.aload 0, .getfield 1011, .iload 2], .invokestatic 21, [11]),
  ([.iconst 4], .if_icmp .ne 0, [13, 12]),
  ([.aload 0, .getfield 1011, .iload 2, .iconst 5], .invokestatic 9, [13]),
  ([.iinc 2 1], .goto 0, [1]),
  ([], .return_, [])]
def mb_Haulage_servePlant : List Blk := [([.aload 0, .getfield 1008, .iload 1], .invokestatic 21, [1]),
  ([.istore 3, .iload 3, .iconst (-1)], .if_icmp .eq 0, [10, 2]),
  ([.aload 0, .getfield 1009, .iload 1], .invokestatic 21, [3]),
  ([.iload 2], .if_icmp .gt 0, [10, 4]),
  ([.aload 0, .getfield 1011, .iload 3, .iconst 4], .invokestatic 9, [5]),
  ([.aload 0, .getfield 1012, .iload 3, .iload 2, .aload 0, .getfield 1001, .aload 0, .getfield 1004, .iload 1, .iload 2], .invokevirtual 90, [6]),
  ([.iadd], .invokestatic 9, [7]),
  ([.aload 0, .getfield 1010, .iload 1, .aload 0, .getfield 1010, .iload 1], .invokestatic 21, [8]),
  ([.iconst 1, .isub], .invokestatic 9, [9]),
  ([.aload 0, .getfield 1008, .iload 1, .iconst (-1)], .invokestatic 9, [10]),
  ([.aload 0, .getfield 1008, .iload 1], .invokestatic 21, [11]),
  ([.iconst (-1)], .if_icmp .ne 0, [15, 12]),
  ([.aload 0, .getfield 1001, .aload 0, .getfield 1004, .iload 1, .iload 2], .invokevirtual 91, [13]),
  ([], .ifCond .ne 0, [15, 14]),
  ([.aload 0, .iload 1, .iload 2], .invokevirtual 103, [15]),
  ([], .return_, [])]
def mb_Haulage_beginFilling : List Blk := [([.aload 0, .iconst 2, .iconst 3, .iload 1], .invokevirtual 104, [1]),
  ([.istore 3, .iload 3, .iconst (-1)], .if_icmp .ne 0, [3, 2]),
  ([], .return_, []),
  ([.aload 0, .getfield 1013, .iload 3], .invokestatic 21, [4]),
  ([.istore 4, .aload 0, .getfield 1002, .iload 4, .iconst 1], .invokevirtual 105, [5]),
  ([.istore 5, .aload 0, .getfield 1007, .iload 1], .invokestatic 21, [6]),
  ([.iload 5], .if_icmp .ge 0, [8, 7]),
  ([], .return_, []),
  ([.aload 0, .getfield 1007, .iload 1, .aload 0, .getfield 1007, .iload 1], .invokestatic 21, [9]),
  ([.iload 5, .isub], .invokestatic 9, [10]),
  ([.aload 0, .getfield 1008, .iload 1, .iload 3], .invokestatic 9, [11]),
  ([.aload 0, .getfield 1009, .iload 1, .iload 2, .aload 0, .getfield 1000, .getfield 5003, .iload 1], .invokestatic 21, [12]),
  ([.iadd], .invokestatic 9, [13]),
  ([.aload 0, .getfield 1011, .iload 3, .iconst 3], .invokestatic 9, [14]),
  ([.aload 0, .getfield 1002, .iload 4, .iconst 5, .iload 2], .invokevirtual 106, [15]),
  ([], .return_, [])]
def mb_Haulage_firstStanding : List Blk := [([.iconst (-1), .istore 4, .iconst 0, .istore 5], .nop, [1]),
  ([.iload 5, .aload 0, .getfield 1005], .if_icmp .ge 0, [13, 2]),
  ([.aload 0, .getfield 1011, .iload 5], .invokestatic 21, [3]),
  ([.iload 1], .if_icmp .ne 0, [12, 4]),
  ([.aload 0, .getfield 1002, .aload 0, .getfield 1013, .iload 5], .invokestatic 21, [5]),
  ([.iload 2], .invokevirtual 105, [6]),
  ([.iload 3], .if_icmp .ne 0, [12, 7]),
  ([.iload 4, .iconst (-1)], .if_icmp .eq 0, [11, 8]),
  ([.aload 0, .getfield 1012, .iload 5], .invokestatic 21, [9]),
  ([.aload 0, .getfield 1012, .iload 4], .invokestatic 21, [10]),
  ([], .if_icmp .ge 0, [12, 11]),
  ([.iload 5, .istore 4], .nop, [12]),
  ([.iinc 5 1], .goto 0, [1]),
  ([.iload 4], .ireturn, [])]
def mb_Loads_of : List Blk := [([.aload 0, .getfield 3000, .iload 1, .iconst 9, .imul, .iload 2, .iadd], .invokestatic 21, [1]),
  ([], .ireturn, [])]
def mb_Loads_note : List Blk := [([.aload 0, .getfield 3000, .iload 1, .iconst 9, .imul, .iload 2, .iadd, .iload 3], .invokestatic 9, [1]),
  ([], .return_, [])]
def mb_Haulage_orderLoads : List Blk := [([.iconst 0, .istore 2], .nop, [1]),
  ([.iload 2, .aload 0, .getfield 1005], .if_icmp .ge 0, [9, 2]),
  ([.aload 0, .getfield 1011, .iload 2], .invokestatic 21, [3]),
  ([], .ifCond .ne 0, [8, 4]),
  ([.aload 0], .invokevirtual 108, [5]),
  ([.istore 3, .iload 3, .iconst (-1)], .if_icmp .ne 0, [7, 6]),
  ([], .return_, []),
  ([.aload 0, .iload 2, .iload 3, .iload 1], .invokevirtual 109, [8]),
  ([.iinc 2 1], .goto 0, [1]),
  ([], .return_, [])]
def mb_Haulage_nextToOrder : List Blk := [([.aload 0, .getfield 1006, .aload 0, .getfield 1003], .invokevirtual 25, [1]),
  ([], .if_icmp .ge 0, [6, 2]),
  ([.aload 0, .getfield 1014, .aload 0, .getfield 1006], .invokestatic 21, [3]),
  ([.aload 0, .getfield 1003, .getfield 7007, .aload 0, .getfield 1006], .invokestatic 21, [4]),
  ([], .if_icmp .lt 0, [6, 5]),
  ([.aload 0, .dup, .getfield 1006, .iconst 1, .iadd, .putfield 1006], .goto 0, [0]),
  ([.aload 0, .getfield 1006, .aload 0, .getfield 1003], .invokevirtual 25, [7]),
  ([], .if_icmp .ge 0, [9, 8]),
  ([.aload 0, .getfield 1006], .goto 0, [10]),
  ([.iconst (-1)], .nop, [10]),
  ([], .ireturn, [])]
def mb_Haulage_orderLoad : List Blk := [([.aload 0, .aload 0, .getfield 1003, .iload 2], .invokevirtual 110, [1]),
  ([], .invokevirtual 111, [2]),
  ([.istore 4, .aload 0, .getfield 1000, .getfield 5006, .aload 0, .getfield 1003, .getfield 7007, .iload 2], .invokestatic 21, [3]),
  ([.aload 0, .getfield 1014, .iload 2], .invokestatic 21, [4]),
  ([.isub], .invokedynamic 2, [5]),
  ([.istore 5, .iload 4, .iconst (-1)], .if_icmp .ne 0, [7, 6]),
  ([.iconst (-1)], .goto 0, [8]),
  ([.aload 0, .getfield 1002, .iload 2, .iload 5, .iload 1, .iload 4, .iload 3], .invokevirtual 112, [8]),
  ([.istore 6, .iload 6, .iconst (-1)], .if_icmp .ne 0, [10, 9]),
  ([], .return_, []),
  ([.aload 0, .getfield 1014, .iload 2, .aload 0, .getfield 1014, .iload 2], .invokestatic 21, [11]),
  ([.iload 5, .iadd], .invokestatic 9, [12]),
  ([.aload 0, .getfield 1010, .iload 4, .aload 0, .getfield 1010, .iload 4], .invokestatic 21, [13]),
  ([.iconst 1, .iadd], .invokestatic 9, [14]),
  ([.aload 0, .getfield 1013, .iload 1, .iload 6], .invokestatic 9, [15]),
  ([.aload 0, .getfield 1011, .iload 1, .iconst 1], .invokestatic 9, [16]),
  ([.aload 0, .getfield 1012, .iload 1, .iload 3, .aload 0, .getfield 1001, .aload 0, .getfield 1004, .iload 4, .iload 3], .invokevirtual 90, [17]),
  ([.iadd], .invokestatic 9, [18]),
  ([], .return_, [])]
def mb_Road_kindOf : List Blk := [([.aload 0, .getfield 7005, .aload 0, .iload 1], .invokevirtual 27, [1]),
  ([], .invokestatic 21, [2]),
  ([], .ireturn, [])]
def mb_Haulage_leastSent : List Blk := [([.iconst (-1), .istore 2, .iconst 0, .istore 3], .nop, [1]),
  ([.iload 3, .aload 0, .getfield 1000, .getfield 5004], .if_icmp .ge 0, [10, 2]),
  ([.aload 0, .getfield 1000, .getfield 5000, .iload 3], .invokestatic 21, [3]),
  ([.iload 1], .if_icmp .ne 0, [9, 4]),
  ([.iload 2, .iconst (-1)], .if_icmp .eq 0, [8, 5]),
  ([.aload 0, .getfield 1010, .iload 3], .invokestatic 21, [6]),
  ([.aload 0, .getfield 1010, .iload 2], .invokestatic 21, [7]),
  ([], .if_icmp .ge 0, [9, 8]),
  ([.iload 3, .istore 2], .nop, [9]),
  ([.iinc 3 1], .goto 0, [1]),
  ([.iload 2], .ireturn, [])]
def mb_Loads_add : List Blk := [([.aload 0, .getfield 3003, .iconst 17280], .if_icmp .lt 0, [2, 1]),
  ([.iconst (-1)], .ireturn, []),
  ([.aload 0, .getfield 3003, .aload 0, .getfield 3001], .arraylength, [3]),
  ([], .if_icmp .lt 0, [9, 4]),
  ([.iconst 17280, .iconst 2, .aload 0, .getfield 3001], .arraylength, [5]),
  ([.imul], .invokedynamic 2, [6]),
  ([.istore 6, .aload 0, .aload 0, .getfield 3001, .iload 6], .invokestatic 113, [7]),
  ([.putfield 3001, .aload 0, .aload 0, .getfield 3000, .iload 6, .iconst 9, .imul], .invokestatic 113, [8]),
  ([.putfield 3000], .nop, [9]),
  ([.aload 0, .getfield 3003, .istore 6, .aload 0, .dup, .getfield 3003, .iconst 1, .iadd, .putfield 3003, .aload 0, .iload 6, .iconst 0, .iload 1], .invokevirtual 106, [10]),
  ([.aload 0, .iload 6, .iconst 1, .iload 2], .invokevirtual 106, [11]),
  ([.aload 0, .iload 6, .iconst 2, .iload 3], .invokevirtual 106, [12]),
  ([.aload 0, .iload 6, .iconst 3, .iload 4], .invokevirtual 106, [13]),
  ([.aload 0, .iload 6, .iconst 4, .iload 5], .invokevirtual 106, [14]),
  ([.aload 0, .iload 6, .iconst 5, .iconst (-1)], .invokevirtual 106, [15]),
  ([.aload 0, .iload 6, .iconst 6, .iconst (-1)], .invokevirtual 106, [16]),
  ([.aload 0, .iload 6, .iconst 7, .iconst (-1)], .invokevirtual 106, [17]),
  ([.aload 0, .iload 6, .iconst 8, .iconst 0], .invokevirtual 106, [18]),
  ([.iload 6], .ireturn, [])]
def mb_Arrays_copyOf : List Blk := [([.iload 1, .aload 0], .arraylength, [1]),
  ([], .if_icmp .ne 0, [5, 2]),
  ([.aload 0], .invokevirtual 999, [3]),
  ([], .athrow, []),
  ([], .areturn, []),
  ([.iload 1, .newarray .int, .astore 2, .aload 0, .iconst 0, .aload 2, .iconst 0, .aload 0], .arraylength, [6]),
  ([.iload 1], .invokedynamic 2, [7]),
  ([], .invokedynamic 0, [8]),
  ([.aload 2], .areturn, [])]
def mb_Paving_pave : List Blk := [([.aload 0, .getfield 4010, .istore 2, .iconst 0, .istore 3], .nop, [1]),
  ([.iload 3, .iconst 1000], .if_icmp .ge 0, [13, 2]),
  ([.iload 2], .ifCond .le 0, [13, 3]),
  ([.aload 0, .getfield 4008], .ifCond .ne 0, [13, 4]),
  ([.aload 0, .iload 1], .invokevirtual 115, [5]),
  ([], .ifCond .eq 0, [13, 6]),
  ([.aload 0, .getfield 4015], .ifCond .le 0, [9, 7]),
  ([.iload 2, .aload 0, .iload 2, .iload 1], .invokevirtual 118, [8]),
  ([.isub, .istore 2], .goto 0, [12]),
  ([.aload 0, .iload 1], .invokevirtual 120, [10]),
  ([], .ifCond .ne 0, [12, 11]),
  ([], .goto 0, [13]),
  ([.iinc 3 1], .goto 0, [1]),
  ([.iload 2, .aload 0, .getfield 4010], .if_icmp .ne 0, [18, 14]),
  ([.aload 0, .getfield 4000, .iconst 3], .invokestatic 21, [15]),
  ([.iconst (-1)], .if_icmp .eq 0, [18, 16]),
  ([.aload 0, .getfield 4000, .iconst 0, .aload 0, .getfield 4000, .iconst 0], .invokestatic 21, [17]),
  ([.iconst 1, .iadd], .invokestatic 9, [18]),
  ([], .return_, [])]
def mb_Paving_isFirmBelow : List Blk := [([.aload 0, .getfield 4012, .aload 0, .getfield 4003, .getfield 7008, .isub, .istore 2, .iload 2], .ifCond .lt 0, [4, 1]),
  ([.aload 0, .getfield 4006, .iload 2, .iload 1, .aload 0, .getfield 4006, .getfield 0, .iload 2], .invokestatic 21, [2]),
  ([.isub], .invokevirtual 116, [3]),
  ([.aload 0, .getfield 4004, .getfield 10003], .if_icmp .gt 0, [5, 4]),
  ([.iconst 1], .goto 0, [6]),
  ([.iconst 0], .nop, [6]),
  ([], .freturn, [])]
def mb_Cooling_meanBehind : List Blk := [([.iconst 0, .iconst 600, .iload 2], .invokedynamic 2, [1]),
  ([], .invokedynamic 1, [2]),
  ([.istore 3, .aload 0, .getfield 2, .iload 1], .invokestatic 21, [3]),
  ([.iconst 1, .iadd, .istore 4], .nop, [4]),
  ([.iload 4, .iload 3], .if_icmp .gt 0, [10, 5]),
  ([.aload 0, .iload 1], .invokevirtual 117, [6]),
  ([.istore 5, .aload 0, .getfield 4, .iload 1, .iconst 601, .imul, .iload 4, .iadd, .iload 5, .iconst 5], .idiv, [7]),
  ([], .invokestatic 9, [8]),
  ([.aload 0, .getfield 2, .iload 1, .iload 4], .invokestatic 9, [9]),
  ([.iinc 4 1], .goto 0, [4]),
  ([.aload 0, .getfield 4, .iload 1, .iconst 601, .imul, .iload 3, .iadd], .invokestatic 21, [11]),
  ([], .ireturn, [])]
def mb_Cooling_cool : List Blk := [([.aload 0, .getfield 5, .getfield 7006, .iload 1], .invokestatic 21, [1]),
  ([.istore 2, .iconst 400, .iconst 400000, .iload 2, .iload 2, .imul], .invokestatic 28, [2]),
  ([], .invokedynamic 2, [3]),
  ([.istore 3, .iload 1, .iconst 5, .imul, .istore 4, .iconst 0, .istore 5, .aload 0, .getfield 3, .iload 4], .invokestatic 21, [4]),
  ([.istore 6, .iload 6, .aload 0, .getfield 6, .getfield 10005, .isub, .aload 0, .getfield 6, .getfield 10007, .imul, .iconst 1000], .idiv, [5]),
  ([.ineg, .istore 7, .iconst 0, .istore 8], .nop, [6]),
  ([.iload 8, .iconst 5], .if_icmp .ge 0, [19, 7]),
  ([.iload 8, .iconst 4], .if_icmp .ne 0, [9, 8]),
  ([.iconst 1], .goto 0, [10]),
  ([.iconst 0], .nop, [10]),
  ([.istore 9, .iload 9], .ifCond .eq 0, [12, 11]),
  ([.iconst 0], .goto 0, [13]),
  ([.aload 0, .getfield 3, .iload 4, .iload 8, .iadd, .iconst 1, .iadd], .invokestatic 21, [13]),
  ([.istore 10, .iload 9], .ifCond .eq 0, [16, 14]),
  ([.iload 6, .aload 0, .getfield 6, .getfield 10006, .isub, .aload 0, .getfield 6, .getfield 10008, .imul, .iconst 1000], .idiv, [15]),
  ([], .goto 0, [17]),
  ([.iload 6, .iload 10, .isub, .iload 3, .imul, .iconst 1000], .idiv, [17]),
  ([.istore 11, .iload 6, .iload 7, .iadd, .iload 11, .isub, .istore 12, .aload 0, .getfield 3, .iload 4, .iload 8, .iadd, .iload 12], .invokestatic 9, [18]),
  ([.iload 5, .iload 12, .iadd, .istore 5, .iload 11, .istore 7, .iload 10, .istore 6, .iinc 8 1], .goto 0, [6]),
  ([.iload 5], .ireturn, [])]
def mb_Paving_layOut : List Blk := [([.aload 0, .getfield 4015, .iload 1], .invokedynamic 2, [1]),
  ([.istore 3, .aload 0, .getfield 4000, .iconst 3], .invokestatic 21, [2]),
  ([.iconst (-1)], .if_icmp .ne 0, [4, 3]),
  ([.aload 0, .getfield 4000, .iconst 3, .iload 2], .invokestatic 9, [4]),
  ([.aload 0, .getfield 4013], .ifCond .ne 0, [6, 5]),
  ([.aload 0, .getfield 4001, .aload 0, .getfield 4012, .iload 2], .invokestatic 9, [6]),
  ([.aload 0, .dup, .getfield 4015, .iload 3, .isub, .putfield 4015, .aload 0, .dup, .getfield 4013, .iload 3, .iadd, .putfield 4013, .aload 0, .getfield 4013, .aload 0, .getfield 4003, .getfield 7007, .aload 0, .getfield 4012], .invokestatic 21, [7]),
  ([], .if_icmp .lt 0, [12, 8]),
  ([.aload 0, .getfield 4006, .aload 0, .getfield 4012, .iload 2, .aload 0, .getfield 4014], .invokevirtual 119, [9]),
  ([.aload 0, .dup, .getfield 4012, .iconst 1, .iadd, .putfield 4012, .aload 0, .iconst 0, .putfield 4013, .aload 0, .getfield 4012, .aload 0, .getfield 4003], .invokevirtual 25, [10]),
  ([], .if_icmp .lt 0, [12, 11]),
  ([.aload 0, .iconst 1, .putfield 4008, .aload 0, .getfield 4000, .iconst 1, .iload 2], .invokestatic 9, [12]),
  ([.iload 3], .ireturn, [])]
def mb_Cooling_begin : List Blk := [([.aload 0, .getfield 0, .iload 1, .iload 2], .invokestatic 9, [1]),
  ([.aload 0, .getfield 1, .iload 1, .iload 3], .invokestatic 9, [2]),
  ([.aload 0, .getfield 2, .iload 1, .iconst 0], .invokestatic 9, [3]),
  ([.iconst 0, .istore 4], .nop, [4]),
  ([.iload 4, .iconst 5], .if_icmp .ge 0, [7, 5]),
  ([.aload 0, .getfield 3, .iload 1, .iconst 5, .imul, .iload 4, .iadd, .iload 3], .invokestatic 9, [6]),
  ([.iinc 4 1], .goto 0, [4]),
  ([.aload 0, .getfield 4, .iload 1, .iconst 601, .imul, .iload 3], .invokestatic 9, [8]),
  ([], .return_, [])]
def mb_Paving_takeLoad : List Blk := [([.aload 0, .getfield 4005, .iconst 5, .iconst 0, .aload 0, .getfield 4012], .invokevirtual 104, [1]),
  ([.istore 2, .iload 2, .iconst (-1)], .if_icmp .ne 0, [3, 2]),
  ([.iconst 0], .freturn, []),
  ([.aload 0, .getfield 4005, .getfield 1002, .astore 3, .aload 0, .getfield 4005, .iload 2], .invokevirtual 121, [4]),
  ([.istore 4, .aload 3, .iload 4, .iconst 1], .invokevirtual 105, [5]),
  ([.istore 5, .aload 0, .getfield 4004, .getfield 10000, .iload 1, .aload 3, .iload 4, .iconst 5], .invokevirtual 105, [6]),
  ([.isub, .aload 0, .getfield 4004, .getfield 10001], .invokestatic 28, [7]),
  ([.isub, .istore 6, .aload 3, .iload 4, .iconst 6, .iload 1], .invokevirtual 106, [8]),
  ([.aload 3, .iload 4, .iconst 7, .iload 6], .invokevirtual 106, [9]),
  ([.iload 6, .aload 0, .getfield 4004, .getfield 10002], .if_icmp .ge 0, [17, 10]),
  ([.aload 3, .iload 4, .iconst 8, .iconst 1], .invokevirtual 106, [11]),
  ([.aload 0, .getfield 4005, .iload 4], .invokevirtual 122, [12]),
  ([.aload 0, .getfield 4000, .iconst 4, .aload 0, .getfield 4000, .iconst 4], .invokestatic 21, [13]),
  ([.iconst 1, .iadd], .invokestatic 9, [14]),
  ([.aload 0, .getfield 4000, .iconst 5, .aload 0, .getfield 4000, .iconst 5], .invokestatic 21, [15]),
  ([.iload 5, .iadd], .invokestatic 9, [16]),
  ([.iconst 1], .freturn, []),
  ([.aload 0, .aload 0, .getfield 4013], .ifCond .ne 0, [19, 18]),
  ([.iload 6], .goto 0, [20]),
  ([.aload 0, .getfield 4014, .iload 6], .invokedynamic 2, [20]),
  ([.putfield 4014, .aload 0, .iload 5, .putfield 4015, .aload 3, .iload 4], .invokevirtual 123, [21]),
  ([.iconst 1], .freturn, [])]
def mb_Haulage_unload : List Blk := [([.aload 0, .getfield 1011, .iload 1, .iconst 0], .invokestatic 9, [1]),
  ([.aload 0, .getfield 1013, .iload 1], .invokestatic 21, [2]),
  ([], .ireturn, [])]
def mb_Haulage_orderAgain : List Blk := [([.aload 0, .getfield 1002, .iload 1, .iconst 0], .invokevirtual 105, [1]),
  ([.istore 2, .aload 0, .getfield 1014, .iload 2, .aload 0, .getfield 1014, .iload 2], .invokestatic 21, [2]),
  ([.aload 0, .getfield 1002, .iload 1, .iconst 1], .invokevirtual 105, [3]),
  ([.isub], .invokestatic 9, [4]),
  ([.aload 0, .aload 0, .getfield 1006, .iload 2], .invokedynamic 2, [5]),
  ([.putfield 1006], .return_, [])]
def mb_Loads_noteLaid : List Blk := [([.aload 0, .getfield 3001, .aload 0, .getfield 3002, .iload 1], .invokestatic 9, [1]),
  ([.aload 0, .dup, .getfield 3002, .iconst 1, .iadd, .putfield 3002], .return_, [])]
def mb_Br_pace : List Blk := [([.aload 0, .getfield 11015, .iconst (-2)], .if_icmp .eq 0, [2, 1]),
  ([.aload 0, .getfield 11015], .ireturn, []),
  ([.iconst (-1), .istore 1, .iconst 1, .istore 2], .nop, [3]),
  ([.iload 2, .iconst 20], .if_icmp .gt 0, [14, 4]),
  ([.aload 0], .invokevirtual 94, [5]),
  ([], .ifCond .eq 0, [13, 6]),
  ([.aload 0, .iload 2], .invokevirtual 125, [7]),
  ([], .ifCond .eq 0, [13, 8]),
  ([.iload 1, .iconst (-1)], .if_icmp .eq 0, [11, 9]),
  ([.aload 0], .invokevirtual 126, [10]),
  ([], .ifCond .eq 0, [13, 11]),
  ([.iload 2, .istore 1, .aload 0, .getfield 11012, .iconst 0, .aload 0, .getfield 11013, .iconst 0, .aload 0, .getfield 11012], .arraylength, [12]),
  ([], .invokedynamic 0, [13]),
  ([.iinc 2 1], .goto 0, [3]),
  ([.aload 0, .iload 1, .putfield 11015, .iload 1], .ireturn, [])]
def mb_Br_tryPace : List Blk := [([.iconst 0, .istore 2, .iconst 0, .istore 3, .iconst 0, .istore 4, .iconst 0, .istore 5], .nop, [1]),
  ([.iload 5, .aload 0, .getfield 11004, .getfield 2007], .if_icmp .ge 0, [10, 2]),
  ([.aload 0, .getfield 11009, .iload 5, .iload 1, .aload 0, .getfield 11001, .getfield 5005], .invokevirtual 96, [3]),
  ([], .ifCond .ne 0, [5, 4]),
  ([.iconst 0], .freturn, []),
  ([.aload 0, .getfield 11009, .getfield 4000, .iconst 0], .invokestatic 21, [6]),
  ([.istore 6, .iload 2, .iload 6], .invokedynamic 1, [7]),
  ([.istore 2, .iload 3, .iload 6, .iadd, .istore 3, .iload 4, .aload 0, .getfield 11009, .getfield 4000, .iconst 1], .invokestatic 21, [8]),
  ([], .invokedynamic 1, [9]),
  ([.istore 4, .iinc 5 1], .goto 0, [1]),
  ([.aload 0, .getfield 11012, .iconst 0, .iload 2], .invokestatic 9, [11]),
  ([.aload 0, .getfield 11012, .iconst 1, .iload 3], .invokestatic 9, [12]),
  ([.aload 0, .getfield 11012, .iconst 2, .iload 4], .invokestatic 9, [13]),
  ([.iconst 1], .freturn, [])]
def mb_Br_isTrialBetter : List Blk := [([.iconst 0, .istore 1], .nop, [1]),
  ([.iload 1, .aload 0, .getfield 11012], .arraylength, [2]),
  ([], .if_icmp .ge 0, [13, 3]),
  ([.aload 0, .getfield 11012, .iload 1], .invokestatic 21, [4]),
  ([.aload 0, .getfield 11013, .iload 1], .invokestatic 21, [5]),
  ([], .if_icmp .eq 0, [12, 6]),
  ([.aload 0, .getfield 11012, .iload 1], .invokestatic 21, [7]),
  ([.aload 0, .getfield 11013, .iload 1], .invokestatic 21, [8]),
  ([], .if_icmp .ge 0, [10, 9]),
  ([.iconst 1], .goto 0, [11]),
  ([.iconst 0], .nop, [11]),
  ([], .freturn, []),
  ([.iinc 1 1], .goto 0, [1]),
  ([.iconst 0], .freturn, [])]
def mb_Br_fewest : List Blk := [([.iload 1, .iconst 1, .iconst 20], .invokestatic 16, [1]),
  ([], .ifCond .ne 0, [3, 2]),
  ([.iconst (-1)], .ireturn, []),
  ([.aload 0, .getfield 11014, .iload 1], .invokestatic 21, [4]),
  ([.iconst (-2)], .if_icmp .eq 0, [7, 5]),
  ([.aload 0, .getfield 11014, .iload 1], .invokestatic 21, [6]),
  ([], .ireturn, []),
  ([.iconst (-1), .istore 2, .iconst 1, .istore 3], .nop, [8]),
  ([.iload 3, .iconst 16], .if_icmp .gt 0, [16, 9]),
  ([.iload 2, .iconst (-1)], .if_icmp .ne 0, [16, 10]),
  ([.aload 0], .invokevirtual 94, [11]),
  ([], .ifCond .eq 0, [15, 12]),
  ([.aload 0, .iload 1, .iload 3], .invokevirtual 128, [13]),
  ([], .ifCond .eq 0, [15, 14]),
  ([.iload 3, .istore 2], .nop, [15]),
  ([.iinc 3 1], .goto 0, [8]),
  ([.aload 0, .getfield 11014, .iload 1, .iload 2], .invokestatic 9, [17]),
  ([.iload 2], .ireturn, [])]
def mb_Br_neverStops : List Blk := [([.iconst 0, .istore 3], .nop, [1]),
  ([.iload 3, .aload 0, .getfield 11004, .getfield 2007], .if_icmp .ge 0, [8, 2]),
  ([.aload 0, .getfield 11009, .iload 3, .iload 1, .iload 2], .invokevirtual 96, [3]),
  ([], .ifCond .eq 0, [6, 4]),
  ([.aload 0, .getfield 11009, .getfield 4000, .iconst 0], .invokestatic 21, [5]),
  ([], .ifCond .eq 0, [7, 6]),
  ([.iconst 0], .freturn, []),
  ([.iinc 3 1], .goto 0, [1]),
  ([.iconst 1], .freturn, [])]
def mb_Br_load : List Blk := [([.iload 4, .iconst 0, .iconst 8], .invokestatic 16, [1]),
  ([], .ifCond .eq 0, [6, 2]),
  ([.aload 0, .iload 1, .iload 2], .invokevirtual 93, [3]),
  ([], .ifCond .eq 0, [6, 4]),
  ([.iload 3, .iconst 0, .aload 0, .getfield 11006, .getfield 3003, .iconst 1, .isub], .invokestatic 16, [5]),
  ([], .ifCond .ne 0, [7, 6]),
  ([.iconst (-1)], .ireturn, []),
  ([.aload 0, .getfield 11006, .iload 3, .iload 4], .invokevirtual 105, [8]),
  ([], .ireturn, [])]
def mb_Br_tonne : List Blk := [([.iload 3], .ifCond .lt 0, [3, 1]),
  ([.aload 0, .iload 1, .iload 2], .invokevirtual 93, [2]),
  ([], .ifCond .ne 0, [4, 3]),
  ([.iconst (-1)], .ireturn, []),
  ([.aload 0, .getfield 11006, .iload 3], .invokevirtual 131, [5]),
  ([], .ireturn, [])]
def mb_Loads_ofTonne : List Blk := [([.iload 1, .istore 2, .iconst 0, .istore 3], .nop, [1]),
  ([.iload 3, .aload 0, .getfield 3002], .if_icmp .ge 0, [7, 2]),
  ([.aload 0, .getfield 3001, .iload 3], .invokestatic 21, [3]),
  ([.istore 4, .iload 2, .aload 0, .iload 4, .iconst 1], .invokevirtual 105, [4]),
  ([.isub, .istore 2, .iload 2], .ifCond .ge 0, [6, 5]),
  ([.iload 4], .ireturn, []),
  ([.iinc 3 1], .goto 0, [1]),
  ([.iconst (-1)], .ireturn, [])]
def mb_Br_laid : List Blk := [([.iload 4, .iconst 0, .iconst 8], .invokestatic 16, [1]),
  ([], .ifCond .eq 0, [7, 2]),
  ([.aload 0, .iload 1, .iload 2], .invokevirtual 93, [3]),
  ([], .ifCond .eq 0, [7, 4]),
  ([.iload 3, .iconst 0, .aload 0, .getfield 11000], .invokevirtual 25, [5]),
  ([.iconst 1, .isub], .invokestatic 16, [6]),
  ([], .ifCond .ne 0, [8, 7]),
  ([.iconst (-1)], .ireturn, []),
  ([.aload 0, .getfield 11010, .aload 0, .getfield 11009, .getfield 4002], .invokevirtual 133, [9]),
  ([.iload 4], .tableswitch 0 0 8 #[], [25, 10, 12, 14, 16, 25, 25, 25, 21, 23]),
  ([.aload 0, .getfield 11009, .getfield 4001, .iload 3], .invokestatic 21, [11]),
  ([], .ireturn, []),
  ([.aload 0, .getfield 11007, .getfield 0, .iload 3], .invokestatic 21, [13]),
  ([], .ireturn, []),
  ([.aload 0, .getfield 11007, .getfield 1, .iload 3], .invokestatic 21, [15]),
  ([], .ireturn, []),
  ([.aload 0, .iload 3], .invokevirtual 137, [17]),
  ([], .ifCond .eq 0, [19, 18]),
  ([.iconst 1], .goto 0, [20]),
  ([.iconst 0], .nop, [20]),
  ([], .ireturn, []),
  ([.aload 0, .getfield 11010, .getfield 8007, .iload 3], .invokestatic 21, [22]),
  ([], .ireturn, []),
  ([.aload 0, .iload 3], .invokevirtual 138, [24]),
  ([], .ireturn, []),
  ([.aload 0, .getfield 11010, .iload 3, .iload 4, .iconst 4, .isub], .invokevirtual 140, [26]),
  ([], .ireturn, [])]
def mb_Rolling_roll : List Blk := [([.aload 0, .getfield 8010, .iload 1], .if_icmp .ne 0, [2, 1]),
  ([], .return_, []),
  ([.aload 0, .iload 1, .putfield 8010, .aload 0, .getfield 8005, .iconst 0], .invokestatic 6, [3]),
  ([.aload 0, .getfield 8006, .iconst 0], .invokestatic 6, [4]),
  ([.aload 0, .getfield 8007, .iconst (-1)], .invokestatic 6, [5]),
  ([.aload 0, .getfield 8009, .getfield 0, .aload 0, .getfield 8008], .invokevirtual 25, [6]),
  ([.iconst 1, .isub], .invokestatic 21, [7]),
  ([.iconst 600, .iadd, .istore 2, .aload 0, .getfield 8009, .getfield 0, .iconst 0], .invokestatic 21, [8]),
  ([.iconst 1, .iadd, .istore 3], .nop, [9]),
  ([.iload 3, .iload 2], .if_icmp .gt 0, [17, 10]),
  ([.iconst 0, .istore 4], .nop, [11]),
  ([.iload 4, .aload 0, .getfield 8011], .if_icmp .ge 0, [16, 12]),
  ([.aload 0, .getfield 8005, .iload 4], .invokestatic 21, [13]),
  ([.iload 3], .if_icmp .gt 0, [15, 14]),
  ([.aload 0, .iload 4, .iload 3], .invokevirtual 134, [15]),
  ([.iinc 4 1], .goto 0, [11]),
  ([.iinc 3 1], .goto 0, [9]),
  ([], .return_, [])]
def mb_Rolling_beginPass : List Blk := [([.aload 0, .getfield 8000, .iload 1], .invokestatic 21, [1]),
  ([.istore 3, .iconst (-1), .istore 4, .iconst 0, .istore 5, .iconst 0, .istore 6], .nop, [2]),
  ([.iload 6, .aload 0, .getfield 8008], .invokevirtual 25, [3]),
  ([], .if_icmp .ge 0, [15, 4]),
  ([.aload 0, .iload 6, .iload 3, .iload 2], .invokevirtual 135, [5]),
  ([], .ifCond .eq 0, [14, 6]),
  ([.aload 0, .getfield 8009, .iload 6, .iload 2], .invokevirtual 136, [7]),
  ([.istore 7, .iload 7, .aload 0, .getfield 8003, .iload 3], .invokestatic 21, [8]),
  ([.aload 0, .getfield 8002, .iload 3], .invokestatic 21, [9]),
  ([], .invokestatic 16, [10]),
  ([], .ifCond .eq 0, [14, 11]),
  ([.iload 4, .iconst (-1)], .if_icmp .eq 0, [13, 12]),
  ([.iload 7, .iload 5], .if_icmp .ge 0, [14, 13]),
  ([.iload 6, .istore 4, .iload 7, .istore 5], .nop, [14]),
  ([.iinc 6 1], .goto 0, [2]),
  ([.iload 4, .iconst (-1)], .if_icmp .ne 0, [17, 16]),
  ([], .return_, []),
  ([.iconst 1, .aload 0, .getfield 8001, .iload 1], .invokestatic 21, [18]),
  ([], .invokedynamic 1, [19]),
  ([.istore 6, .aload 0, .getfield 8008, .getfield 7000, .aload 0, .getfield 8008, .iload 4], .invokevirtual 26, [20]),
  ([], .invokestatic 21, [21]),
  ([.iload 6, .iadd, .iconst 1, .isub, .iload 6], .idiv, [22]),
  ([.istore 7, .aload 0, .getfield 8006, .iload 4, .iconst 3, .imul, .iload 3, .iadd, .aload 0, .getfield 8006, .iload 4, .iconst 3, .imul, .iload 3, .iadd], .invokestatic 21, [23]),
  ([.iconst 1, .iadd], .invokestatic 9, [24]),
  ([.aload 0, .getfield 8007, .iload 4, .iload 2, .iload 7, .iadd], .invokestatic 9, [25]),
  ([.aload 0, .getfield 8005, .iload 1, .iload 2, .iload 7, .iadd], .invokestatic 9, [26]),
  ([], .return_, [])]
def mb_Rolling_mayBegin : List Blk := [([.iload 3, .aload 0, .getfield 8009, .getfield 0, .iload 1], .invokestatic 21, [1]),
  ([.isub, .istore 4, .iload 4, .iconst 1, .iconst 600], .invokestatic 16, [2]),
  ([], .ifCond .eq 0, [8, 3]),
  ([.aload 0, .getfield 8007, .iload 1], .invokestatic 21, [4]),
  ([.iload 3], .if_icmp .gt 0, [8, 5]),
  ([.aload 0, .getfield 8006, .iload 1, .iconst 3, .imul, .iload 2, .iadd], .invokestatic 21, [6]),
  ([.aload 0, .getfield 8004, .iload 2], .invokestatic 21, [7]),
  ([], .if_icmp .lt 0, [9, 8]),
  ([.iconst 0], .freturn, []),
  ([.iconst 0, .istore 5], .nop, [10]),
  ([.iload 5, .iload 2], .if_icmp .ge 0, [16, 11]),
  ([.aload 0, .getfield 8006, .iload 1, .iconst 3, .imul, .iload 5, .iadd], .invokestatic 21, [12]),
  ([.aload 0, .getfield 8004, .iload 5], .invokestatic 21, [13]),
  ([], .if_icmp .ge 0, [15, 14]),
  ([.iconst 0], .freturn, []),
  ([.iinc 5 1], .goto 0, [10]),
  ([.iconst 1], .freturn, [])]
def mb_Cooling_meanAt : List Blk := [([.aload 0, .iload 1, .iload 2, .aload 0, .getfield 0, .iload 1], .invokestatic 21, [1]),
  ([.isub], .invokevirtual 116, [2]),
  ([], .ireturn, [])]
def mb_Br_isColdJoint : List Blk := [([.aload 0, .getfield 11000, .iload 1], .invokevirtual 26, [1]),
  ([], .ifCond .le 0, [6, 2]),
  ([.aload 0, .getfield 11007, .iload 1, .iconst 1, .isub, .aload 0, .getfield 11009, .getfield 4001, .iload 1], .invokestatic 21, [3]),
  ([], .invokevirtual 136, [4]),
  ([.aload 0, .getfield 11002, .getfield 10004], .if_icmp .ge 0, [6, 5]),
  ([.iconst 1], .goto 0, [7]),
  ([.iconst 0], .nop, [7]),
  ([], .freturn, [])]
def mb_Br_denseOf : List Blk := [([.iconst 4, .aload 0, .getfield 11010, .iload 1], .invokevirtual 139, [1]),
  ([.imul, .aload 0, .iload 1], .invokevirtual 137, [2]),
  ([], .ifCond .eq 0, [4, 3]),
  ([.iconst 6], .goto 0, [5]),
  ([.iconst 0], .nop, [5]),
  ([.iadd, .istore 2, .iconst 0, .iconst 100, .iload 2, .isub], .invokedynamic 1, [6]),
  ([], .ireturn, [])]
def mb_Rolling_missedOn : List Blk := [([.iconst 0, .istore 2, .iconst 0, .istore 3], .nop, [1]),
  ([.iload 3, .iconst 3], .if_icmp .ge 0, [4, 2]),
  ([.iload 2, .aload 0, .iload 1, .iload 3], .invokevirtual 140, [3]),
  ([.iadd, .istore 2, .iinc 3 1], .goto 0, [1]),
  ([.iload 2], .ireturn, [])]
def mb_Rolling_missed : List Blk := [([.aload 0, .getfield 8004, .iload 2], .invokestatic 21, [1]),
  ([.aload 0, .getfield 8006, .iload 1, .iconst 3, .imul, .iload 2, .iadd], .invokestatic 21, [2]),
  ([.isub], .ireturn, [])]
def mb_Br_mean : List Blk := [([.iload 4, .iconst 0, .iconst 600], .invokestatic 16, [1]),
  ([], .ifCond .eq 0, [7, 2]),
  ([.aload 0, .iload 1, .iload 2], .invokevirtual 93, [3]),
  ([], .ifCond .eq 0, [7, 4]),
  ([.iload 3, .iconst 0, .aload 0, .getfield 11000], .invokevirtual 25, [5]),
  ([.iconst 1, .isub], .invokestatic 16, [6]),
  ([], .ifCond .ne 0, [8, 7]),
  ([.iconst (-1000)], .ireturn, []),
  ([.aload 0, .getfield 11007, .iload 3, .iload 4], .invokevirtual 116, [9]),
  ([], .ireturn, [])]
def mb_Br_tells : List Blk := [([.iload 1], .invokestatic 143, [1]),
  ([], .ifCond .eq 0, [8, 2]),
  ([.iload 2], .invokestatic 143, [3]),
  ([], .ifCond .eq 0, [8, 4]),
  ([.iload 3], .invokestatic 143, [5]),
  ([], .ifCond .eq 0, [8, 6]),
  ([.iload 4], .invokestatic 143, [7]),
  ([], .ifCond .ne 0, [9, 8]),
  ([.iconst (-2000000000)], .ireturn, []),
  ([.aload 0, .getfield 11005, .iload 1, .iload 2, .iload 3, .iload 4], .invokevirtual 144, [10]),
  ([.l2i], .ireturn, [])]
def mb_Br_isTold : List Blk := [([.iload 0, .iconst (-1000000), .iconst 1000000], .invokestatic 16, [1]),
  ([], .freturn, [])]
def mb_Rate_tell : List Blk := [([.aload 0, .iload 1, .putfield 6001, .aload 0, .iload 2, .putfield 6002, .aload 0, .iload 3, .putfield 6003, .aload 0, .iload 4, .putfield 6004, .aload 0, .getfield 6000], .invokevirtual 51, [1]),
  ([.aload 0, .aload 0, .getfield 6000, .iconst 0], .invokevirtual 80, [2]),
  ([], .lreturn, [])]
def mb_Br_pay : List Blk := [([.iload 3, .iconst 1, .aload 0, .getfield 11000], .invokevirtual 25, [1]),
  ([], .invokestatic 16, [2]),
  ([], .ifCond .eq 0, [5, 3]),
  ([.aload 0, .iload 1, .iload 2], .invokevirtual 93, [4]),
  ([], .ifCond .ne 0, [6, 5]),
  ([.jsr_w (-1)], .lreturn, []),
  ([.aload 0, .getfield 11010, .aload 0, .getfield 11009, .getfield 4002], .invokevirtual 133, [7]),
  ([.aload 0, .iload 3, .iload 4], .invokevirtual 146, [8]),
  ([.iconst 0, .istore 5, .iconst 0, .istore 6], .nop, [9]),
  ([.iload 6, .iload 3], .if_icmp .ge 0, [13, 10]),
  ([.iload 5, .aload 0, .aload 0, .getfield 11011, .iload 6], .invokestatic 21, [11]),
  ([], .invokevirtual 138, [12]),
  ([.iadd, .istore 5, .iinc 6 1], .goto 0, [9]),
  ([.jsr_w 0, .lstore 6, .iconst 0, .istore 8], .nop, [14]),
  ([.iload 8, .aload 0, .getfield 11000], .invokevirtual 25, [15]),
  ([], .if_icmp .ge 0, [29, 16]),
  ([.aload 0, .getfield 11011, .iload 8], .invokestatic 21, [17]),
  ([.istore 9, .iload 8, .iload 3], .if_icmp .ge 0, [20, 18]),
  ([.aload 0, .iload 9], .invokevirtual 138, [19]),
  ([], .goto 0, [21]),
  ([.iload 5, .iload 3], .invokestatic 28, [21]),
  ([.istore 10, .lload 6, .aload 0, .getfield 11005, .aload 0, .getfield 11000, .getfield 7007, .iload 9], .invokestatic 21, [22]),
  ([.iload 10, .aload 0, .iload 9], .invokevirtual 137, [23]),
  ([], .ifCond .eq 0, [25, 24]),
  ([.iconst 1], .goto 0, [26]),
  ([.iconst 0], .nop, [26]),
  ([.aload 0, .getfield 11010, .iload 9], .invokevirtual 139, [27]),
  ([], .invokevirtual 144, [28]),
  ([.ladd, .lstore 6, .iinc 8 1], .goto 0, [14]),
  ([.lload 6], .lreturn, [])]
def mb_Br_draw : List Blk := [([.aload 0, .getfield 11000], .invokevirtual 25, [1]),
  ([.istore 3, .iconst 0, .istore 4], .nop, [2]),
  ([.iload 4, .iload 3], .if_icmp .ge 0, [5, 3]),
  ([.aload 0, .getfield 11011, .iload 4, .iload 4], .invokestatic 9, [4]),
  ([.iinc 4 1], .goto 0, [2]),
  ([.iload 2, .istore 4, .iconst 0, .istore 5], .nop, [6]),
  ([.iload 5, .iload 1], .if_icmp .ge 0, [15, 7]),
  ([.iload 5, .iload 3], .if_icmp .ge 0, [15, 8]),
  ([.iload 4, .iconst 1103515245, .imul, .iconst 12345, .iadd, .istore 4, .iload 5, .iload 4, .iconst 16, .iushr, .iconst 1, .iload 3, .iload 5, .isub], .invokedynamic 1, [9]),
  ([], .irem, [10]),
  ([.iadd, .istore 6, .aload 0, .getfield 11011, .iload 5], .invokestatic 21, [11]),
  ([.istore 7, .aload 0, .getfield 11011, .iload 5, .aload 0, .getfield 11011, .iload 6], .invokestatic 21, [12]),
  ([], .invokestatic 9, [13]),
  ([.aload 0, .getfield 11011, .iload 6, .iload 7], .invokestatic 9, [14]),
  ([.iinc 5 1], .goto 0, [6]),
  ([], .return_, [])]
def mb_Br_core : List Blk := [([.iload 1, .iconst 1, .aload 0, .getfield 11000], .invokevirtual 25, [1]),
  ([], .invokestatic 16, [2]),
  ([], .ifCond .eq 0, [5, 3]),
  ([.iload 3, .iconst 0, .iload 1, .iconst 1, .isub], .invokestatic 16, [4]),
  ([], .ifCond .ne 0, [6, 5]),
  ([.iconst (-1)], .ireturn, []),
  ([.aload 0, .iload 1, .iload 2], .invokevirtual 146, [7]),
  ([.aload 0, .getfield 11011, .iload 3], .invokestatic 21, [8]),
  ([], .ireturn, [])]
def mb_Br_about : List Blk := [([.iload 1], .tableswitch 0 0 10 #[], [14, 1, 2, 3, 4, 5, 6, 7, 8, 9, 11, 13]),
  ([.aload 0, .getfield 11000, .getfield 7008], .ireturn, []),
  ([.aload 0, .getfield 11000, .getfield 7009], .ireturn, []),
  ([.aload 0, .getfield 11001, .getfield 5004], .ireturn, []),
  ([.aload 0, .getfield 11001, .getfield 5005], .ireturn, []),
  ([.aload 0, .getfield 11001, .getfield 5006], .ireturn, []),
  ([.aload 0, .getfield 11010, .getfield 8011], .ireturn, []),
  ([.aload 0, .getfield 11004, .getfield 2006], .ireturn, []),
  ([.aload 0, .getfield 11004, .getfield 2007], .ireturn, []),
  ([.aload 0, .getfield 11000], .invokevirtual 25, [10]),
  ([], .ireturn, []),
  ([.aload 0, .getfield 11000], .invokevirtual 149, [12]),
  ([], .ireturn, []),
  ([.aload 0, .getfield 11003, .getfield 9001], .ireturn, []),
  ([.iconst (-1)], .ireturn, [])]
def mb_Road_allTonnes : List Blk := [([.iconst 0, .istore 1, .iconst 0, .istore 2], .nop, [1]),
  ([.iload 2, .aload 0], .invokevirtual 25, [2]),
  ([], .if_icmp .ge 0, [6, 3]),
  ([.aload 0, .getfield 7015, .iconst (-1)], .if_icmp .eq 0, [6, 4]),
  ([.iload 1, .aload 0, .getfield 7007, .iload 2], .invokestatic 21, [5]),
  ([.iadd, .istore 1, .iinc 2 1], .goto 0, [1]),
  ([.iload 1], .ireturn, [])]
def mb_Mo_init : List Blk := [([.aload 0, .nop, .aload 0, .iconst 12, .newarray .int, .putfield 12001, .aload 0, .iconst 12, .newarray .int, .putfield 12002, .aload 0, .iconst 70, .putfield 12003, .aload 0, .iconst 2, .putfield 12004, .aload 0, .iconst 10, .putfield 12005, .aload 0, .iconst 2, .putfield 12006, .aload 0, .iconst 3, .putfield 12007, .aload 0, .iconst 3, .newarray .int, .putfield 12009, .aload 0, .iconst 3, .newarray .int, .putfield 12010, .aload 0, .iconst 732, .newarray .int, .putfield 12011, .aload 0, .iconst 12, .newarray .int, .putfield 12012, .aload 0, .iconst 36, .newarray .int, .putfield 12015, .aload 0, .iconst 36, .newarray .int, .putfield 12016, .aload 0, .iconst 3, .newarray .int, .putfield 12018, .aload 0, .iconst 3, .newarray .int, .putfield 12019, .aload 0, .iconst 3, .newarray .int, .putfield 12020, .aload 0, .iconst 3, .newarray .int, .putfield 12021, .aload 0, .iconst 6, .putfield 12022, .aload 0, .iconst 20, .putfield 12023, .aload 0, .iconst 160, .putfield 12024, .aload 0, .iconst 4, .putfield 12025, .aload 0, .iconst 110, .putfield 12026, .aload 0, .iconst 80, .putfield 12027, .aload 0, .iconst 70, .putfield 12028, .aload 0, .iconst 15, .putfield 12029, .aload 0, .iconst 20, .putfield 12030, .aload 0, .iconst 60, .putfield 12031, .aload 0, .iconst 40, .putfield 12032, .aload 0, .iconst 6, .newarray .int, .putfield 12034, .aload 0, .iconst 6, .newarray .int, .putfield 12035, .aload 0, .iconst 3, .newarray .int, .putfield 12036, .aload 0, .iconst 3, .newarray .int, .putfield 12037, .aload 0, .iconst 3, .newarray .int, .putfield 12038, .aload 0, .iconst 400, .newarray .int, .putfield 12039, .aload 0, .iconst (-1), .putfield 12041, .aload 0, .iconst (-1), .putfield 12042, .aload 0, .iconst 80, .newarray .int, .putfield 12052, .aload 0, .iconst 80, .newarray .int, .putfield 12053, .aload 0, .iconst 80, .newarray .int, .putfield 12054, .aload 0, .iconst 80, .newarray .int, .putfield 12055, .aload 0, .iconst 80, .newarray .int, .putfield 12056, .aload 0, .iconst 16, .newarray .int, .putfield 12058, .aload 0, .iconst 16, .newarray .int, .putfield 12059, .aload 0, .iconst 16, .newarray .int, .putfield 12060, .aload 0, .iconst 16, .newarray .int, .putfield 12061, .aload 0, .iconst 16, .newarray .int, .putfield 12062, .aload 0, .iconst 3, .newarray .int, .putfield 12064, .aload 0, .iconst 3, .newarray .int, .putfield 12065, .aload 0, .iconst 3, .newarray .int, .putfield 12066, .aload 0, .iconst 36, .newarray .int, .putfield 12067, .aload 0, .iconst 36, .newarray .int, .putfield 12068, .aload 0, .iconst 36, .newarray .int, .putfield 12069, .aload 0, .iconst 36, .newarray .int, .putfield 12070, .aload 0, .iconst 36, .newarray .int, .putfield 12071, .aload 0, .iconst 17400, .newarray .int, .putfield 12081, .aload 0, .iconst 17400, .newarray .int, .putfield 12082, .aload 0, .iconst 17400, .newarray .int, .putfield 12083, .aload 0, .iconst 17400, .newarray .int, .putfield 12084, .aload 0, .iconst 17400, .newarray .int, .putfield 12085, .aload 0, .iconst 17400, .newarray .int, .putfield 12086, .aload 0, .iconst 17400, .newarray .int, .putfield 12087, .aload 0, .iconst 17400, .newarray .int, .putfield 12088, .aload 0, .iconst 17400, .newarray .boolean, .putfield 12089, .aload 0, .iconst 17400, .newarray .int, .putfield 12090, .aload 0, .iconst 21636, .newarray .short, .putfield 12096, .aload 0, .iconst 5, .newarray .int, .putfield 12097, .aload 0, .iconst 5, .newarray .int, .putfield 12098, .aload 0, .iconst 108, .newarray .int, .putfield 12099, .aload 0, .iconst 108, .newarray .int, .putfield 12100, .aload 0, .iconst 36, .newarray .int, .putfield 12101, .aload 0, .iconst 36, .newarray .int, .putfield 12102, .aload 0, .iconst 36, .newarray .int, .putfield 12103, .aload 0, .iconst 6, .newarray .int, .putfield 12104, .aload 0, .iconst 256, .newarray .int, .putfield 12106, .aload 0, .iconst 256, .newarray .int, .putfield 12107, .aload 0, .iconst 128, .newarray .int, .putfield 12112, .aload 0, .iconst 128, .newarray .long, .putfield 12113, .aload 0, .iconst 36, .newarray .int, .putfield 12114, .iconst 0, .istore 1], .nop, [1]),
  ([.iload 1, .iconst 3], .if_icmp .ge 0, [19, 2]),
  ([.aload 0, .getfield 12036, .iload 1, .iload 1], .ifCond .ne 0, [4, 3]),
  ([.iconst 150], .goto 0, [7]),
  ([.iload 1, .iconst 1], .if_icmp .ne 0, [6, 5]),
  ([.iconst 120], .goto 0, [7]),
  ([.iconst 90], .nop, [7]),
  ([], .iastore, [8]),
  ([.aload 0, .getfield 12037, .iload 1, .iload 1], .ifCond .ne 0, [10, 9]),
  ([.iconst 110], .goto 0, [13]),
  ([.iload 1, .iconst 1], .if_icmp .ne 0, [12, 11]),
  ([.iconst 80], .goto 0, [13]),
  ([.iconst 60], .nop, [13]),
  ([], .iastore, [14]),
  ([.aload 0, .getfield 12038, .iload 1, .iload 1, .iconst 1], .if_icmp .ne 0, [16, 15]),
  ([.iconst 3], .goto 0, [17]),
  ([.iconst 2], .nop, [17]),
  ([], .iastore, [18]),
  ([.iinc 1 1], .goto 0, [1]),
  ([.aload 0, .iconst 1, .putfield 12105, .aload 0, .getfield 12106, .iconst 0, .iconst 1], .iastore, [20]),
  ([], .return_, [])]
def mb_Mo_section : List Blk := [([.iload 1, .iconst 10, .iconst 500], .invokestatic 152, [1]),
  ([], .ifCond .eq 0, [5, 2]),
  ([.iload 2, .iconst 0, .iconst 60], .invokestatic 152, [3]),
  ([], .ifCond .eq 0, [5, 4]),
  ([.aload 0, .getfield 12000, .iconst 12], .if_icmp .ne 0, [6, 5]),
  ([.iconst (-1)], .ireturn, []),
  ([.aload 0, .getfield 12001, .aload 0, .getfield 12000, .iload 1], .iastore, [7]),
  ([.aload 0, .getfield 12002, .aload 0, .getfield 12000, .iload 2], .iastore, [8]),
  ([.aload 0, .dup, .getfield 12000, .iconst 1, .iadd, .putfield 12000, .aload 0, .getfield 12000, .iconst 1, .isub], .ireturn, [])]
def mb_Mo_isIn : List Blk := [([.iload 0, .iload 1], .if_icmp .lt 0, [3, 1]),
  ([.iload 0, .iload 2], .if_icmp .gt 0, [3, 2]),
  ([.iconst 1], .goto 0, [4]),
  ([.iconst 0], .nop, [4]),
  ([], .freturn, [])]
def mb_Mo_even : List Blk := [([.iload 1, .iconst 20, .iconst 120], .invokestatic 152, [1]),
  ([], .ifCond .eq 0, [10, 2]),
  ([.iload 2, .iconst 0, .iconst 9], .invokestatic 152, [3]),
  ([], .ifCond .eq 0, [10, 4]),
  ([.iload 3, .iconst 0, .iconst 20], .invokestatic 152, [5]),
  ([], .ifCond .eq 0, [10, 6]),
  ([.iload 4, .iconst 1, .iconst 9], .invokestatic 152, [7]),
  ([], .ifCond .eq 0, [10, 8]),
  ([.iload 5, .iconst 1, .iconst 9], .invokestatic 152, [9]),
  ([], .ifCond .ne 0, [11, 10]),
  ([.iconst 0], .freturn, []),
  ([.aload 0, .iload 1, .putfield 12003, .aload 0, .iload 2, .putfield 12004, .aload 0, .iload 3, .putfield 12005, .aload 0, .iload 4, .putfield 12006, .aload 0, .iload 5, .putfield 12007, .iconst 1], .freturn, [])]
def mb_Mo_levels : List Blk := [([.aload 0], .invokevirtual 155, [1]),
  ([], .ireturn, [])]
def mb_Mo_find : List Blk := [([.aload 0, .getfield 12000], .ifCond .ne 0, [2, 1]),
  ([.iconst (-1)], .ireturn, []),
  ([.aload 0, .getfield 12000, .iconst 1, .isub, .istore 1], .nop, [3]),
  ([.iload 1], .ifCond .lt 0, [14, 4]),
  ([.iconst 0, .istore 2], .nop, [5]),
  ([.iload 2, .iconst 61], .if_icmp .ge 0, [13, 6]),
  ([.aload 0, .iload 1, .iload 2], .invokevirtual 156, [7]),
  ([.aload 0, .iload 1, .iload 2], .invokevirtual 157, [8]),
  ([.iadd, .istore 3, .aload 0, .getfield 12011, .iconst 61, .iload 1, .imul, .iload 2, .iadd, .iload 3, .iconst 1000000], .if_icmp .le 0, [10, 9]),
  ([.iconst 1000000], .goto 0, [11]),
  ([.iload 3], .nop, [11]),
  ([], .iastore, [12]),
  ([.iinc 2 1], .goto 0, [5]),
  ([.iinc 1 (-1)], .goto 0, [3]),
  ([.iconst (-1), .istore 1, .iconst 0, .istore 2], .nop, [15]),
  ([.iload 2, .aload 0, .getfield 12000], .if_icmp .ge 0, [19, 16]),
  ([.aload 0, .iload 2, .iload 1], .invokevirtual 158, [17]),
  ([.istore 1, .aload 0, .getfield 12012, .iload 2, .iload 1], .iastore, [18]),
  ([.iinc 2 1], .goto 0, [15]),
  ([.aload 0, .getfield 12011, .aload 0, .getfield 12012, .iconst 0], .iaload, [20]),
  ([], .iaload, [21]),
  ([.iconst 1000000], .if_icmp .lt 0, [23, 22]),
  ([.iconst (-1)], .goto 0, [25]),
  ([.aload 0, .getfield 12011, .aload 0, .getfield 12012, .iconst 0], .iaload, [24]),
  ([], .iaload, [25]),
  ([], .ireturn, [])]
def mb_Mo_costOf : List Blk := [([.iload 2, .aload 0, .getfield 12002, .iload 1], .iaload, [1]),
  ([.aload 0, .getfield 12005, .isub], .if_icmp .ge 0, [3, 2]),
  ([.iconst 1000000], .goto 0, [9]),
  ([.iload 2, .aload 0, .getfield 12002, .iload 1], .iaload, [4]),
  ([], .if_icmp .ge 0, [7, 5]),
  ([.aload 0, .getfield 12006, .aload 0, .getfield 12002, .iload 1], .iaload, [6]),
  ([.iload 2, .isub, .imul], .goto 0, [9]),
  ([.aload 0, .getfield 12007, .iload 2, .aload 0, .getfield 12002, .iload 1], .iaload, [8]),
  ([.isub, .imul], .nop, [9]),
  ([], .ireturn, [])]
def mb_Mo_restOf : List Blk := [([.iload 1, .aload 0, .getfield 12000, .iconst 1, .isub], .if_icmp .ne 0, [2, 1]),
  ([.iconst 0], .ireturn, []),
  ([.iconst 1000000, .istore 3, .iload 2, .aload 0, .getfield 12004, .isub, .istore 4], .nop, [3]),
  ([.iload 4, .iload 2, .aload 0, .getfield 12004, .iadd], .if_icmp .gt 0, [11, 4]),
  ([.iload 4, .iconst 0, .iconst 60], .invokestatic 152, [5]),
  ([], .ifCond .eq 0, [10, 6]),
  ([.aload 0, .getfield 12011, .iconst 61, .iload 1, .iconst 1, .iadd, .imul, .iload 4, .iadd], .iaload, [7]),
  ([.iload 3], .if_icmp .ge 0, [10, 8]),
  ([.aload 0, .getfield 12011, .iconst 61, .iload 1, .iconst 1, .iadd, .imul, .iload 4, .iadd], .iaload, [9]),
  ([.istore 3], .nop, [10]),
  ([.iinc 4 1], .goto 0, [3]),
  ([.iload 3], .ireturn, [])]
def mb_Mo_bestOf : List Blk := [([.iconst (-1), .istore 3, .iconst 0, .istore 4], .nop, [1]),
  ([.iload 4, .iconst 61], .if_icmp .ge 0, [11, 2]),
  ([.iload 2], .ifCond .lt 0, [5, 3]),
  ([.iload 4, .iload 2, .aload 0, .getfield 12004, .isub, .iload 2, .aload 0, .getfield 12004, .iadd], .invokestatic 152, [4]),
  ([], .ifCond .eq 0, [10, 5]),
  ([.iload 3], .ifCond .lt 0, [9, 6]),
  ([.aload 0, .getfield 12011, .iconst 61, .iload 1, .imul, .iload 4, .iadd], .iaload, [7]),
  ([.aload 0, .getfield 12011, .iconst 61, .iload 1, .imul, .iload 3, .iadd], .iaload, [8]),
  ([], .if_icmp .ge 0, [10, 9]),
  ([.iload 4, .istore 3], .nop, [10]),
  ([.iinc 4 1], .goto 0, [1]),
  ([.iload 3], .ireturn, [])]
def mb_Mo_level : List Blk := [([.iload 1, .iconst 0, .aload 0, .getfield 12000, .iconst 1, .isub], .invokestatic 152, [1]),
  ([], .ifCond .eq 0, [6, 2]),
  ([.aload 0], .invokevirtual 155, [3]),
  ([], .ifCond .lt 0, [6, 4]),
  ([.aload 0, .getfield 12012, .iload 1], .iaload, [5]),
  ([], .goto 0, [7]),
  ([.iconst (-1)], .nop, [7]),
  ([], .ireturn, [])]
def mb_Mo_layer : List Blk := [([.iload 1, .iconst 20, .iconst 200], .invokestatic 152, [1]),
  ([], .ifCond .eq 0, [5, 2]),
  ([.iload 2, .iconst 0, .iconst 2], .invokestatic 152, [3]),
  ([], .ifCond .eq 0, [5, 4]),
  ([.aload 0, .getfield 12008, .iconst 3], .if_icmp .ne 0, [6, 5]),
  ([.iconst (-1)], .ireturn, []),
  ([.aload 0, .getfield 12009, .aload 0, .getfield 12008, .iload 1], .iastore, [7]),
  ([.aload 0, .getfield 12010, .aload 0, .getfield 12008, .iload 2], .iastore, [8]),
  ([.aload 0, .dup, .getfield 12008, .iconst 1, .iadd, .putfield 12008, .aload 0, .getfield 12008, .iconst 1, .isub], .ireturn, [])]
def mb_Mo_job : List Blk := [([.aload 0], .invokevirtual 162, [1]),
  ([.pop, .iload 1, .iconst 0, .aload 0, .getfield 12013, .iconst 1, .isub], .invokestatic 152, [2]),
  ([], .ifCond .ne 0, [4, 3]),
  ([.iconst (-1)], .ireturn, []),
  ([.iload 2], .ifCond .ne 0, [7, 5]),
  ([.iload 1, .aload 0, .getfield 12000], .irem, [6]),
  ([], .goto 0, [17]),
  ([.iload 2, .iconst 1], .if_icmp .ne 0, [10, 8]),
  ([.iload 1, .aload 0, .getfield 12000], .idiv, [9]),
  ([], .goto 0, [17]),
  ([.iload 2, .iconst 2], .if_icmp .ne 0, [13, 11]),
  ([.aload 0, .getfield 12015, .iload 1], .iaload, [12]),
  ([], .goto 0, [17]),
  ([.iload 2, .iconst 3], .if_icmp .ne 0, [16, 14]),
  ([.aload 0, .getfield 12016, .iload 1], .iaload, [15]),
  ([], .goto 0, [17]),
  ([.iconst (-1)], .nop, [17]),
  ([], .ireturn, [])]
def mb_Mo_hasJobs : List Blk := [([.aload 0, .aload 0], .invokevirtual 155, [1]),
  ([], .ifCond .ge 0, [3, 2]),
  ([.iconst 0], .goto 0, [4]),
  ([.aload 0, .getfield 12008, .aload 0, .getfield 12000, .imul], .nop, [4]),
  ([.putfield 12013, .aload 0, .iconst 0, .putfield 12014, .iconst 0, .istore 1], .nop, [5]),
  ([.iload 1, .aload 0, .getfield 12013], .if_icmp .ge 0, [24, 6]),
  ([.iload 1, .aload 0, .getfield 12000], .irem, [7]),
  ([.istore 2, .aload 0, .getfield 12015, .iload 1, .aload 0, .getfield 12009, .iload 1, .aload 0, .getfield 12000], .idiv, [8]),
  ([], .iaload, [9]),
  ([.iload 1, .aload 0, .getfield 12000], .if_icmp .ge 0, [16, 10]),
  ([.aload 0, .getfield 12012, .iload 2], .iaload, [11]),
  ([.aload 0, .getfield 12002, .iload 2], .iaload, [12]),
  ([], .if_icmp .le 0, [16, 13]),
  ([.aload 0, .getfield 12012, .iload 2], .iaload, [14]),
  ([.aload 0, .getfield 12002, .iload 2], .iaload, [15]),
  ([.isub], .goto 0, [17]),
  ([.iconst 0], .nop, [17]),
  ([.iadd], .iastore, [18]),
  ([.aload 0, .getfield 12001, .iload 2], .iaload, [19]),
  ([.aload 0, .getfield 12003, .imul, .aload 0, .getfield 12015, .iload 1], .iaload, [20]),
  ([.imul, .iconst 24, .imul, .istore 3, .aload 0, .getfield 12016, .iload 1, .iload 3, .iconst 99999, .iadd, .iconst 100000], .idiv, [21]),
  ([], .iastore, [22]),
  ([.aload 0, .dup, .getfield 12014, .aload 0, .getfield 12016, .iload 1], .iaload, [23]),
  ([.iadd, .putfield 12014, .iinc 1 1], .goto 0, [5]),
  ([.aload 0, .getfield 12013], .ifCond .le 0, [26, 25]),
  ([.iconst 1], .goto 0, [27]),
  ([.iconst 0], .nop, [27]),
  ([], .freturn, [])]
def mb_Mo_plant : List Blk := [([.iload 1, .iconst 0, .iconst 2], .invokestatic 152, [1]),
  ([], .ifCond .eq 0, [9, 2]),
  ([.iload 2, .iconst 1, .iconst 10], .invokestatic 152, [3]),
  ([], .ifCond .eq 0, [9, 4]),
  ([.iload 3, .iconst 10, .iconst 200], .invokestatic 152, [5]),
  ([], .ifCond .eq 0, [9, 6]),
  ([.iload 4, .iconst 1, .iconst 20], .invokestatic 152, [7]),
  ([], .ifCond .eq 0, [9, 8]),
  ([.aload 0, .getfield 12017, .iconst 3], .if_icmp .ne 0, [10, 9]),
  ([.iconst (-1)], .ireturn, []),
  ([.aload 0, .getfield 12018, .aload 0, .getfield 12017, .iload 1], .iastore, [11]),
  ([.aload 0, .getfield 12019, .aload 0, .getfield 12017, .iload 2], .iastore, [12]),
  ([.aload 0, .getfield 12020, .aload 0, .getfield 12017, .iload 3], .iastore, [13]),
  ([.aload 0, .getfield 12021, .aload 0, .getfield 12017, .iload 4], .iastore, [14]),
  ([.aload 0, .dup, .getfield 12017, .iconst 1, .iadd, .putfield 12017, .aload 0, .getfield 12017, .iconst 1, .isub], .ireturn, [])]
def mb_Mo_trucks : List Blk := [([.iload 1, .iconst 1, .iconst 16], .invokestatic 152, [1]),
  ([], .ifCond .eq 0, [4, 2]),
  ([.iload 2, .iconst 5, .iconst 30], .invokestatic 152, [3]),
  ([], .ifCond .ne 0, [5, 4]),
  ([.iconst 0], .freturn, []),
  ([.aload 0, .iload 1, .putfield 12022, .aload 0, .iload 2, .putfield 12023, .iconst 1], .freturn, [])]
def mb_Mo_heat : List Blk := [([.iload 1, .iconst 100, .iconst 200], .invokestatic 152, [1]),
  ([], .ifCond .eq 0, [10, 2]),
  ([.iload 2, .iconst 1, .iconst 20], .invokestatic 152, [3]),
  ([], .ifCond .eq 0, [10, 4]),
  ([.iload 3, .iconst 0, .iconst 200], .invokestatic 152, [5]),
  ([], .ifCond .eq 0, [10, 6]),
  ([.iload 4, .iconst 0, .iconst 200], .invokestatic 152, [7]),
  ([], .ifCond .eq 0, [10, 8]),
  ([.iload 5, .iconst 0, .iconst 200], .invokestatic 152, [9]),
  ([], .ifCond .ne 0, [11, 10]),
  ([.iconst 0], .freturn, []),
  ([.aload 0, .iload 1, .putfield 12024, .aload 0, .iload 2, .putfield 12025, .aload 0, .iload 3, .putfield 12026, .aload 0, .iload 4, .putfield 12027, .aload 0, .iload 5, .putfield 12028, .iconst 1], .freturn, [])]
def mb_Mo_weather : List Blk := [([.iload 1, .iconst (-20), .iconst 50], .invokestatic 152, [1]),
  ([], .ifCond .eq 0, [8, 2]),
  ([.iload 2, .iconst (-20), .iconst 60], .invokestatic 152, [3]),
  ([], .ifCond .eq 0, [8, 4]),
  ([.iload 3, .iconst 1, .iconst 200], .invokestatic 152, [5]),
  ([], .ifCond .eq 0, [8, 6]),
  ([.iload 4, .iconst 1, .iconst 200], .invokestatic 152, [7]),
  ([], .ifCond .ne 0, [9, 8]),
  ([.iconst 0], .freturn, []),
  ([.aload 0, .iload 1, .putfield 12029, .aload 0, .iload 2, .putfield 12030, .aload 0, .iload 3, .putfield 12031, .aload 0, .iload 4, .putfield 12032, .iconst 1], .freturn, [])]
def mb_Mo_roller : List Blk := [([.iload 1, .iconst 0, .iconst 2], .invokestatic 152, [1]),
  ([], .ifCond .eq 0, [5, 2]),
  ([.iload 2, .iconst 10, .iconst 100], .invokestatic 152, [3]),
  ([], .ifCond .eq 0, [5, 4]),
  ([.aload 0, .getfield 12033, .iconst 6], .if_icmp .ne 0, [6, 5]),
  ([.iconst (-1)], .ireturn, []),
  ([.aload 0, .getfield 12034, .aload 0, .getfield 12033, .iload 1], .iastore, [7]),
  ([.aload 0, .getfield 12035, .aload 0, .getfield 12033, .iload 2], .iastore, [8]),
  ([.aload 0, .dup, .getfield 12033, .iconst 1, .iadd, .putfield 12033, .aload 0, .getfield 12033, .iconst 1, .isub], .ireturn, [])]
def mb_Mo_sort : List Blk := [([.iload 1, .iconst 0, .iconst 2], .invokestatic 152, [1]),
  ([], .ifCond .eq 0, [8, 2]),
  ([.iload 2, .iconst 0, .iconst 200], .invokestatic 152, [3]),
  ([], .ifCond .eq 0, [8, 4]),
  ([.iload 3, .iconst 0, .iload 2], .invokestatic 152, [5]),
  ([], .ifCond .eq 0, [8, 6]),
  ([.iload 4, .iconst 0, .iconst 9], .invokestatic 152, [7]),
  ([], .ifCond .ne 0, [9, 8]),
  ([.iconst 0], .freturn, []),
  ([.aload 0, .getfield 12036, .iload 1, .iload 2], .iastore, [10]),
  ([.aload 0, .getfield 12037, .iload 1, .iload 3], .iastore, [11]),
  ([.aload 0, .getfield 12038, .iload 1, .iload 4], .iastore, [12]),
  ([.iconst 1], .freturn, [])]
def mb_Mo_feed : List Blk := [([.aload 0, .getfield 12040, .iconst 20, .iadd, .iconst 400], .if_icmp .le 0, [2, 1]),
  ([.iconst (-1)], .ireturn, []),
  ([.aload 0, .iload 1], .invokevirtual 170, [3]),
  ([.aload 0, .iload 2], .invokevirtual 170, [4]),
  ([.aload 0, .iload 3], .invokevirtual 170, [5]),
  ([.aload 0, .iload 4], .invokevirtual 170, [6]),
  ([.aload 0, .iload 5], .invokevirtual 170, [7]),
  ([.aload 0, .getfield 12040], .ireturn, [])]
def mb_Mo_four : List Blk := [([.iconst 24, .istore 2], .nop, [1]),
  ([.iload 2], .ifCond .lt 0, [4, 2]),
  ([.aload 0, .getfield 12039, .aload 0, .getfield 12040, .iload 1, .iload 2, .ishr, .iconst 255, .iand], .iastore, [3]),
  ([.aload 0, .dup, .getfield 12040, .iconst 1, .iadd, .putfield 12040, .iinc 2 (-8)], .goto 0, [1]),
  ([], .return_, [])]
def mb_Mo_end : List Blk := [([.iload 1, .iconst 0, .aload 0, .getfield 12040], .invokestatic 152, [1]),
  ([], .ifCond .ne 0, [3, 2]),
  ([.iconst (-1)], .ireturn, []),
  ([.aload 0, .iload 1, .putfield 12040, .iload 1], .ireturn, [])]
def mb_Mo_hours : List Blk := [([.aload 0, .aload 0], .invokevirtual 173, [1]),
  ([], .invokevirtual 184, [2]),
  ([], .ifCond .ne 0, [4, 3]),
  ([.iconst (-1)], .ireturn, []),
  ([.aload 0, .aload 0, .getfield 12050, .putfield 12048, .aload 0, .aload 0, .getfield 12051, .putfield 12049, .iconst 0, .istore 1], .nop, [5]),
  ([.iload 1, .aload 0, .getfield 12048], .if_icmp .ge 0, [17, 6]),
  ([.aload 0, .getfield 12052, .iload 1, .aload 0, .getfield 12052, .iconst 40, .iload 1, .iadd], .iaload, [7]),
  ([], .iastore, [8]),
  ([.aload 0, .getfield 12053, .iload 1, .aload 0, .getfield 12053, .iconst 40, .iload 1, .iadd], .iaload, [9]),
  ([], .iastore, [10]),
  ([.aload 0, .getfield 12054, .iload 1, .aload 0, .getfield 12054, .iconst 40, .iload 1, .iadd], .iaload, [11]),
  ([], .iastore, [12]),
  ([.aload 0, .getfield 12055, .iload 1, .aload 0, .getfield 12055, .iconst 40, .iload 1, .iadd], .iaload, [13]),
  ([], .iastore, [14]),
  ([.aload 0, .getfield 12056, .iload 1, .aload 0, .getfield 12056, .iconst 40, .iload 1, .iadd], .iaload, [15]),
  ([], .iastore, [16]),
  ([.iinc 1 1], .goto 0, [5]),
  ([.aload 0, .getfield 12048], .ireturn, [])]
def mb_Mo_readHours : List Blk := [([.aload 0, .iconst 0, .putfield 12050, .aload 0, .iconst 0, .putfield 12051, .aload 0, .iconst 0, .putfield 12043, .aload 0], .invokevirtual 174, [1]),
  ([.aload 0, .getfield 12045], .ifCond .eq 0, [6, 2]),
  ([.aload 0], .invokevirtual 178, [3]),
  ([.istore 1, .iload 1], .ifCond .eq 0, [5, 4]),
  ([.iload 1], .ireturn, []),
  ([], .goto 0, [1]),
  ([.iconst 0], .ireturn, [])]
def mb_Mo_nextToken : List Blk := [([.aload 0, .aload 0, .getfield 12043], .invokevirtual 175, [1]),
  ([.iconst 32], .if_icmp .eq 0, [4, 2]),
  ([.aload 0, .aload 0, .getfield 12043], .invokevirtual 175, [3]),
  ([.iconst 10], .if_icmp .ne 0, [5, 4]),
  ([.aload 0, .dup, .getfield 12043, .iconst 1, .iadd, .putfield 12043], .goto 0, [0]),
  ([.aload 0, .aload 0, .getfield 12043, .putfield 12044, .aload 0, .aload 0, .getfield 12043], .invokevirtual 175, [6]),
  ([.istore 1, .iload 1], .ifCond .ge 0, [8, 7]),
  ([.aload 0, .iconst 0, .putfield 12045], .goto 0, [35]),
  ([.iload 1], .invokestatic 176, [9]),
  ([], .ifCond .eq 0, [18, 10]),
  ([.aload 0, .iconst 1, .putfield 12045, .aload 0, .iconst 0, .putfield 12046], .nop, [11]),
  ([.aload 0, .aload 0, .getfield 12043], .invokevirtual 175, [12]),
  ([], .invokestatic 176, [13]),
  ([], .ifCond .eq 0, [35, 14]),
  ([.aload 0, .getfield 12046, .iconst 100000], .if_icmp .ge 0, [17, 15]),
  ([.aload 0, .iconst 10, .aload 0, .getfield 12046, .imul, .aload 0, .aload 0, .getfield 12043], .invokevirtual 175, [16]),
  ([.iadd, .iconst 48, .isub, .putfield 12046], .nop, [17]),
  ([.aload 0, .dup, .getfield 12043, .iconst 1, .iadd, .putfield 12043], .goto 0, [11]),
  ([.iload 1], .invokestatic 177, [19]),
  ([], .ifCond .eq 0, [31, 20]),
  ([.aload 0, .iconst 2, .putfield 12045, .aload 0, .jsr_w 0, .putfield 12047], .nop, [21]),
  ([.aload 0, .aload 0, .getfield 12043], .invokevirtual 175, [22]),
  ([], .invokestatic 177, [23]),
  ([], .ifCond .eq 0, [29, 24]),
  ([.aload 0, .aload 0, .getfield 12043, .aload 0, .getfield 12044, .isub, .iconst 7], .if_icmp .ge 0, [27, 25]),
  ([.aload 0, .getfield 12047, .iconst 8, .lshl, .aload 0, .aload 0, .getfield 12043], .invokevirtual 175, [26]),
  ([.i2l, .lor], .goto 0, [28]),
  ([.jsr_w 0], .nop, [28]),
  ([.putfield 12047, .aload 0, .dup, .getfield 12043, .iconst 1, .iadd, .putfield 12043], .goto 0, [21]),
  ([.aload 0, .getfield 12043, .aload 0, .getfield 12044, .isub, .iconst 7], .if_icmp .le 0, [35, 30]),
  ([.aload 0, .jsr_w 0, .putfield 12047], .goto 0, [35]),
  ([.aload 0, .iload 1, .iconst 10], .if_icmp .ge 0, [33, 32]),
  ([.iconst 255], .goto 0, [34]),
  ([.iload 1], .nop, [34]),
  ([.putfield 12045, .aload 0, .dup, .getfield 12043, .iconst 1, .iadd, .putfield 12043], .nop, [35]),
  ([], .return_, [])]
def mb_Mo_see : List Blk := [([.iload 1, .aload 0, .getfield 12040], .if_icmp .ge 0, [3, 1]),
  ([.aload 0, .getfield 12039, .iload 1], .iaload, [2]),
  ([], .goto 0, [4]),
  ([.iconst (-1)], .nop, [4]),
  ([], .ireturn, [])]
def mb_Mo_isDigit : List Blk := [([.iload 0, .iconst 48, .iconst 57], .invokestatic 152, [1]),
  ([], .freturn, [])]
def mb_Mo_isLetter : List Blk := [([.iload 0, .iconst 97, .iconst 122], .invokestatic 152, [1]),
  ([], .ifCond .ne 0, [4, 2]),
  ([.iload 0, .iconst 65, .iconst 90], .invokestatic 152, [3]),
  ([], .ifCond .eq 0, [5, 4]),
  ([.iconst 1], .goto 0, [6]),
  ([.iconst 0], .nop, [6]),
  ([], .freturn, [])]
def mb_Mo_clause : List Blk := [([.aload 0], .invokevirtual 179, [1]),
  ([.istore 1, .iload 1, .iconst 1], .if_icmp .lt 0, [3, 2]),
  ([.iload 1, .iconst 5], .if_icmp .le 0, [4, 3]),
  ([.iconst 1], .ireturn, []),
  ([.aload 0, .getfield 12050, .iconst 40], .if_icmp .ne 0, [6, 5]),
  ([.iconst 3], .ireturn, []),
  ([.iconst 40, .aload 0, .getfield 12050, .iadd, .istore 2, .aload 0, .getfield 12052, .iload 2, .iload 1], .iastore, [7]),
  ([.aload 0], .invokevirtual 174, [8]),
  ([.iload 1, .iconst 1], .if_icmp .ne 0, [18, 9]),
  ([.aload 0, .getfield 12045, .iconst 1], .if_icmp .eq 0, [11, 10]),
  ([.iconst 1], .goto 0, [15]),
  ([.aload 0, .getfield 12051, .iconst 3], .if_icmp .eq 0, [13, 12]),
  ([.aload 0, .getfield 12046, .aload 0, .getfield 12051], .if_icmp .eq 0, [14, 13]),
  ([.iconst 2], .goto 0, [15]),
  ([.iconst 0], .nop, [15]),
  ([.istore 3, .iload 3], .ifCond .ne 0, [20, 16]),
  ([.aload 0, .dup, .getfield 12051, .iconst 1, .iadd, .putfield 12051, .aload 0], .invokevirtual 174, [17]),
  ([], .goto 0, [20]),
  ([.aload 0, .iload 1, .iload 2], .invokevirtual 181, [19]),
  ([.istore 3], .nop, [20]),
  ([.aload 0, .getfield 12053, .iload 2, .aload 0, .getfield 12051, .iconst 1, .isub], .iastore, [21]),
  ([.iload 3], .ifCond .eq 0, [23, 22]),
  ([.iload 3], .ireturn, []),
  ([.aload 0, .getfield 12045, .iconst 59], .if_icmp .eq 0, [25, 24]),
  ([.iconst 1], .ireturn, []),
  ([.aload 0, .dup, .getfield 12050, .iconst 1, .iadd, .putfield 12050, .aload 0], .invokevirtual 174, [26]),
  ([.iconst 0], .ireturn, [])]
def mb_Mo_wordOf : List Blk := [([.aload 0, .getfield 12045, .iconst 2], .if_icmp .eq 0, [2, 1]),
  ([.iconst 0], .ireturn, []),
  ([.aload 0, .getfield 12047, .jsr_w 119, .iconst 111, .iconst 114], .invokestatic 180, [3]),
  ([.iconst 108, .iconst 100], .invokestatic 180, [4]),
  ([.lcmp], .ifCond .ne 0, [6, 5]),
  ([.iconst 1], .ireturn, []),
  ([.aload 0, .getfield 12047, .jsr_w 0, .iconst 104, .iconst 97], .invokestatic 180, [7]),
  ([.iconst 117, .iconst 108], .invokestatic 180, [8]),
  ([.lcmp], .ifCond .ne 0, [10, 9]),
  ([.iconst 2], .ireturn, []),
  ([.aload 0, .getfield 12047, .jsr_w 0, .iconst 115, .iconst 104], .invokestatic 180, [11]),
  ([.iconst 117, .iconst 116], .invokestatic 180, [12]),
  ([.lcmp], .ifCond .ne 0, [14, 13]),
  ([.iconst 3], .ireturn, []),
  ([.aload 0, .getfield 12047, .jsr_w 0, .iconst 111, .iconst 112], .invokestatic 180, [15]),
  ([.iconst 101, .iconst 110], .invokestatic 180, [16]),
  ([.lcmp], .ifCond .ne 0, [18, 17]),
  ([.iconst 4], .ireturn, []),
  ([.aload 0, .getfield 12047, .jsr_w 0, .iconst 114, .iconst 97], .invokestatic 180, [19]),
  ([.iconst 105, .iconst 110], .invokestatic 180, [20]),
  ([.lcmp], .ifCond .ne 0, [22, 21]),
  ([.iconst 5], .ireturn, []),
  ([.aload 0, .getfield 12047, .jsr_w 0, .iconst 102, .iconst 114], .invokestatic 180, [23]),
  ([.iconst 111, .iconst 109], .invokestatic 180, [24]),
  ([.lcmp], .ifCond .ne 0, [26, 25]),
  ([.iconst 6], .ireturn, []),
  ([.aload 0, .getfield 12047, .jsr_w 0, .iconst 116, .iconst 111], .invokestatic 180, [27]),
  ([.lcmp], .ifCond .ne 0, [29, 28]),
  ([.iconst 7], .goto 0, [30]),
  ([.iconst 0], .nop, [30]),
  ([], .ireturn, [])]
def mb_Mo_add : List Blk := [([.lload 0, .iconst 8, .lshl, .iload 2, .i2l, .lor, .iconst 8, .lshl, .iload 3, .i2l, .lor], .lreturn, [])]
def mb_Mo_inClause : List Blk := [([.iconst 0, .istore 3, .iload 1, .iconst 2], .if_icmp .eq 0, [2, 1]),
  ([.iload 1, .iconst 3], .if_icmp .ne 0, [6, 2]),
  ([.aload 0, .iconst 0, .iconst 2], .invokevirtual 182, [3]),
  ([.istore 3, .aload 0, .getfield 12054, .iload 2, .aload 0, .getfield 12057], .iastore, [4]),
  ([.iload 3], .ifCond .eq 0, [6, 5]),
  ([.iload 3], .ireturn, []),
  ([.iload 1, .iconst 2], .if_icmp .ne 0, [9, 7]),
  ([.aload 0, .iconst 1, .iconst 120], .invokevirtual 182, [8]),
  ([], .goto 0, [10]),
  ([.aload 0, .iconst 0, .iconst 4319], .invokevirtual 182, [10]),
  ([.istore 3, .aload 0, .getfield 12055, .iload 2, .aload 0, .getfield 12057], .iastore, [11]),
  ([.iload 3], .ifCond .ne 0, [17, 12]),
  ([.aload 0, .iload 1, .iconst 2], .if_icmp .ne 0, [14, 13]),
  ([.iconst 6], .goto 0, [15]),
  ([.iconst 7], .nop, [15]),
  ([], .invokevirtual 183, [16]),
  ([.istore 3], .nop, [17]),
  ([.iload 3], .ifCond .ne 0, [23, 18]),
  ([.aload 0, .iload 1, .iconst 2], .if_icmp .ne 0, [20, 19]),
  ([.iconst 0], .goto 0, [21]),
  ([.aload 0, .getfield 12055, .iload 2], .iaload, [21]),
  ([.iconst 4319], .invokevirtual 182, [22]),
  ([.istore 3], .nop, [23]),
  ([.aload 0, .getfield 12056, .iload 2, .aload 0, .getfield 12057], .iastore, [24]),
  ([.iload 3], .ireturn, [])]
def mb_Mo_take : List Blk := [([.aload 0, .getfield 12045, .iconst 1], .if_icmp .eq 0, [2, 1]),
  ([.iconst 1], .ireturn, []),
  ([.aload 0, .getfield 12046, .iload 1, .iload 2], .invokestatic 152, [3]),
  ([], .ifCond .ne 0, [5, 4]),
  ([.iconst 2], .ireturn, []),
  ([.aload 0, .aload 0, .getfield 12046, .putfield 12057, .aload 0], .invokevirtual 174, [6]),
  ([.iconst 0], .ireturn, [])]
def mb_Mo_need : List Blk := [([.aload 0], .invokevirtual 179, [1]),
  ([.iload 1], .if_icmp .eq 0, [3, 2]),
  ([.iconst 1], .ireturn, []),
  ([.aload 0], .invokevirtual 174, [4]),
  ([.iconst 0], .ireturn, [])]
def mb_Mo_isTold : List Blk := [([.aload 0, .iload 1, .putfield 12041, .aload 0, .iload 1], .ifCond .ne 0, [2, 1]),
  ([.iconst (-1)], .goto 0, [3]),
  ([.aload 0, .getfield 12044], .nop, [3]),
  ([.putfield 12042, .aload 0, .iconst 0, .putfield 12040, .iload 1], .ifCond .ne 0, [5, 4]),
  ([.iconst 1], .goto 0, [6]),
  ([.iconst 0], .nop, [6]),
  ([], .freturn, [])]
def mb_Mo_fault : List Blk := [([.iload 1], .ifCond .ne 0, [2, 1]),
  ([.aload 0, .getfield 12041], .goto 0, [5]),
  ([.iload 1, .iconst 1], .if_icmp .ne 0, [4, 3]),
  ([.aload 0, .getfield 12042], .goto 0, [5]),
  ([.iconst (-1)], .nop, [5]),
  ([], .ireturn, [])]
def mb_Mo_world : List Blk := [([.iload 1, .iconst 0, .aload 0], .invokevirtual 187, [1]),
  ([.iconst 1, .isub], .invokestatic 152, [2]),
  ([], .ifCond .eq 0, [7, 3]),
  ([.iload 2, .iconst 0, .iconst 4319], .invokestatic 152, [4]),
  ([], .ifCond .eq 0, [7, 5]),
  ([.iload 3, .iconst 0, .iconst 6], .invokestatic 152, [6]),
  ([], .ifCond .ne 0, [8, 7]),
  ([.iconst (-1)], .ireturn, []),
  ([.iload 3], .ifCond .ne 0, [14, 9]),
  ([.aload 0, .iload 1, .iload 2], .invokevirtual 188, [10]),
  ([], .ifCond .eq 0, [12, 11]),
  ([.iconst 1], .goto 0, [13]),
  ([.iconst 0], .nop, [13]),
  ([], .ireturn, []),
  ([.iload 3, .iconst 4], .if_icmp .ge 0, [17, 15]),
  ([.aload 0, .iload 1, .iload 3, .iconst 1, .isub, .iload 2], .invokevirtual 190, [16]),
  ([], .goto 0, [21]),
  ([.aload 0, .iload 1, .iload 3, .iconst 4, .isub, .iload 2], .invokevirtual 191, [18]),
  ([], .ifCond .eq 0, [20, 19]),
  ([.iconst 1], .goto 0, [21]),
  ([.iconst 0], .nop, [21]),
  ([], .ireturn, [])]
def mb_Mo_manyWorlds : List Blk := [([.aload 0, .getfield 12049], .ifCond .ne 0, [2, 1]),
  ([.iconst 1], .goto 0, [3]),
  ([.aload 0, .getfield 12049], .nop, [3]),
  ([], .ireturn, [])]
def mb_Mo_isOpen : List Blk := [([.iconst 0, .istore 3, .iconst 0, .istore 4, .iconst 0, .istore 5], .nop, [1]),
  ([.iload 5, .aload 0, .getfield 12048], .if_icmp .ge 0, [21, 2]),
  ([.aload 0, .iload 5, .iconst 5, .iload 1], .invokevirtual 189, [3]),
  ([], .ifCond .eq 0, [9, 4]),
  ([.iload 2, .aload 0, .getfield 12055, .iload 5], .iaload, [5]),
  ([.aload 0, .getfield 12056, .iload 5], .iaload, [6]),
  ([], .invokestatic 152, [7]),
  ([], .ifCond .eq 0, [9, 8]),
  ([.iconst 0], .freturn, []),
  ([.aload 0, .iload 5, .iconst 4, .iload 1], .invokevirtual 189, [10]),
  ([], .ifCond .ne 0, [12, 11]),
  ([], .goto 0, [20]),
  ([.iconst 1, .istore 3, .iload 4], .ifCond .ne 0, [17, 13]),
  ([.iload 2, .aload 0, .getfield 12055, .iload 5], .iaload, [14]),
  ([.aload 0, .getfield 12056, .iload 5], .iaload, [15]),
  ([], .invokestatic 152, [16]),
  ([], .ifCond .eq 0, [18, 17]),
  ([.iconst 1], .goto 0, [19]),
  ([.iconst 0], .nop, [19]),
  ([.istore 4], .nop, [20]),
  ([.iinc 5 1], .goto 0, [1]),
  ([.iload 4], .ifCond .ne 0, [23, 22]),
  ([.iload 3], .ifCond .ne 0, [24, 23]),
  ([.iconst 1], .goto 0, [25]),
  ([.iconst 0], .nop, [25]),
  ([], .freturn, [])]
def mb_Mo_holds : List Blk := [([.aload 0, .getfield 12052, .iload 1], .iaload, [1]),
  ([.iload 2], .if_icmp .ne 0, [7, 2]),
  ([.aload 0, .getfield 12053, .iload 1], .iaload, [3]),
  ([], .ifCond .lt 0, [6, 4]),
  ([.aload 0, .getfield 12053, .iload 1], .iaload, [5]),
  ([.iload 3], .if_icmp .ne 0, [7, 6]),
  ([.iconst 1], .goto 0, [8]),
  ([.iconst 0], .nop, [8]),
  ([], .freturn, [])]
def mb_Mo_haulOf : List Blk := [([.iconst (-1), .istore 4, .iconst 0, .istore 5], .nop, [1]),
  ([.iload 5, .aload 0, .getfield 12048], .if_icmp .ge 0, [14, 2]),
  ([.aload 0, .iload 5, .iconst 2, .iload 1], .invokevirtual 189, [3]),
  ([], .ifCond .eq 0, [13, 4]),
  ([.aload 0, .getfield 12054, .iload 5], .iaload, [5]),
  ([.iload 2], .if_icmp .ne 0, [13, 6]),
  ([.aload 0, .getfield 12056, .iload 5], .iaload, [7]),
  ([.iload 3], .if_icmp .gt 0, [13, 8]),
  ([.iload 4], .ifCond .lt 0, [12, 9]),
  ([.aload 0, .getfield 12056, .iload 5], .iaload, [10]),
  ([.aload 0, .getfield 12056, .iload 4], .iaload, [11]),
  ([], .if_icmp .lt 0, [13, 12]),
  ([.iload 5, .istore 4], .nop, [13]),
  ([.iinc 5 1], .goto 0, [1]),
  ([.iload 4], .ifCond .ge 0, [16, 15]),
  ([.iconst 20], .goto 0, [17]),
  ([.aload 0, .getfield 12055, .iload 4], .iaload, [17]),
  ([], .ireturn, [])]
def mb_Mo_isShut : List Blk := [([.iconst 0, .istore 4], .nop, [1]),
  ([.iload 4, .aload 0, .getfield 12048], .if_icmp .ge 0, [12, 2]),
  ([.aload 0, .iload 4, .iconst 3, .iload 1], .invokevirtual 189, [3]),
  ([], .ifCond .eq 0, [11, 4]),
  ([.aload 0, .getfield 12054, .iload 4], .iaload, [5]),
  ([.iload 2], .if_icmp .ne 0, [11, 6]),
  ([.iload 3, .aload 0, .getfield 12055, .iload 4], .iaload, [7]),
  ([.aload 0, .getfield 12056, .iload 4], .iaload, [8]),
  ([], .invokestatic 152, [9]),
  ([], .ifCond .eq 0, [11, 10]),
  ([.iconst 1], .freturn, []),
  ([.iinc 4 1], .goto 0, [1]),
  ([.iconst 0], .freturn, [])]
def mb_Mo_run : List Blk := [([.aload 0, .iload 1, .iload 2], .invokevirtual 193, [1]),
  ([], .ifCond .ne 0, [3, 2]),
  ([.iconst (-1)], .ireturn, []),
  ([.iload 3], .tableswitch 0 0 5 #[], [10, 4, 5, 6, 7, 8, 9]),
  ([.aload 0, .getfield 12076], .ireturn, []),
  ([.aload 0, .getfield 12077], .ireturn, []),
  ([.aload 0, .getfield 12072], .ireturn, []),
  ([.aload 0, .getfield 12078], .ireturn, []),
  ([.aload 0, .getfield 12079], .ireturn, []),
  ([.aload 0, .getfield 12080], .ireturn, []),
  ([.iconst (-1)], .ireturn, [])]
def mb_Mo_isRun : List Blk := [([.iload 1, .iconst 0, .aload 0], .invokevirtual 187, [1]),
  ([.iconst 1, .isub], .invokestatic 152, [2]),
  ([], .ifCond .eq 0, [8, 3]),
  ([.iload 2, .iconst 1, .iconst 20], .invokestatic 152, [4]),
  ([], .ifCond .eq 0, [8, 5]),
  ([.aload 0, .iload 1, .iload 2], .invokevirtual 194, [6]),
  ([], .ifCond .eq 0, [8, 7]),
  ([.iconst 1], .goto 0, [9]),
  ([.iconst 0], .nop, [9]),
  ([], .freturn, [])]
def mb_Mo_goes : List Blk := [([.aload 0], .invokevirtual 162, [1]),
  ([], .ifCond .eq 0, [4, 2]),
  ([.aload 0], .invokevirtual 195, [3]),
  ([], .ifCond .ne 0, [5, 4]),
  ([.iconst 0], .freturn, []),
  ([.aload 0, .iload 1, .iload 2], .invokevirtual 196, [6]),
  ([.iconst 0, .istore 3], .nop, [7]),
  ([.iload 3, .iconst 4319], .if_icmp .gt 0, [41, 8]),
  ([.aload 0, .getfield 12074, .aload 0, .getfield 12013], .if_icmp .ge 0, [41, 9]),
  ([.iconst 0, .istore 4], .nop, [10]),
  ([.iload 4, .aload 0, .getfield 12017], .if_icmp .ge 0, [25, 11]),
  ([.aload 0, .iload 1, .iload 4, .iload 3], .invokevirtual 191, [12]),
  ([], .ifCond .eq 0, [14, 13]),
  ([], .goto 0, [24]),
  ([.aload 0, .getfield 12064, .iload 4, .aload 0, .getfield 12064, .iload 4], .iaload, [15]),
  ([.aload 0, .getfield 12019, .iload 4], .iaload, [16]),
  ([.iadd, .aload 0, .getfield 12020, .iload 4], .iaload, [17]),
  ([], .if_icmp .le 0, [20, 18]),
  ([.aload 0, .getfield 12020, .iload 4], .iaload, [19]),
  ([], .goto 0, [23]),
  ([.aload 0, .getfield 12064, .iload 4], .iaload, [21]),
  ([.aload 0, .getfield 12019, .iload 4], .iaload, [22]),
  ([.iadd], .nop, [23]),
  ([], .iastore, [24]),
  ([.iinc 4 1], .goto 0, [10]),
  ([.aload 0, .iload 3], .invokevirtual 197, [26]),
  ([.aload 0, .iload 3], .invokevirtual 198, [27]),
  ([.iconst 0, .istore 4], .nop, [28]),
  ([.iload 4, .aload 0, .getfield 12022], .if_icmp .ge 0, [33, 29]),
  ([.aload 0, .getfield 12058, .iload 4], .iaload, [30]),
  ([], .ifCond .ne 0, [32, 31]),
  ([.aload 0, .iload 4, .iload 3], .invokevirtual 200, [32]),
  ([.iinc 4 1], .goto 0, [28]),
  ([.aload 0, .iload 1, .iload 3], .invokevirtual 188, [34]),
  ([], .ifCond .ne 0, [36, 35]),
  ([], .goto 0, [40]),
  ([.aload 0, .getfield 12073, .istore 4, .aload 0, .iload 3], .invokevirtual 203, [37]),
  ([.aload 0, .getfield 12073, .iload 4], .if_icmp .ne 0, [40, 38]),
  ([.aload 0, .getfield 12078], .ifCond .lt 0, [40, 39]),
  ([.aload 0, .dup, .getfield 12076, .iconst 1, .iadd, .putfield 12076], .nop, [40]),
  ([.iinc 3 1], .goto 0, [7]),
  ([.aload 0, .getfield 12074, .aload 0, .getfield 12013], .if_icmp .ne 0, [43, 42]),
  ([.iconst 1], .goto 0, [44]),
  ([.iconst 0], .nop, [44]),
  ([], .freturn, [])]
def mb_Mo_hasPlants : List Blk := [([.iconst 0, .istore 1], .nop, [1]),
  ([.iload 1, .aload 0, .getfield 12008], .if_icmp .ge 0, [14, 2]),
  ([.iconst 0, .istore 2, .iconst 0, .istore 3], .nop, [3]),
  ([.iload 3, .aload 0, .getfield 12017], .if_icmp .ge 0, [11, 4]),
  ([.iload 2], .ifCond .ne 0, [8, 5]),
  ([.aload 0, .getfield 12018, .iload 3], .iaload, [6]),
  ([.aload 0, .getfield 12010, .iload 1], .iaload, [7]),
  ([], .if_icmp .ne 0, [9, 8]),
  ([.iconst 1], .goto 0, [10]),
  ([.iconst 0], .nop, [10]),
  ([.istore 2, .iinc 3 1], .goto 0, [3]),
  ([.iload 2], .ifCond .ne 0, [13, 12]),
  ([.iconst 0], .freturn, []),
  ([.iinc 1 1], .goto 0, [1]),
  ([.iconst 1], .freturn, [])]
def mb_Mo_begin : List Blk := [([.aload 0, .iload 1, .putfield 12091, .aload 0, .iload 2, .putfield 12092, .aload 0, .iconst 0, .putfield 12063, .aload 0, .iconst 0, .putfield 12072, .aload 0, .iconst 0, .putfield 12073, .aload 0, .iconst 0, .putfield 12074, .aload 0, .iconst 0, .putfield 12075, .aload 0, .iconst 0, .putfield 12076, .aload 0, .iconst (-1), .putfield 12077, .aload 0, .iconst (-1), .putfield 12078, .aload 0, .iconst 0, .putfield 12079, .aload 0, .iconst 0, .putfield 12080, .iconst 0, .istore 3], .nop, [1]),
  ([.iload 3, .aload 0, .getfield 12022], .if_icmp .ge 0, [4, 2]),
  ([.aload 0, .getfield 12058, .iload 3, .iconst 0], .iastore, [3]),
  ([.iinc 3 1], .goto 0, [1]),
  ([.iconst 0, .istore 3], .nop, [5]),
  ([.iload 3, .aload 0, .getfield 12017], .if_icmp .ge 0, [9, 6]),
  ([.aload 0, .getfield 12064, .iload 3, .iconst 0], .iastore, [7]),
  ([.aload 0, .getfield 12065, .iload 3, .iconst (-1)], .iastore, [8]),
  ([.iinc 3 1], .goto 0, [5]),
  ([.iconst 0, .istore 3], .nop, [10]),
  ([.iload 3, .aload 0, .getfield 12013], .if_icmp .ge 0, [14, 11]),
  ([.aload 0, .getfield 12067, .iload 3, .iconst 0], .iastore, [12]),
  ([.aload 0, .getfield 12068, .iload 3, .iconst 0], .iastore, [13]),
  ([.iinc 3 1], .goto 0, [10]),
  ([], .return_, [])]
def mb_Mo_comeIn : List Blk := [([.iconst 0, .istore 2], .nop, [1]),
  ([.iload 2, .aload 0, .getfield 12022], .if_icmp .ge 0, [17, 2]),
  ([.aload 0, .getfield 12058, .iload 2], .iaload, [3]),
  ([.iconst 1], .if_icmp .eq 0, [6, 4]),
  ([.aload 0, .getfield 12058, .iload 2], .iaload, [5]),
  ([.iconst 4], .if_icmp .ne 0, [16, 6]),
  ([.aload 0, .getfield 12059, .iload 2], .iaload, [7]),
  ([.iload 1], .if_icmp .eq 0, [9, 8]),
  ([], .goto 0, [16]),
  ([.aload 0, .getfield 12058, .iload 2, .aload 0, .getfield 12058, .iload 2], .iaload, [10]),
  ([.iconst 1], .if_icmp .ne 0, [12, 11]),
  ([.iconst 2], .goto 0, [13]),
  ([.iconst 5], .nop, [13]),
  ([], .iastore, [14]),
  ([.aload 0, .getfield 12060, .iload 2, .aload 0, .getfield 12063], .iastore, [15]),
  ([.aload 0, .dup, .getfield 12063, .iconst 1, .iadd, .putfield 12063], .nop, [16]),
  ([.iinc 2 1], .goto 0, [1]),
  ([], .return_, [])]
def mb_Mo_plantsGo : List Blk := [([.iconst 0, .istore 2], .nop, [1]),
  ([.iload 2, .aload 0, .getfield 12017], .if_icmp .ge 0, [34, 2]),
  ([.aload 0, .getfield 12065, .iload 2], .iaload, [3]),
  ([], .ifCond .lt 0, [12, 4]),
  ([.aload 0, .getfield 12066, .iload 2], .iaload, [5]),
  ([.iload 1], .if_icmp .ne 0, [12, 6]),
  ([.aload 0, .getfield 12058, .aload 0, .getfield 12065, .iload 2], .iaload, [7]),
  ([.iconst 4], .iastore, [8]),
  ([.aload 0, .getfield 12059, .aload 0, .getfield 12065, .iload 2], .iaload, [9]),
  ([.iload 1, .aload 0, .aload 0, .getfield 12091, .iload 2, .iload 1], .invokevirtual 190, [10]),
  ([.iadd], .iastore, [11]),
  ([.aload 0, .getfield 12065, .iload 2, .iconst (-1)], .iastore, [12]),
  ([.aload 0, .iload 2], .invokevirtual 199, [13]),
  ([.istore 3, .aload 0, .getfield 12065, .iload 2], .iaload, [14]),
  ([], .ifCond .ge 0, [33, 15]),
  ([.iload 3], .ifCond .lt 0, [33, 16]),
  ([.aload 0, .aload 0, .getfield 12091, .iload 2, .iload 1], .invokevirtual 191, [17]),
  ([], .ifCond .ne 0, [33, 18]),
  ([.aload 0, .getfield 12064, .iload 2], .iaload, [19]),
  ([.aload 0, .getfield 12082, .aload 0, .getfield 12062, .iload 3], .iaload, [20]),
  ([], .iaload, [21]),
  ([], .if_icmp .ge 0, [23, 22]),
  ([], .goto 0, [33]),
  ([.aload 0, .getfield 12064, .iload 2, .dup2], .iaload, [24]),
  ([.aload 0, .getfield 12082, .aload 0, .getfield 12062, .iload 3], .iaload, [25]),
  ([], .iaload, [26]),
  ([.isub], .iastore, [27]),
  ([.aload 0, .getfield 12086, .aload 0, .getfield 12062, .iload 3], .iaload, [28]),
  ([.iload 1], .iastore, [29]),
  ([.aload 0, .getfield 12065, .iload 2, .iload 3], .iastore, [30]),
  ([.aload 0, .getfield 12066, .iload 2, .iload 1, .aload 0, .getfield 12021, .iload 2], .iaload, [31]),
  ([.iadd], .iastore, [32]),
  ([.aload 0, .getfield 12058, .iload 3, .iconst 3], .iastore, [33]),
  ([.iinc 2 1], .goto 0, [1]),
  ([], .return_, [])]
def mb_Mo_firstAtPlant : List Blk := [([.iconst (-1), .istore 2, .iconst 0, .istore 3], .nop, [1]),
  ([.iload 3, .aload 0, .getfield 12022], .if_icmp .ge 0, [12, 2]),
  ([.aload 0, .getfield 12058, .iload 3], .iaload, [3]),
  ([.iconst 2], .if_icmp .ne 0, [11, 4]),
  ([.aload 0, .getfield 12061, .iload 3], .iaload, [5]),
  ([.iload 1], .if_icmp .ne 0, [11, 6]),
  ([.iload 2], .ifCond .lt 0, [10, 7]),
  ([.aload 0, .getfield 12060, .iload 3], .iaload, [8]),
  ([.aload 0, .getfield 12060, .iload 2], .iaload, [9]),
  ([], .if_icmp .ge 0, [11, 10]),
  ([.iload 3, .istore 2], .nop, [11]),
  ([.iinc 3 1], .goto 0, [1]),
  ([.iload 2], .ireturn, [])]
def mb_Mo_order : List Blk := [([.iconst 0, .istore 3], .nop, [1]),
  ([.iload 3, .aload 0, .getfield 12013], .if_icmp .ge 0, [6, 2]),
  ([.aload 0, .getfield 12067, .iload 3], .iaload, [3]),
  ([.aload 0, .getfield 12016, .iload 3], .iaload, [4]),
  ([], .if_icmp .ne 0, [6, 5]),
  ([.iinc 3 1], .goto 0, [1]),
  ([.iload 3, .aload 0, .getfield 12013], .if_icmp .ne 0, [8, 7]),
  ([], .return_, []),
  ([.aload 0, .getfield 12016, .iload 3], .iaload, [9]),
  ([.aload 0, .getfield 12067, .iload 3], .iaload, [10]),
  ([.isub, .aload 0, .getfield 12023], .if_icmp .ge 0, [14, 11]),
  ([.aload 0, .getfield 12016, .iload 3], .iaload, [12]),
  ([.aload 0, .getfield 12067, .iload 3], .iaload, [13]),
  ([.isub], .goto 0, [15]),
  ([.aload 0, .getfield 12023], .nop, [15]),
  ([.istore 4, .aload 0, .aload 0, .getfield 12010, .iload 3, .aload 0, .getfield 12000], .idiv, [16]),
  ([], .iaload, [17]),
  ([], .invokevirtual 201, [18]),
  ([.istore 5, .aload 0, .getfield 12067, .iload 3, .dup2], .iaload, [19]),
  ([.iload 4, .iadd], .iastore, [20]),
  ([.aload 0, .getfield 12081, .aload 0, .getfield 12072, .iload 3], .iastore, [21]),
  ([.aload 0, .getfield 12082, .aload 0, .getfield 12072, .iload 4], .iastore, [22]),
  ([.aload 0, .getfield 12083, .aload 0, .getfield 12072, .iload 1], .iastore, [23]),
  ([.aload 0, .getfield 12084, .aload 0, .getfield 12072, .iload 5], .iastore, [24]),
  ([.aload 0, .getfield 12085, .aload 0, .getfield 12072, .iload 2], .iastore, [25]),
  ([.aload 0, .getfield 12086, .aload 0, .getfield 12072, .iconst (-1)], .iastore, [26]),
  ([.aload 0, .getfield 12087, .aload 0, .getfield 12072, .iconst (-1)], .iastore, [27]),
  ([.aload 0, .getfield 12088, .aload 0, .getfield 12072, .iconst (-1)], .iastore, [28]),
  ([.aload 0, .getfield 12089, .aload 0, .getfield 12072, .iconst 0], .bastore, [29]),
  ([.aload 0, .getfield 12090, .aload 0, .getfield 12072, .iconst (-1)], .iastore, [30]),
  ([.aload 0, .getfield 12062, .iload 1, .aload 0, .getfield 12072], .iastore, [31]),
  ([.aload 0, .dup, .getfield 12072, .iconst 1, .iadd, .putfield 12072, .aload 0, .getfield 12061, .iload 1, .iload 5], .iastore, [32]),
  ([.aload 0, .getfield 12058, .iload 1, .iconst 1], .iastore, [33]),
  ([.aload 0, .getfield 12059, .iload 1, .iload 2, .aload 0, .aload 0, .getfield 12091, .iload 5, .iload 2], .invokevirtual 190, [34]),
  ([.iadd], .iastore, [35]),
  ([], .return_, [])]
def mb_Mo_plantFor : List Blk := [([.iconst (-1), .istore 2, .iconst 0, .istore 3], .nop, [1]),
  ([.iload 3, .aload 0, .getfield 12017], .if_icmp .ge 0, [10, 2]),
  ([.aload 0, .getfield 12018, .iload 3], .iaload, [3]),
  ([.iload 1], .if_icmp .ne 0, [9, 4]),
  ([.iload 2], .ifCond .lt 0, [8, 5]),
  ([.aload 0, .iload 3], .invokevirtual 202, [6]),
  ([.aload 0, .iload 2], .invokevirtual 202, [7]),
  ([], .if_icmp .ge 0, [9, 8]),
  ([.iload 3, .istore 2], .nop, [9]),
  ([.iinc 3 1], .goto 0, [1]),
  ([.iload 2], .ireturn, [])]
def mb_Mo_sentTo : List Blk := [([.iconst 0, .istore 2, .iconst 0, .istore 3], .nop, [1]),
  ([.iload 3, .aload 0, .getfield 12022], .if_icmp .ge 0, [10, 2]),
  ([.iload 2, .aload 0, .getfield 12058, .iload 3], .iaload, [3]),
  ([.iconst 1, .iconst 3], .invokestatic 152, [4]),
  ([], .ifCond .eq 0, [8, 5]),
  ([.aload 0, .getfield 12061, .iload 3], .iaload, [6]),
  ([.iload 1], .if_icmp .ne 0, [8, 7]),
  ([.iconst 1], .goto 0, [9]),
  ([.iconst 0], .nop, [9]),
  ([.iadd, .istore 2, .iinc 3 1], .goto 0, [1]),
  ([.iload 2], .ireturn, [])]
def mb_Mo_paves : List Blk := [([.iconst 0, .istore 2, .iconst 1, .istore 3], .nop, [1]),
  ([.iload 3], .ifCond .eq 0, [36, 2]),
  ([.iload 2, .aload 0, .getfield 12092], .if_icmp .ge 0, [36, 3]),
  ([.aload 0, .getfield 12074, .aload 0, .getfield 12013], .if_icmp .ge 0, [36, 4]),
  ([.aload 0, .iload 1], .invokevirtual 204, [5]),
  ([], .ifCond .ne 0, [7, 6]),
  ([], .return_, []),
  ([.aload 0, .getfield 12075], .ifCond .ne 0, [10, 8]),
  ([.aload 0, .aload 0, .getfield 12074], .invokevirtual 206, [9]),
  ([], .goto 0, [11]),
  ([.iconst (-1)], .nop, [11]),
  ([.istore 4, .aload 0, .getfield 12075], .ifCond .gt 0, [13, 12]),
  ([.iload 4], .ifCond .lt 0, [14, 13]),
  ([.iconst 1], .goto 0, [15]),
  ([.iconst 0], .nop, [15]),
  ([.istore 3, .iload 4], .ifCond .lt 0, [17, 16]),
  ([.aload 0, .iload 4, .iload 1], .invokevirtual 207, [17]),
  ([.aload 0, .getfield 12075, .aload 0, .getfield 12092, .iload 2, .isub], .if_icmp .ge 0, [19, 18]),
  ([.aload 0, .getfield 12075], .goto 0, [20]),
  ([.aload 0, .getfield 12092, .iload 2, .isub], .nop, [20]),
  ([.istore 5, .iload 5], .ifCond .ne 0, [22, 21]),
  ([], .goto 0, [1]),
  ([.aload 0, .getfield 12068, .aload 0, .getfield 12074], .iaload, [23]),
  ([], .ifCond .ne 0, [25, 24]),
  ([.aload 0, .getfield 12069, .aload 0, .getfield 12074, .iload 1], .iastore, [25]),
  ([.aload 0, .getfield 12068, .aload 0, .getfield 12074, .dup2], .iaload, [26]),
  ([.iload 5, .iadd], .iastore, [27]),
  ([.aload 0, .dup, .getfield 12075, .iload 5, .isub, .putfield 12075, .iload 2, .iload 5, .iadd, .istore 2, .aload 0, .dup, .getfield 12073, .iload 5, .iadd, .putfield 12073, .aload 0, .getfield 12078], .ifCond .ge 0, [29, 28]),
  ([.aload 0, .iload 1, .putfield 12078], .nop, [29]),
  ([.aload 0, .iload 1, .putfield 12077, .aload 0, .getfield 12068, .aload 0, .getfield 12074], .iaload, [30]),
  ([.aload 0, .getfield 12016, .aload 0, .getfield 12074], .iaload, [31]),
  ([], .if_icmp .ne 0, [35, 32]),
  ([.aload 0, .getfield 12070, .aload 0, .getfield 12074, .iload 1], .iastore, [33]),
  ([.aload 0, .aload 0, .getfield 12074], .invokevirtual 208, [34]),
  ([.aload 0, .dup, .getfield 12074, .iconst 1, .iadd, .putfield 12074], .nop, [35]),
  ([], .goto 0, [1]),
  ([], .return_, [])]
def mb_Mo_isFirm : List Blk := [([.aload 0, .getfield 12074, .aload 0, .getfield 12000], .if_icmp .lt 0, [4, 1]),
  ([.aload 0, .aload 0, .getfield 12074, .aload 0, .getfield 12000, .isub, .iload 1, .aload 0, .getfield 12070, .aload 0, .getfield 12074, .aload 0, .getfield 12000, .isub], .iaload, [2]),
  ([.isub], .invokevirtual 205, [3]),
  ([.aload 0, .getfield 12027], .if_icmp .gt 0, [5, 4]),
  ([.iconst 1], .goto 0, [6]),
  ([.iconst 0], .nop, [6]),
  ([], .freturn, [])]
def mb_Mo_meanOf : List Blk := [([.aload 0, .getfield 12096, .iconst 601, .iload 1, .imul, .iload 2, .iconst 600], .if_icmp .le 0, [2, 1]),
  ([.iconst 600], .goto 0, [3]),
  ([.iload 2], .nop, [3]),
  ([.iadd], .saload, [4]),
  ([], .ireturn, [])]
def mb_Mo_firstWaiting : List Blk := [([.iconst (-1), .istore 2, .iconst 0, .istore 3], .nop, [1]),
  ([.iload 3, .aload 0, .getfield 12022], .if_icmp .ge 0, [13, 2]),
  ([.aload 0, .getfield 12058, .iload 3], .iaload, [3]),
  ([.iconst 5], .if_icmp .ne 0, [12, 4]),
  ([.aload 0, .getfield 12081, .aload 0, .getfield 12062, .iload 3], .iaload, [5]),
  ([], .iaload, [6]),
  ([.iload 1], .if_icmp .ne 0, [12, 7]),
  ([.iload 2], .ifCond .lt 0, [11, 8]),
  ([.aload 0, .getfield 12060, .iload 3], .iaload, [9]),
  ([.aload 0, .getfield 12060, .iload 2], .iaload, [10]),
  ([], .if_icmp .ge 0, [12, 11]),
  ([.iload 3, .istore 2], .nop, [12]),
  ([.iinc 3 1], .goto 0, [1]),
  ([.iload 2], .ireturn, [])]
def mb_Mo_takes : List Blk := [([.aload 0, .getfield 12062, .iload 1], .iaload, [1]),
  ([.istore 3, .aload 0, .getfield 12058, .iload 1, .iconst 0], .iastore, [2]),
  ([.aload 0, .getfield 12087, .iload 3, .iload 2], .iastore, [3]),
  ([.aload 0, .getfield 12088, .iload 3, .aload 0, .getfield 12024, .iload 2, .aload 0, .getfield 12086, .iload 3], .iaload, [4]),
  ([.isub, .aload 0, .getfield 12025], .idiv, [5]),
  ([.isub], .iastore, [6]),
  ([.aload 0, .getfield 12088, .iload 3], .iaload, [7]),
  ([.aload 0, .getfield 12026], .if_icmp .ge 0, [14, 8]),
  ([.aload 0, .getfield 12089, .iload 3, .iconst 1], .bastore, [9]),
  ([.aload 0, .getfield 12067, .aload 0, .getfield 12074, .dup2], .iaload, [10]),
  ([.aload 0, .getfield 12082, .iload 3], .iaload, [11]),
  ([.isub], .iastore, [12]),
  ([.aload 0, .dup, .getfield 12079, .iconst 1, .iadd, .putfield 12079, .aload 0, .dup, .getfield 12080, .aload 0, .getfield 12082, .iload 3], .iaload, [13]),
  ([.iadd, .putfield 12080], .return_, []),
  ([.aload 0, .aload 0, .getfield 12082, .iload 3], .iaload, [15]),
  ([.putfield 12075, .aload 0, .getfield 12090, .iload 3, .aload 0, .getfield 12073], .iastore, [16]),
  ([.aload 0, .getfield 12068, .aload 0, .getfield 12074], .iaload, [17]),
  ([], .ifCond .eq 0, [21, 18]),
  ([.aload 0, .getfield 12088, .iload 3], .iaload, [19]),
  ([.aload 0, .getfield 12071, .aload 0, .getfield 12074], .iaload, [20]),
  ([], .if_icmp .ge 0, [23, 21]),
  ([.aload 0, .getfield 12071, .aload 0, .getfield 12074, .aload 0, .getfield 12088, .iload 3], .iaload, [22]),
  ([], .iastore, [23]),
  ([], .return_, [])]
def mb_Mo_cool : List Blk := [([.iconst 400000, .aload 0, .getfield 12015, .iload 1], .iaload, [1]),
  ([.aload 0, .getfield 12015, .iload 1], .iaload, [2]),
  ([.imul], .idiv, [3]),
  ([.istore 2, .iload 2, .iconst 400], .if_icmp .le 0, [5, 4]),
  ([.iconst 400, .istore 2], .nop, [5]),
  ([.iconst 0, .istore 3], .nop, [6]),
  ([.iload 3, .iconst 5], .if_icmp .ge 0, [10, 7]),
  ([.aload 0, .getfield 12097, .iload 3, .aload 0, .getfield 12071, .iload 1], .iaload, [8]),
  ([], .iastore, [9]),
  ([.iinc 3 1], .goto 0, [6]),
  ([.iconst 0, .istore 3], .nop, [11]),
  ([.iload 3, .iconst 600], .if_icmp .gt 0, [39, 12]),
  ([.iconst 0, .istore 4, .iconst 0, .istore 5], .nop, [13]),
  ([.iload 5, .iconst 5], .if_icmp .ge 0, [18, 14]),
  ([.iload 4, .aload 0, .getfield 12097, .iload 5], .iaload, [15]),
  ([.iadd, .istore 4, .aload 0, .getfield 12098, .iload 5, .aload 0, .getfield 12097, .iload 5], .iaload, [16]),
  ([], .iastore, [17]),
  ([.iinc 5 1], .goto 0, [13]),
  ([.aload 0, .getfield 12096, .iconst 601, .iload 1, .imul, .iload 3, .iadd, .iload 4, .iconst 5], .idiv, [19]),
  ([.i2s], .sastore, [20]),
  ([.iconst 0, .istore 5], .nop, [21]),
  ([.iload 5, .iconst 4], .if_icmp .ge 0, [30, 22]),
  ([.aload 0, .getfield 12098, .iload 5], .iaload, [23]),
  ([.aload 0, .getfield 12098, .iload 5, .iconst 1, .iadd], .iaload, [24]),
  ([.isub, .iload 2, .imul, .iconst 1000], .idiv, [25]),
  ([.istore 6, .aload 0, .getfield 12097, .iload 5, .dup2], .iaload, [26]),
  ([.iload 6, .isub], .iastore, [27]),
  ([.aload 0, .getfield 12097, .iload 5, .iconst 1, .iadd, .dup2], .iaload, [28]),
  ([.iload 6, .iadd], .iastore, [29]),
  ([.iinc 5 1], .goto 0, [21]),
  ([.aload 0, .getfield 12097, .iconst 0, .dup2], .iaload, [31]),
  ([.aload 0, .getfield 12098, .iconst 0], .iaload, [32]),
  ([.aload 0, .getfield 12029, .isub, .aload 0, .getfield 12031, .imul, .iconst 1000], .idiv, [33]),
  ([.isub], .iastore, [34]),
  ([.aload 0, .getfield 12097, .iconst 4, .dup2], .iaload, [35]),
  ([.aload 0, .getfield 12098, .iconst 4], .iaload, [36]),
  ([.aload 0, .getfield 12030, .isub, .aload 0, .getfield 12032, .imul, .iconst 1000], .idiv, [37]),
  ([.isub], .iastore, [38]),
  ([.iinc 3 1], .goto 0, [11]),
  ([], .return_, [])]
def mb_Mo_pace : List Blk := [([.iconst (-1), .istore 1, .iconst 0, .istore 2, .iconst 0, .istore 3, .iconst 0, .istore 4, .iconst 1, .istore 5], .nop, [1]),
  ([.iload 5, .iconst 20], .if_icmp .gt 0, [17, 2]),
  ([.aload 0, .iload 5], .invokevirtual 210, [3]),
  ([], .ifCond .ne 0, [5, 4]),
  ([], .goto 0, [16]),
  ([.aload 0, .getfield 12093, .iload 2], .if_icmp .lt 0, [10, 6]),
  ([.aload 0, .getfield 12093, .iload 2], .if_icmp .ne 0, [11, 7]),
  ([.aload 0, .getfield 12094, .iload 3], .if_icmp .lt 0, [10, 8]),
  ([.aload 0, .getfield 12094, .iload 3], .if_icmp .ne 0, [11, 9]),
  ([.aload 0, .getfield 12095, .iload 4], .if_icmp .ge 0, [11, 10]),
  ([.iconst 1], .goto 0, [12]),
  ([.iconst 0], .nop, [12]),
  ([.istore 6, .iload 1], .ifCond .lt 0, [15, 13]),
  ([.iload 6], .ifCond .ne 0, [15, 14]),
  ([], .goto 0, [16]),
  ([.iload 5, .istore 1, .aload 0, .getfield 12093, .istore 2, .aload 0, .getfield 12094, .istore 3, .aload 0, .getfield 12095, .istore 4], .nop, [16]),
  ([.iinc 5 1], .goto 0, [1]),
  ([.iload 1], .ireturn, [])]
def mb_Mo_goInAll : List Blk := [([.aload 0, .iconst 0, .putfield 12093, .aload 0, .iconst 0, .putfield 12094, .aload 0, .iconst 0, .putfield 12095, .iconst 0, .istore 2], .nop, [1]),
  ([.iload 2, .aload 0], .invokevirtual 187, [2]),
  ([], .if_icmp .ge 0, [11, 3]),
  ([.aload 0, .iload 2, .iload 1], .invokevirtual 194, [4]),
  ([], .ifCond .ne 0, [6, 5]),
  ([.iconst 0], .freturn, []),
  ([.aload 0, .getfield 12076, .aload 0, .getfield 12093], .if_icmp .le 0, [8, 7]),
  ([.aload 0, .aload 0, .getfield 12076, .putfield 12093], .nop, [8]),
  ([.aload 0, .dup, .getfield 12094, .aload 0, .getfield 12076, .iadd, .putfield 12094, .aload 0, .getfield 12077, .aload 0, .getfield 12095], .if_icmp .le 0, [10, 9]),
  ([.aload 0, .aload 0, .getfield 12077, .putfield 12095], .nop, [10]),
  ([.iinc 2 1], .goto 0, [1]),
  ([.iconst 1], .freturn, [])]
def mb_Mo_fewest : List Blk := [([.iload 1, .iconst 1, .iconst 20], .invokestatic 152, [1]),
  ([], .ifCond .ne 0, [3, 2]),
  ([.iconst (-1)], .ireturn, []),
  ([.aload 0, .getfield 12022, .istore 2, .iconst (-1), .istore 3, .iconst 1, .istore 4], .nop, [4]),
  ([.iload 4, .iconst 16], .if_icmp .gt 0, [11, 5]),
  ([.iload 3], .ifCond .ge 0, [11, 6]),
  ([.aload 0, .iload 4, .putfield 12022, .aload 0, .iload 1], .invokevirtual 210, [7]),
  ([], .ifCond .eq 0, [10, 8]),
  ([.aload 0, .getfield 12093], .ifCond .ne 0, [10, 9]),
  ([.iload 4, .istore 3], .nop, [10]),
  ([.iinc 4 1], .goto 0, [4]),
  ([.aload 0, .iload 2, .putfield 12022, .iload 3], .ireturn, [])]
def mb_Mo_load : List Blk := [([.aload 0, .iload 1, .iload 2], .invokevirtual 193, [1]),
  ([], .ifCond .eq 0, [4, 2]),
  ([.iload 3, .iconst 0, .aload 0, .getfield 12072, .iconst 1, .isub], .invokestatic 152, [3]),
  ([], .ifCond .ne 0, [5, 4]),
  ([.iconst (-1)], .ireturn, []),
  ([.iload 4], .tableswitch 0 0 8 #[], [27, 6, 8, 10, 12, 14, 16, 18, 20, 22]),
  ([.aload 0, .getfield 12081, .iload 3], .iaload, [7]),
  ([], .ireturn, []),
  ([.aload 0, .getfield 12082, .iload 3], .iaload, [9]),
  ([], .ireturn, []),
  ([.aload 0, .getfield 12083, .iload 3], .iaload, [11]),
  ([], .ireturn, []),
  ([.aload 0, .getfield 12084, .iload 3], .iaload, [13]),
  ([], .ireturn, []),
  ([.aload 0, .getfield 12085, .iload 3], .iaload, [15]),
  ([], .ireturn, []),
  ([.aload 0, .getfield 12086, .iload 3], .iaload, [17]),
  ([], .ireturn, []),
  ([.aload 0, .getfield 12087, .iload 3], .iaload, [19]),
  ([], .ireturn, []),
  ([.aload 0, .getfield 12088, .iload 3], .iaload, [21]),
  ([], .ireturn, []),
  ([.aload 0, .getfield 12089, .iload 3], .baload, [23]),
  ([], .ifCond .eq 0, [25, 24]),
  ([.iconst 1], .goto 0, [26]),
  ([.iconst 0], .nop, [26]),
  ([], .ireturn, []),
  ([.iconst (-1)], .ireturn, [])]
def mb_Mo_tonne : List Blk := [([.aload 0, .iload 1, .iload 2], .invokevirtual 193, [1]),
  ([], .ifCond .eq 0, [4, 2]),
  ([.iload 3, .iconst 0, .aload 0, .getfield 12073, .iconst 1, .isub], .invokestatic 152, [3]),
  ([], .ifCond .ne 0, [5, 4]),
  ([.iconst (-1)], .ireturn, []),
  ([.iconst 0, .istore 4], .nop, [6]),
  ([.iload 4, .aload 0, .getfield 12072], .if_icmp .ge 0, [16, 7]),
  ([.aload 0, .getfield 12090, .iload 4], .iaload, [8]),
  ([], .ifCond .lt 0, [15, 9]),
  ([.iload 3, .aload 0, .getfield 12090, .iload 4], .iaload, [10]),
  ([.aload 0, .getfield 12090, .iload 4], .iaload, [11]),
  ([.aload 0, .getfield 12082, .iload 4], .iaload, [12]),
  ([.iadd, .iconst 1, .isub], .invokestatic 152, [13]),
  ([], .ifCond .eq 0, [15, 14]),
  ([.iload 4], .ireturn, []),
  ([.iinc 4 1], .goto 0, [6]),
  ([.iconst (-1)], .ireturn, [])]
def mb_Mo_mean : List Blk := [([.iload 4, .iconst 0, .iconst 600], .invokestatic 152, [1]),
  ([], .ifCond .eq 0, [8, 2]),
  ([.aload 0, .iload 1, .iload 2], .invokevirtual 193, [3]),
  ([], .ifCond .eq 0, [8, 4]),
  ([.iload 3, .iconst 0, .aload 0, .getfield 12013, .iconst 1, .isub], .invokestatic 152, [5]),
  ([], .ifCond .eq 0, [8, 6]),
  ([.aload 0, .iload 3, .iload 4], .invokevirtual 205, [7]),
  ([], .goto 0, [9]),
  ([.iconst (-1000)], .nop, [9]),
  ([], .ireturn, [])]
def mb_Mo_laid : List Blk := [([.aload 0, .iload 1, .iload 2], .invokevirtual 193, [1]),
  ([], .ifCond .eq 0, [4, 2]),
  ([.iload 3, .iconst 0, .aload 0, .getfield 12013, .iconst 1, .isub], .invokestatic 152, [3]),
  ([], .ifCond .ne 0, [5, 4]),
  ([.iconst (-1)], .ireturn, []),
  ([.aload 0], .invokevirtual 216, [6]),
  ([.iload 4], .tableswitch 0 0 8 #[], [25, 7, 9, 11, 13, 18, 18, 18, 21, 23]),
  ([.aload 0, .getfield 12069, .iload 3], .iaload, [8]),
  ([], .ireturn, []),
  ([.aload 0, .getfield 12070, .iload 3], .iaload, [10]),
  ([], .ireturn, []),
  ([.aload 0, .getfield 12071, .iload 3], .iaload, [12]),
  ([], .ireturn, []),
  ([.aload 0, .iload 3], .invokevirtual 220, [14]),
  ([], .ifCond .eq 0, [16, 15]),
  ([.iconst 1], .goto 0, [17]),
  ([.iconst 0], .nop, [17]),
  ([], .ireturn, []),
  ([.aload 0, .getfield 12038, .iload 4, .iconst 4, .isub], .iaload, [19]),
  ([.aload 0, .getfield 12099, .iconst 3, .iload 3, .imul, .iload 4, .iadd, .iconst 4, .isub], .iaload, [20]),
  ([.isub], .ireturn, []),
  ([.aload 0, .getfield 12103, .iload 3], .iaload, [22]),
  ([], .ireturn, []),
  ([.aload 0, .iload 3], .invokevirtual 221, [24]),
  ([], .ireturn, []),
  ([.iconst (-1)], .ireturn, [])]
def mb_Mo_roll : List Blk := [([.iconst 0, .istore 1], .nop, [1]),
  ([.iload 1, .aload 0, .getfield 12013], .if_icmp .ge 0, [10, 2]),
  ([.aload 0, .getfield 12101, .iload 1, .iconst (-1)], .iastore, [3]),
  ([.aload 0, .getfield 12103, .iload 1, .iconst (-1)], .iastore, [4]),
  ([.iconst 0, .istore 2], .nop, [5]),
  ([.iload 2, .iconst 3], .if_icmp .ge 0, [9, 6]),
  ([.aload 0, .getfield 12099, .iconst 3, .iload 1, .imul, .iload 2, .iadd, .iconst 0], .iastore, [7]),
  ([.aload 0, .getfield 12100, .iconst 3, .iload 1, .imul, .iload 2, .iadd, .iconst 0], .iastore, [8]),
  ([.iinc 2 1], .goto 0, [5]),
  ([.iinc 1 1], .goto 0, [1]),
  ([.iconst 0, .istore 1], .nop, [11]),
  ([.iload 1, .aload 0, .getfield 12033], .if_icmp .ge 0, [14, 12]),
  ([.aload 0, .getfield 12104, .iload 1, .iconst 0], .iastore, [13]),
  ([.iinc 1 1], .goto 0, [11]),
  ([.iconst 0, .istore 1], .nop, [15]),
  ([.iload 1, .aload 0, .getfield 12077, .iconst 600, .iadd], .if_icmp .gt 0, [24, 16]),
  ([.aload 0, .iload 1], .invokevirtual 217, [17]),
  ([.iconst 0, .istore 2], .nop, [18]),
  ([.iload 2, .aload 0, .getfield 12033], .if_icmp .ge 0, [23, 19]),
  ([.aload 0, .getfield 12104, .iload 2], .iaload, [20]),
  ([.iload 1], .if_icmp .gt 0, [22, 21]),
  ([.aload 0, .iload 2, .iload 1], .invokevirtual 218, [22]),
  ([.iinc 2 1], .goto 0, [18]),
  ([.iinc 1 1], .goto 0, [15]),
  ([], .return_, [])]
def mb_Mo_settle : List Blk := [([.iconst 0, .istore 2], .nop, [1]),
  ([.iload 2, .aload 0, .getfield 12013], .if_icmp .ge 0, [10, 2]),
  ([.aload 0, .getfield 12101, .iload 2], .iaload, [3]),
  ([.iload 1], .if_icmp .eq 0, [5, 4]),
  ([], .goto 0, [9]),
  ([.aload 0, .getfield 12100, .iconst 3, .iload 2, .imul, .aload 0, .getfield 12102, .iload 2], .iaload, [6]),
  ([.iadd, .dup2], .iaload, [7]),
  ([.iconst 1, .iadd], .iastore, [8]),
  ([.aload 0, .getfield 12101, .iload 2, .iconst (-1)], .iastore, [9]),
  ([.iinc 2 1], .goto 0, [1]),
  ([], .return_, [])]
def mb_Mo_rollOne : List Blk := [([.aload 0, .getfield 12034, .iload 1], .iaload, [1]),
  ([.istore 3, .iconst (-1), .istore 4, .iconst 0, .istore 5], .nop, [2]),
  ([.iload 5, .aload 0, .getfield 12013], .if_icmp .ge 0, [13, 3]),
  ([.aload 0, .iload 5, .iload 3, .iload 2], .invokevirtual 219, [4]),
  ([], .ifCond .eq 0, [12, 5]),
  ([.iload 4], .ifCond .lt 0, [11, 6]),
  ([.aload 0, .iload 5, .iload 2, .aload 0, .getfield 12070, .iload 5], .iaload, [7]),
  ([.isub], .invokevirtual 205, [8]),
  ([.aload 0, .iload 4, .iload 2, .aload 0, .getfield 12070, .iload 4], .iaload, [9]),
  ([.isub], .invokevirtual 205, [10]),
  ([], .if_icmp .ge 0, [12, 11]),
  ([.iload 5, .istore 4], .nop, [12]),
  ([.iinc 5 1], .goto 0, [2]),
  ([.iload 4], .ifCond .ge 0, [15, 14]),
  ([], .return_, []),
  ([.aload 0, .getfield 12001, .iload 4, .aload 0, .getfield 12000], .irem, [16]),
  ([], .iaload, [17]),
  ([.aload 0, .getfield 12035, .iload 1], .iaload, [18]),
  ([.iadd, .iconst 1, .isub, .aload 0, .getfield 12035, .iload 1], .iaload, [19]),
  ([], .idiv, [20]),
  ([.istore 5, .aload 0, .getfield 12099, .iconst 3, .iload 4, .imul, .iload 3, .iadd, .dup2], .iaload, [21]),
  ([.iconst 1, .iadd], .iastore, [22]),
  ([.aload 0, .getfield 12101, .iload 4, .iload 2, .iload 5, .iadd], .iastore, [23]),
  ([.aload 0, .getfield 12102, .iload 4, .iload 3], .iastore, [24]),
  ([.aload 0, .getfield 12103, .iload 4, .iload 2, .iload 5, .iadd], .iastore, [25]),
  ([.aload 0, .getfield 12104, .iload 1, .iload 2, .iload 5, .iadd], .iastore, [26]),
  ([], .return_, [])]
def mb_Mo_mayRoll : List Blk := [([.iload 3, .aload 0, .getfield 12070, .iload 1], .iaload, [1]),
  ([.iconst 1, .iadd, .aload 0, .getfield 12070, .iload 1], .iaload, [2]),
  ([.iconst 600, .iadd], .invokestatic 152, [3]),
  ([], .ifCond .eq 0, [9, 4]),
  ([.aload 0, .getfield 12101, .iload 1], .iaload, [5]),
  ([], .ifCond .ge 0, [9, 6]),
  ([.aload 0, .getfield 12099, .iconst 3, .iload 1, .imul, .iload 2, .iadd], .iaload, [7]),
  ([.aload 0, .getfield 12038, .iload 2], .iaload, [8]),
  ([], .if_icmp .lt 0, [10, 9]),
  ([.iconst 0], .freturn, []),
  ([.iconst 0, .istore 4], .nop, [11]),
  ([.iload 4, .iload 2], .if_icmp .ge 0, [17, 12]),
  ([.aload 0, .getfield 12100, .iconst 3, .iload 1, .imul, .iload 4, .iadd], .iaload, [13]),
  ([.aload 0, .getfield 12038, .iload 4], .iaload, [14]),
  ([], .if_icmp .ge 0, [16, 15]),
  ([.iconst 0], .freturn, []),
  ([.iinc 4 1], .goto 0, [11]),
  ([.aload 0, .iload 1, .iload 3, .aload 0, .getfield 12070, .iload 1], .iaload, [18]),
  ([.isub], .invokevirtual 205, [19]),
  ([.istore 4, .iload 4, .aload 0, .getfield 12037, .iload 2], .iaload, [20]),
  ([.aload 0, .getfield 12036, .iload 2], .iaload, [21]),
  ([], .invokestatic 152, [22]),
  ([], .freturn, [])]
def mb_Mo_isCold : List Blk := [([.iload 1, .aload 0, .getfield 12000], .irem, [1]),
  ([], .ifCond .le 0, [7, 2]),
  ([.aload 0, .iload 1, .iconst 1, .isub, .aload 0, .getfield 12069, .iload 1], .iaload, [3]),
  ([.aload 0, .getfield 12070, .iload 1, .iconst 1, .isub], .iaload, [4]),
  ([.isub], .invokevirtual 205, [5]),
  ([.aload 0, .getfield 12028], .if_icmp .ge 0, [7, 6]),
  ([.iconst 1], .goto 0, [8]),
  ([.iconst 0], .nop, [8]),
  ([], .freturn, [])]
def mb_Mo_denseOf : List Blk := [([.iconst 100, .iconst 4, .aload 0, .iload 1], .invokevirtual 222, [1]),
  ([.imul, .isub, .aload 0, .iload 1], .invokevirtual 220, [2]),
  ([], .ifCond .eq 0, [4, 3]),
  ([.iconst 6], .goto 0, [5]),
  ([.iconst 0], .nop, [5]),
  ([.isub, .istore 2, .iload 2], .ifCond .ge 0, [7, 6]),
  ([.iconst 0], .goto 0, [8]),
  ([.iload 2], .nop, [8]),
  ([], .ireturn, [])]
def mb_Mo_missedOf : List Blk := [([.iconst 0, .istore 2, .iconst 0, .istore 3], .nop, [1]),
  ([.iload 3, .iconst 3], .if_icmp .ge 0, [5, 2]),
  ([.iload 2, .aload 0, .getfield 12038, .iload 3], .iaload, [3]),
  ([.aload 0, .getfield 12099, .iconst 3, .iload 1, .imul, .iload 3, .iadd], .iaload, [4]),
  ([.isub, .iadd, .istore 2, .iinc 3 1], .goto 0, [1]),
  ([.iload 2], .ireturn, [])]
def mb_Mo_rate : List Blk := [([.aload 0, .getfield 12040, .iconst 100], .if_icmp .gt 0, [4, 1]),
  ([.aload 0, .aload 0], .invokevirtual 224, [2]),
  ([], .invokevirtual 184, [3]),
  ([], .ifCond .ne 0, [5, 4]),
  ([.iconst 0], .freturn, []),
  ([.aload 0, .aload 0, .getfield 12108, .putfield 12105, .iconst 0, .istore 1], .nop, [6]),
  ([.iload 1, .aload 0, .getfield 12108], .if_icmp .ge 0, [12, 7]),
  ([.aload 0, .getfield 12106, .iload 1, .aload 0, .getfield 12106, .iconst 128, .iload 1, .iadd], .iaload, [8]),
  ([], .iastore, [9]),
  ([.aload 0, .getfield 12107, .iload 1, .aload 0, .getfield 12107, .iconst 128, .iload 1, .iadd], .iaload, [10]),
  ([], .iastore, [11]),
  ([.iinc 1 1], .goto 0, [6]),
  ([.iconst 1], .freturn, [])]
def mb_Mo_readRate : List Blk := [([.aload 0, .iconst 0, .putfield 12043, .aload 0, .iconst 0, .putfield 12108, .aload 0, .iconst 0, .putfield 12109, .aload 0, .iconst 0, .putfield 12110, .aload 0, .iconst 0, .putfield 12111, .aload 0], .invokevirtual 174, [1]),
  ([.aload 0, .getfield 12045], .ifCond .eq 0, [9, 2]),
  ([.aload 0, .getfield 12111], .ifCond .eq 0, [5, 3]),
  ([.aload 0], .invokevirtual 225, [4]),
  ([], .goto 0, [6]),
  ([.aload 0], .invokevirtual 230, [6]),
  ([.istore 1, .iload 1], .ifCond .eq 0, [8, 7]),
  ([.iload 1], .ireturn, []),
  ([], .goto 0, [1]),
  ([.aload 0, .getfield 12111], .ifCond .ne 0, [11, 10]),
  ([.iconst 1], .ireturn, []),
  ([.aload 0, .iconst 3], .invokevirtual 226, [12]),
  ([.aload 0, .getfield 12110], .ifCond .le 0, [14, 13]),
  ([.iconst 1], .goto 0, [15]),
  ([.iconst 0], .nop, [15]),
  ([], .ireturn, [])]
def mb_Mo_behindOne : List Blk := [([.aload 0, .getfield 12045, .istore 1, .iload 1, .iconst 43], .if_icmp .eq 0, [2, 1]),
  ([.iload 1, .iconst 45], .if_icmp .ne 0, [8, 2]),
  ([.aload 0, .iconst 3], .invokevirtual 226, [3]),
  ([.aload 0, .iload 1, .iconst 43], .if_icmp .ne 0, [5, 4]),
  ([.iconst 3], .goto 0, [6]),
  ([.iconst 4], .nop, [6]),
  ([], .invokevirtual 228, [7]),
  ([.aload 0, .iconst 0, .putfield 12111], .goto 0, [45]),
  ([.iload 1, .iconst 42], .if_icmp .eq 0, [10, 9]),
  ([.iload 1, .iconst 47], .if_icmp .ne 0, [16, 10]),
  ([.aload 0, .iconst 5], .invokevirtual 226, [11]),
  ([.aload 0, .iload 1, .iconst 42], .if_icmp .ne 0, [13, 12]),
  ([.iconst 5], .goto 0, [14]),
  ([.iconst 6], .nop, [14]),
  ([], .invokevirtual 228, [15]),
  ([.aload 0, .iconst 0, .putfield 12111], .goto 0, [45]),
  ([.iload 1, .iconst 44], .if_icmp .ne 0, [27, 17]),
  ([.aload 0, .iconst 3], .invokevirtual 226, [18]),
  ([.aload 0, .getfield 12110], .ifCond .eq 0, [23, 19]),
  ([.aload 0, .getfield 12112, .aload 0, .getfield 12110, .iconst 1, .isub], .iaload, [20]),
  ([.iconst 21], .if_icmp .eq 0, [24, 21]),
  ([.aload 0, .getfield 12112, .aload 0, .getfield 12110, .iconst 1, .isub], .iaload, [22]),
  ([.iconst 22], .if_icmp .eq 0, [24, 23]),
  ([.iconst 1], .ireturn, []),
  ([.aload 0, .getfield 12112, .aload 0, .getfield 12110, .iconst 1, .isub, .dup2], .iaload, [25]),
  ([.iconst 2, .iadd], .iastore, [26]),
  ([.aload 0, .iconst 0, .putfield 12111], .goto 0, [45]),
  ([.iload 1, .iconst 41], .if_icmp .ne 0, [44, 28]),
  ([.aload 0, .iconst 3], .invokevirtual 226, [29]),
  ([.aload 0, .getfield 12110], .ifCond .eq 0, [34, 30]),
  ([.aload 0, .getfield 12112, .aload 0, .getfield 12110, .iconst 1, .isub], .iaload, [31]),
  ([.iconst 21], .if_icmp .eq 0, [34, 32]),
  ([.aload 0, .getfield 12112, .aload 0, .getfield 12110, .iconst 1, .isub], .iaload, [33]),
  ([.iconst 22], .if_icmp .ne 0, [35, 34]),
  ([.iconst 1], .ireturn, []),
  ([.aload 0, .dup, .getfield 12110, .iconst 1, .isub, .putfield 12110, .aload 0, .dup, .getfield 12109, .iconst 1, .isub, .putfield 12109, .aload 0, .getfield 12112, .aload 0, .getfield 12110], .iaload, [36]),
  ([.iconst 20], .if_icmp .le 0, [42, 37]),
  ([.aload 0, .aload 0, .getfield 12112, .aload 0, .getfield 12110], .iaload, [38]),
  ([.iconst 23], .if_icmp .ne 0, [40, 39]),
  ([.iconst 7], .goto 0, [41]),
  ([.iconst 8], .nop, [41]),
  ([.iconst 0], .invokevirtual 227, [42]),
  ([.aload 0], .invokevirtual 229, [43]),
  ([], .goto 0, [45]),
  ([.iconst 1], .ireturn, []),
  ([.aload 0], .invokevirtual 174, [46]),
  ([.iconst 0], .ireturn, [])]
def mb_Mo_settleTo : List Blk := [([.aload 0, .getfield 12110], .ifCond .le 0, [8, 1]),
  ([.aload 0, .getfield 12112, .aload 0, .getfield 12110, .iconst 1, .isub], .iaload, [2]),
  ([.iconst 20], .if_icmp .ge 0, [8, 3]),
  ([.aload 0, .getfield 12112, .aload 0, .getfield 12110, .iconst 1, .isub], .iaload, [4]),
  ([.iload 1], .if_icmp .lt 0, [8, 5]),
  ([.aload 0, .dup, .getfield 12110, .iconst 1, .isub, .putfield 12110, .aload 0, .aload 0, .getfield 12112, .aload 0, .getfield 12110], .iaload, [6]),
  ([.iconst 0], .invokevirtual 227, [7]),
  ([], .goto 0, [0]),
  ([], .return_, [])]
def mb_Mo_emit : List Blk := [([.aload 0, .getfield 12106, .iconst 128, .aload 0, .getfield 12108, .iadd, .iload 1], .iastore, [1]),
  ([.aload 0, .getfield 12107, .iconst 128, .aload 0, .getfield 12108, .iadd, .iload 2], .iastore, [2]),
  ([.aload 0, .dup, .getfield 12108, .iconst 1, .iadd, .putfield 12108], .return_, [])]
def mb_Mo_push : List Blk := [([.aload 0, .getfield 12112, .aload 0, .getfield 12110, .iload 1], .iastore, [1]),
  ([.aload 0, .dup, .getfield 12110, .iconst 1, .iadd, .putfield 12110], .return_, [])]
def mb_Mo_whole : List Blk := [([.aload 0, .getfield 12110], .ifCond .le 0, [5, 1]),
  ([.aload 0, .getfield 12112, .aload 0, .getfield 12110, .iconst 1, .isub], .iaload, [2]),
  ([.iconst 2], .if_icmp .ne 0, [5, 3]),
  ([.aload 0, .dup, .getfield 12110, .iconst 1, .isub, .putfield 12110, .aload 0, .dup, .getfield 12109, .iconst 1, .isub, .putfield 12109, .aload 0, .iconst 2, .iconst 0], .invokevirtual 227, [4]),
  ([], .goto 0, [0]),
  ([], .return_, [])]
def mb_Mo_beginOne : List Blk := [([.aload 0, .getfield 12045, .iconst 1], .if_icmp .ne 0, [3, 1]),
  ([.aload 0, .getfield 12046, .iconst 9999], .if_icmp .le 0, [3, 2]),
  ([.iconst 2], .ireturn, []),
  ([.aload 0, .getfield 12045, .iconst 1], .if_icmp .eq 0, [7, 4]),
  ([.aload 0, .getfield 12045, .iconst 2], .if_icmp .ne 0, [17, 5]),
  ([.aload 0], .invokevirtual 231, [6]),
  ([], .ifCond .lt 0, [17, 7]),
  ([.aload 0, .aload 0, .getfield 12045, .iconst 1], .if_icmp .ne 0, [9, 8]),
  ([.iconst 0], .goto 0, [10]),
  ([.iconst 1], .nop, [10]),
  ([.aload 0, .getfield 12045, .iconst 1], .if_icmp .ne 0, [12, 11]),
  ([.aload 0, .getfield 12046], .goto 0, [13]),
  ([.aload 0], .invokevirtual 231, [13]),
  ([], .invokevirtual 227, [14]),
  ([.aload 0], .invokevirtual 229, [15]),
  ([.aload 0, .iconst 1, .putfield 12111, .aload 0], .invokevirtual 174, [16]),
  ([.iconst 0], .ireturn, []),
  ([.aload 0, .getfield 12045, .iconst 2], .if_icmp .ne 0, [25, 18]),
  ([.aload 0, .getfield 12047, .jsr_w 109, .iconst 105, .iconst 110], .invokestatic 180, [19]),
  ([.lcmp], .ifCond .ne 0, [21, 20]),
  ([.iconst 7], .goto 0, [30]),
  ([.aload 0, .getfield 12047, .jsr_w 109, .iconst 97, .iconst 120], .invokestatic 180, [22]),
  ([.lcmp], .ifCond .ne 0, [24, 23]),
  ([.iconst 8], .goto 0, [30]),
  ([.iconst 0], .goto 0, [30]),
  ([.aload 0, .getfield 12045, .iconst 40], .if_icmp .ne 0, [27, 26]),
  ([.iconst 20], .goto 0, [30]),
  ([.aload 0, .getfield 12045, .iconst 45], .if_icmp .ne 0, [29, 28]),
  ([.iconst 2], .goto 0, [30]),
  ([.iconst 0], .nop, [30]),
  ([.istore 1, .iload 1], .ifCond .ne 0, [32, 31]),
  ([.iconst 1], .ireturn, []),
  ([.iload 1, .iconst 7], .if_icmp .eq 0, [34, 33]),
  ([.iload 1, .iconst 8], .if_icmp .ne 0, [37, 34]),
  ([.aload 0], .invokevirtual 174, [35]),
  ([.aload 0, .getfield 12045, .iconst 40], .if_icmp .eq 0, [37, 36]),
  ([.iconst 1], .ireturn, []),
  ([.aload 0, .getfield 12109, .iconst 8], .if_icmp .ne 0, [39, 38]),
  ([.iconst 3], .ireturn, []),
  ([.aload 0, .dup, .getfield 12109, .iconst 1, .iadd, .putfield 12109, .aload 0, .iload 1, .iconst 7], .if_icmp .ne 0, [41, 40]),
  ([.iconst 21], .goto 0, [44]),
  ([.iload 1, .iconst 8], .if_icmp .ne 0, [43, 42]),
  ([.iconst 22], .goto 0, [44]),
  ([.iload 1], .nop, [44]),
  ([], .invokevirtual 228, [45]),
  ([.aload 0], .invokevirtual 174, [46]),
  ([.iconst 0], .ireturn, [])]
def mb_Mo_letterOf : List Blk := [([.aload 0, .getfield 12047, .jsr_w 116, .lcmp], .ifCond .ne 0, [2, 1]),
  ([.iconst 0], .goto 0, [9]),
  ([.aload 0, .getfield 12047, .jsr_w 100, .lcmp], .ifCond .ne 0, [4, 3]),
  ([.iconst 1], .goto 0, [9]),
  ([.aload 0, .getfield 12047, .jsr_w 106, .lcmp], .ifCond .ne 0, [6, 5]),
  ([.iconst 2], .goto 0, [9]),
  ([.aload 0, .getfield 12047, .jsr_w 109, .lcmp], .ifCond .ne 0, [8, 7]),
  ([.iconst 3], .goto 0, [9]),
  ([.iconst (-1)], .nop, [9]),
  ([], .ireturn, [])]
def mb_Mo_tells : List Blk := [([.iload 1], .invokestatic 233, [1]),
  ([], .ifCond .eq 0, [10, 2]),
  ([.iload 2], .invokestatic 233, [3]),
  ([], .ifCond .eq 0, [10, 4]),
  ([.iload 3], .invokestatic 233, [5]),
  ([], .ifCond .eq 0, [10, 6]),
  ([.iload 4], .invokestatic 233, [7]),
  ([], .ifCond .eq 0, [10, 8]),
  ([.aload 0, .iload 1, .iload 2, .iload 3, .iload 4], .invokevirtual 234, [9]),
  ([], .goto 0, [11]),
  ([.iconst (-2000000000)], .nop, [11]),
  ([], .ireturn, [])]
def mb_Mo_isSmall : List Blk := [([.iload 0, .iconst (-1000000), .iconst 1000000], .invokestatic 152, [1]),
  ([], .freturn, [])]
def mb_Mo_work : List Blk := [([.iconst 0, .istore 5, .iconst 0, .istore 6], .nop, [1]),
  ([.iload 6, .aload 0, .getfield 12105], .if_icmp .ge 0, [26, 2]),
  ([.aload 0, .getfield 12106, .iload 6], .iaload, [3]),
  ([.istore 7, .iload 7], .ifCond .eq 0, [5, 4]),
  ([.iload 7, .iconst 1], .if_icmp .ne 0, [17, 5]),
  ([.aload 0, .getfield 12107, .iload 6], .iaload, [6]),
  ([.istore 8, .aload 0, .getfield 12113, .iload 5, .iload 7], .ifCond .ne 0, [8, 7]),
  ([.iload 8, .i2l], .goto 0, [15]),
  ([.iload 8], .ifCond .ne 0, [10, 9]),
  ([.iload 1, .i2l], .goto 0, [15]),
  ([.iload 8, .iconst 1], .if_icmp .ne 0, [12, 11]),
  ([.iload 2, .i2l], .goto 0, [15]),
  ([.iload 8, .iconst 2], .if_icmp .ne 0, [14, 13]),
  ([.iload 3, .i2l], .goto 0, [15]),
  ([.iload 4, .i2l], .nop, [15]),
  ([], .lastore, [16]),
  ([.iinc 5 1], .goto 0, [25]),
  ([.iload 7, .iconst 2], .if_icmp .ne 0, [21, 18]),
  ([.aload 0, .getfield 12113, .iload 5, .iconst 1, .isub, .aload 0, .getfield 12113, .iload 5, .iconst 1, .isub], .laload, [19]),
  ([.lneg], .lastore, [20]),
  ([], .goto 0, [25]),
  ([.iinc 5 (-1), .aload 0, .getfield 12113, .iload 5, .iconst 1, .isub, .iload 7, .aload 0, .getfield 12113, .iload 5, .iconst 1, .isub], .laload, [22]),
  ([.aload 0, .getfield 12113, .iload 5], .laload, [23]),
  ([], .invokestatic 235, [24]),
  ([], .lastore, [25]),
  ([.iinc 6 1], .goto 0, [1]),
  ([.aload 0, .getfield 12113, .iconst 0], .laload, [27]),
  ([.l2i], .ireturn, [])]
def mb_Mo_act : List Blk := [([.iload 0], .tableswitch 0 3 7 #[], [16, 1, 3, 5, 7, 12]),
  ([.lload 1, .lload 3, .ladd], .invokestatic 236, [2]),
  ([], .lreturn, []),
  ([.lload 1, .lload 3, .lsub], .invokestatic 236, [4]),
  ([], .lreturn, []),
  ([.lload 1, .lload 3, .lmul], .invokestatic 236, [6]),
  ([], .lreturn, []),
  ([.lload 3, .jsr_w 0, .lcmp], .ifCond .ne 0, [9, 8]),
  ([.jsr_w 0], .goto 0, [11]),
  ([.lload 1, .lload 3], .ldiv, [10]),
  ([], .invokestatic 236, [11]),
  ([], .lreturn, []),
  ([.lload 1, .lload 3, .lcmp], .ifCond .ge 0, [14, 13]),
  ([.lload 1], .goto 0, [15]),
  ([.lload 3], .nop, [15]),
  ([], .lreturn, []),
  ([.lload 1, .lload 3, .lcmp], .ifCond .le 0, [18, 17]),
  ([.lload 1], .goto 0, [19]),
  ([.lload 3], .nop, [19]),
  ([], .lreturn, [])]
def mb_Mo_clip : List Blk := [([.lload 0, .jsr_w 1000000000, .lcmp], .ifCond .le 0, [2, 1]),
  ([.jsr_w 1000000000], .goto 0, [5]),
  ([.lload 0, .jsr_w (-1000000000), .lcmp], .ifCond .ge 0, [4, 3]),
  ([.jsr_w (-1000000000)], .goto 0, [5]),
  ([.lload 0], .nop, [5]),
  ([], .lreturn, [])]
def mb_Mo_pay : List Blk := [([.aload 0, .iload 1, .iload 2], .invokevirtual 193, [1]),
  ([], .ifCond .eq 0, [4, 2]),
  ([.aload 0, .iload 3, .iload 4], .invokevirtual 238, [3]),
  ([], .ifCond .ne 0, [5, 4]),
  ([.jsr_w (-1)], .lreturn, []),
  ([.aload 0], .invokevirtual 216, [6]),
  ([.iconst 0, .istore 5, .iconst 0, .istore 6], .nop, [7]),
  ([.iload 6, .iload 3], .if_icmp .ge 0, [11, 8]),
  ([.iload 5, .aload 0, .aload 0, .getfield 12114, .iload 6], .iaload, [9]),
  ([], .invokevirtual 221, [10]),
  ([.iadd, .istore 5, .iinc 6 1], .goto 0, [7]),
  ([.jsr_w 0, .lstore 6, .iconst 0, .istore 8], .nop, [12]),
  ([.iload 8, .aload 0, .getfield 12013], .if_icmp .ge 0, [26, 13]),
  ([.aload 0, .getfield 12114, .iload 8], .iaload, [14]),
  ([.istore 9, .lload 6, .aload 0, .aload 0, .getfield 12016, .iload 9], .iaload, [15]),
  ([.iload 8, .iload 3], .if_icmp .ge 0, [18, 16]),
  ([.aload 0, .iload 9], .invokevirtual 221, [17]),
  ([], .goto 0, [19]),
  ([.iload 5, .iload 3], .idiv, [19]),
  ([.aload 0, .iload 9], .invokevirtual 220, [20]),
  ([], .ifCond .eq 0, [22, 21]),
  ([.iconst 1], .goto 0, [23]),
  ([.iconst 0], .nop, [23]),
  ([.aload 0, .iload 9], .invokevirtual 222, [24]),
  ([], .invokevirtual 234, [25]),
  ([.i2l, .ladd, .lstore 6, .iinc 8 1], .goto 0, [12]),
  ([.lload 6], .lreturn, [])]
def mb_Mo_isDrawn : List Blk := [([.aload 0], .invokevirtual 162, [1]),
  ([], .ifCond .eq 0, [4, 2]),
  ([.iload 1, .iconst 1, .aload 0, .getfield 12013], .invokestatic 152, [3]),
  ([], .ifCond .ne 0, [5, 4]),
  ([.iconst 0], .freturn, []),
  ([.iload 2, .istore 3, .iconst 0, .istore 4], .nop, [6]),
  ([.iload 4, .aload 0, .getfield 12013], .if_icmp .ge 0, [9, 7]),
  ([.aload 0, .getfield 12114, .iload 4, .iload 4], .iastore, [8]),
  ([.iinc 4 1], .goto 0, [6]),
  ([.iconst 0, .istore 4], .nop, [10]),
  ([.iload 4, .iload 1], .if_icmp .ge 0, [17, 11]),
  ([.iload 3, .iconst 1103515245, .imul, .iconst 12345, .iadd, .istore 3, .iload 4, .iload 3, .iconst 16, .iushr, .aload 0, .getfield 12013, .iload 4, .isub], .irem, [12]),
  ([.iadd, .istore 5, .aload 0, .getfield 12114, .iload 4], .iaload, [13]),
  ([.istore 6, .aload 0, .getfield 12114, .iload 4, .aload 0, .getfield 12114, .iload 5], .iaload, [14]),
  ([], .iastore, [15]),
  ([.aload 0, .getfield 12114, .iload 5, .iload 6], .iastore, [16]),
  ([.iinc 4 1], .goto 0, [10]),
  ([.iconst 1], .freturn, [])]
def mb_Mo_core : List Blk := [([.aload 0, .iload 1, .iload 2], .invokevirtual 238, [1]),
  ([], .ifCond .eq 0, [6, 2]),
  ([.iload 3, .iconst 0, .iload 1, .iconst 1, .isub], .invokestatic 152, [3]),
  ([], .ifCond .eq 0, [6, 4]),
  ([.aload 0, .getfield 12114, .iload 3], .iaload, [5]),
  ([], .goto 0, [7]),
  ([.iconst (-1)], .nop, [7]),
  ([], .ireturn, [])]
def mb_Mo_about : List Blk := [([.aload 0], .invokevirtual 162, [1]),
  ([.pop, .iload 1], .tableswitch 0 0 10 #[], [14, 2, 3, 4, 5, 6, 7, 8, 9, 11, 12, 13]),
  ([.aload 0, .getfield 12000], .ireturn, []),
  ([.aload 0, .getfield 12008], .ireturn, []),
  ([.aload 0, .getfield 12017], .ireturn, []),
  ([.aload 0, .getfield 12022], .ireturn, []),
  ([.aload 0, .getfield 12023], .ireturn, []),
  ([.aload 0, .getfield 12033], .ireturn, []),
  ([.aload 0, .getfield 12048], .ireturn, []),
  ([.aload 0], .invokevirtual 187, [10]),
  ([], .ireturn, []),
  ([.aload 0, .getfield 12013], .ireturn, []),
  ([.aload 0, .getfield 12014], .ireturn, []),
  ([.aload 0, .getfield 12040], .ireturn, []),
  ([.iconst (-1)], .ireturn, [])]
def mb_Lw_law : List Blk := [([.new 11, .dup], .invokespecial 0, [1]),
  ([.astore 1, .new 12, .dup], .invokespecial 150, [2]),
  ([.astore 2, .iconst 0, .istore 3], .nop, [3]),
  ([.iload 3, .aload 0, .fadd, .iconst 6, .isub], .if_icmp .gt 0, [271, 4]),
  ([.aload 0, .iload 3], .faload, [5]),
  ([.iconst 31, .iand], .tableswitch 0 0 28 #[], [270, 6, 14, 28, 32, 38, 46, 54, 66, 74, 88, 100, 108, 120, 134, 140, 144, 148, 154, 164, 174, 178, 184, 196, 206, 218, 230, 242, 254, 264]),
  ([.aload 1, .aload 0, .iload 3, .iconst 1, .iadd], .faload, [7]),
  ([.aload 0, .iload 3, .iconst 2, .iadd], .faload, [8]),
  ([], .invokevirtual 15, [9]),
  ([.aload 2, .aload 0, .iload 3, .iconst 1, .iadd], .faload, [10]),
  ([.aload 0, .iload 3, .iconst 2, .iadd], .faload, [11]),
  ([], .invokevirtual 151, [12]),
  ([], .if_icmp .eq 0, [270, 13]),
  ([.iconst 0], .freturn, []),
  ([.aload 1, .aload 0, .iload 3, .iconst 1, .iadd], .faload, [15]),
  ([.aload 0, .iload 3, .iconst 2, .iadd], .faload, [16]),
  ([.aload 0, .iload 3, .iconst 3, .iadd], .faload, [17]),
  ([.aload 0, .iload 3, .iconst 4, .iadd], .faload, [18]),
  ([.aload 0, .iload 3, .iconst 5, .iadd], .faload, [19]),
  ([], .invokevirtual 31, [20]),
  ([.aload 2, .aload 0, .iload 3, .iconst 1, .iadd], .faload, [21]),
  ([.aload 0, .iload 3, .iconst 2, .iadd], .faload, [22]),
  ([.aload 0, .iload 3, .iconst 3, .iadd], .faload, [23]),
  ([.aload 0, .iload 3, .iconst 4, .iadd], .faload, [24]),
  ([.aload 0, .iload 3, .iconst 5, .iadd], .faload, [25]),
  ([], .invokevirtual 153, [26]),
  ([], .if_icmp .eq 0, [270, 27]),
  ([.iconst 0], .freturn, []),
  ([.aload 1], .invokevirtual 32, [29]),
  ([.aload 2], .invokevirtual 154, [30]),
  ([], .if_icmp .eq 0, [270, 31]),
  ([.iconst 0], .freturn, []),
  ([.aload 1, .aload 0, .iload 3, .iconst 1, .iadd], .faload, [33]),
  ([], .invokevirtual 33, [34]),
  ([.aload 2, .aload 0, .iload 3, .iconst 1, .iadd], .faload, [35]),
  ([], .invokevirtual 159, [36]),
  ([], .if_icmp .eq 0, [270, 37]),
  ([.iconst 0], .freturn, []),
  ([.aload 1, .aload 0, .iload 3, .iconst 1, .iadd], .faload, [39]),
  ([.aload 0, .iload 3, .iconst 2, .iadd], .faload, [40]),
  ([], .invokevirtual 34, [41]),
  ([.aload 2, .aload 0, .iload 3, .iconst 1, .iadd], .faload, [42]),
  ([.aload 0, .iload 3, .iconst 2, .iadd], .faload, [43]),
  ([], .invokevirtual 160, [44]),
  ([], .if_icmp .eq 0, [270, 45]),
  ([.iconst 0], .freturn, []),
  ([.aload 1, .aload 0, .iload 3, .iconst 1, .iadd], .faload, [47]),
  ([.aload 0, .iload 3, .iconst 2, .iadd], .faload, [48]),
  ([], .invokevirtual 36, [49]),
  ([.aload 2, .aload 0, .iload 3, .iconst 1, .iadd], .faload, [50]),
  ([.aload 0, .iload 3, .iconst 2, .iadd], .faload, [51]),
  ([], .invokevirtual 161, [52]),
  ([], .if_icmp .eq 0, [270, 53]),
  ([.iconst 0], .freturn, []),
  ([.aload 1, .aload 0, .iload 3, .iconst 1, .iadd], .faload, [55]),
  ([.aload 0, .iload 3, .iconst 2, .iadd], .faload, [56]),
  ([.aload 0, .iload 3, .iconst 3, .iadd], .faload, [57]),
  ([.aload 0, .iload 3, .iconst 4, .iadd], .faload, [58]),
  ([], .invokevirtual 37, [59]),
  ([.aload 2, .aload 0, .iload 3, .iconst 1, .iadd], .faload, [60]),
  ([.aload 0, .iload 3, .iconst 2, .iadd], .faload, [61]),
  ([.aload 0, .iload 3, .iconst 3, .iadd], .faload, [62]),
  ([.aload 0, .iload 3, .iconst 4, .iadd], .faload, [63]),
  ([], .invokevirtual 163, [64]),
  ([], .if_icmp .eq 0, [270, 65]),
  ([.iconst 0], .freturn, []),
  ([.aload 1, .aload 0, .iload 3, .iconst 1, .iadd], .faload, [67]),
  ([.aload 0, .iload 3, .iconst 2, .iadd], .faload, [68]),
  ([], .invokevirtual 39, [69]),
  ([.aload 2, .aload 0, .iload 3, .iconst 1, .iadd], .faload, [70]),
  ([.aload 0, .iload 3, .iconst 2, .iadd], .faload, [71]),
  ([], .invokevirtual 164, [72]),
  ([], .if_icmp .eq 0, [270, 73]),
  ([.iconst 0], .freturn, []),
  ([.aload 1, .aload 0, .iload 3, .iconst 1, .iadd], .faload, [75]),
  ([.aload 0, .iload 3, .iconst 2, .iadd], .faload, [76]),
  ([.aload 0, .iload 3, .iconst 3, .iadd], .faload, [77]),
  ([.aload 0, .iload 3, .iconst 4, .iadd], .faload, [78]),
  ([.aload 0, .iload 3, .iconst 5, .iadd], .faload, [79]),
  ([], .invokevirtual 40, [80]),
  ([.aload 2, .aload 0, .iload 3, .iconst 1, .iadd], .faload, [81]),
  ([.aload 0, .iload 3, .iconst 2, .iadd], .faload, [82]),
  ([.aload 0, .iload 3, .iconst 3, .iadd], .faload, [83]),
  ([.aload 0, .iload 3, .iconst 4, .iadd], .faload, [84]),
  ([.aload 0, .iload 3, .iconst 5, .iadd], .faload, [85]),
  ([], .invokevirtual 165, [86]),
  ([], .if_icmp .eq 0, [270, 87]),
  ([.iconst 0], .freturn, []),
  ([.aload 1, .aload 0, .iload 3, .iconst 1, .iadd], .faload, [89]),
  ([.aload 0, .iload 3, .iconst 2, .iadd], .faload, [90]),
  ([.aload 0, .iload 3, .iconst 3, .iadd], .faload, [91]),
  ([.aload 0, .iload 3, .iconst 4, .iadd], .faload, [92]),
  ([], .invokevirtual 41, [93]),
  ([.aload 2, .aload 0, .iload 3, .iconst 1, .iadd], .faload, [94]),
  ([.aload 0, .iload 3, .iconst 2, .iadd], .faload, [95]),
  ([.aload 0, .iload 3, .iconst 3, .iadd], .faload, [96]),
  ([.aload 0, .iload 3, .iconst 4, .iadd], .faload, [97]),
  ([], .invokevirtual 166, [98]),
  ([], .if_icmp .eq 0, [270, 99]),
  ([.iconst 0], .freturn, []),
  ([.aload 1, .aload 0, .iload 3, .iconst 1, .iadd], .faload, [101]),
  ([.aload 0, .iload 3, .iconst 2, .iadd], .faload, [102]),
  ([], .invokevirtual 42, [103]),
  ([.aload 2, .aload 0, .iload 3, .iconst 1, .iadd], .faload, [104]),
  ([.aload 0, .iload 3, .iconst 2, .iadd], .faload, [105]),
  ([], .invokevirtual 167, [106]),
  ([], .if_icmp .eq 0, [270, 107]),
  ([.iconst 0], .freturn, []),
  ([.aload 1, .aload 0, .iload 3, .iconst 1, .iadd], .faload, [109]),
  ([.aload 0, .iload 3, .iconst 2, .iadd], .faload, [110]),
  ([.aload 0, .iload 3, .iconst 3, .iadd], .faload, [111]),
  ([.aload 0, .iload 3, .iconst 4, .iadd], .faload, [112]),
  ([], .invokevirtual 44, [113]),
  ([.aload 2, .aload 0, .iload 3, .iconst 1, .iadd], .faload, [114]),
  ([.aload 0, .iload 3, .iconst 2, .iadd], .faload, [115]),
  ([.aload 0, .iload 3, .iconst 3, .iadd], .faload, [116]),
  ([.aload 0, .iload 3, .iconst 4, .iadd], .faload, [117]),
  ([], .invokevirtual 168, [118]),
  ([], .if_icmp .eq 0, [270, 119]),
  ([.iconst 0], .freturn, []),
  ([.aload 1, .aload 0, .iload 3, .iconst 1, .iadd], .faload, [121]),
  ([.aload 0, .iload 3, .iconst 2, .iadd], .faload, [122]),
  ([.aload 0, .iload 3, .iconst 3, .iadd], .faload, [123]),
  ([.aload 0, .iload 3, .iconst 4, .iadd], .faload, [124]),
  ([.aload 0, .iload 3, .iconst 5, .iadd], .faload, [125]),
  ([], .invokevirtual 46, [126]),
  ([.aload 2, .aload 0, .iload 3, .iconst 1, .iadd], .faload, [127]),
  ([.aload 0, .iload 3, .iconst 2, .iadd], .faload, [128]),
  ([.aload 0, .iload 3, .iconst 3, .iadd], .faload, [129]),
  ([.aload 0, .iload 3, .iconst 4, .iadd], .faload, [130]),
  ([.aload 0, .iload 3, .iconst 5, .iadd], .faload, [131]),
  ([], .invokevirtual 169, [132]),
  ([], .if_icmp .eq 0, [270, 133]),
  ([.iconst 0], .freturn, []),
  ([.aload 1, .aload 0, .iload 3, .iconst 1, .iadd], .faload, [135]),
  ([], .invokevirtual 47, [136]),
  ([.aload 2, .aload 0, .iload 3, .iconst 1, .iadd], .faload, [137]),
  ([], .invokevirtual 171, [138]),
  ([], .if_icmp .eq 0, [270, 139]),
  ([.iconst 0], .freturn, []),
  ([.aload 1], .invokevirtual 48, [141]),
  ([.aload 2], .invokevirtual 172, [142]),
  ([], .if_icmp .eq 0, [270, 143]),
  ([.iconst 0], .freturn, []),
  ([.aload 1], .invokevirtual 78, [145]),
  ([.aload 2], .invokevirtual 223, [146]),
  ([], .if_icmp .eq 0, [270, 147]),
  ([.iconst 0], .freturn, []),
  ([.aload 1, .aload 0, .iload 3, .iconst 1, .iadd], .faload, [149]),
  ([], .invokevirtual 87, [150]),
  ([.aload 2, .aload 0, .iload 3, .iconst 1, .iadd], .faload, [151]),
  ([], .invokevirtual 185, [152]),
  ([], .if_icmp .eq 0, [270, 153]),
  ([.iconst 0], .freturn, []),
  ([.aload 1, .aload 0, .iload 3, .iconst 1, .iadd], .faload, [155]),
  ([.aload 0, .iload 3, .iconst 2, .iadd], .faload, [156]),
  ([.aload 0, .iload 3, .iconst 3, .iadd], .faload, [157]),
  ([], .invokevirtual 88, [158]),
  ([.aload 2, .aload 0, .iload 3, .iconst 1, .iadd], .faload, [159]),
  ([.aload 0, .iload 3, .iconst 2, .iadd], .faload, [160]),
  ([.aload 0, .iload 3, .iconst 3, .iadd], .faload, [161]),
  ([], .invokevirtual 186, [162]),
  ([], .if_icmp .eq 0, [270, 163]),
  ([.iconst 0], .freturn, []),
  ([.aload 1, .aload 0, .iload 3, .iconst 1, .iadd], .faload, [165]),
  ([.aload 0, .iload 3, .iconst 2, .iadd], .faload, [166]),
  ([.aload 0, .iload 3, .iconst 3, .iadd], .faload, [167]),
  ([], .invokevirtual 92, [168]),
  ([.aload 2, .aload 0, .iload 3, .iconst 1, .iadd], .faload, [169]),
  ([.aload 0, .iload 3, .iconst 2, .iadd], .faload, [170]),
  ([.aload 0, .iload 3, .iconst 3, .iadd], .faload, [171]),
  ([], .invokevirtual 192, [172]),
  ([], .if_icmp .eq 0, [270, 173]),
  ([.iconst 0], .freturn, []),
  ([.aload 1], .invokevirtual 124, [175]),
  ([.aload 2], .invokevirtual 209, [176]),
  ([], .if_icmp .eq 0, [270, 177]),
  ([.iconst 0], .freturn, []),
  ([.aload 1, .aload 0, .iload 3, .iconst 1, .iadd], .faload, [179]),
  ([], .invokevirtual 127, [180]),
  ([.aload 2, .aload 0, .iload 3, .iconst 1, .iadd], .faload, [181]),
  ([], .invokevirtual 211, [182]),
  ([], .if_icmp .eq 0, [270, 183]),
  ([.iconst 0], .freturn, []),
  ([.aload 1, .aload 0, .iload 3, .iconst 1, .iadd], .faload, [185]),
  ([.aload 0, .iload 3, .iconst 2, .iadd], .faload, [186]),
  ([.aload 0, .iload 3, .iconst 3, .iadd], .faload, [187]),
  ([.aload 0, .iload 3, .iconst 4, .iadd], .faload, [188]),
  ([], .invokevirtual 129, [189]),
  ([.aload 2, .aload 0, .iload 3, .iconst 1, .iadd], .faload, [190]),
  ([.aload 0, .iload 3, .iconst 2, .iadd], .faload, [191]),
  ([.aload 0, .iload 3, .iconst 3, .iadd], .faload, [192]),
  ([.aload 0, .iload 3, .iconst 4, .iadd], .faload, [193]),
  ([], .invokevirtual 212, [194]),
  ([], .if_icmp .eq 0, [270, 195]),
  ([.iconst 0], .freturn, []),
  ([.aload 1, .aload 0, .iload 3, .iconst 1, .iadd], .faload, [197]),
  ([.aload 0, .iload 3, .iconst 2, .iadd], .faload, [198]),
  ([.aload 0, .iload 3, .iconst 3, .iadd], .faload, [199]),
  ([], .invokevirtual 130, [200]),
  ([.aload 2, .aload 0, .iload 3, .iconst 1, .iadd], .faload, [201]),
  ([.aload 0, .iload 3, .iconst 2, .iadd], .faload, [202]),
  ([.aload 0, .iload 3, .iconst 3, .iadd], .faload, [203]),
  ([], .invokevirtual 213, [204]),
  ([], .if_icmp .eq 0, [270, 205]),
  ([.iconst 0], .freturn, []),
  ([.aload 1, .aload 0, .iload 3, .iconst 1, .iadd], .faload, [207]),
  ([.aload 0, .iload 3, .iconst 2, .iadd], .faload, [208]),
  ([.aload 0, .iload 3, .iconst 3, .iadd], .faload, [209]),
  ([.aload 0, .iload 3, .iconst 4, .iadd], .faload, [210]),
  ([], .invokevirtual 132, [211]),
  ([.aload 2, .aload 0, .iload 3, .iconst 1, .iadd], .faload, [212]),
  ([.aload 0, .iload 3, .iconst 2, .iadd], .faload, [213]),
  ([.aload 0, .iload 3, .iconst 3, .iadd], .faload, [214]),
  ([.aload 0, .iload 3, .iconst 4, .iadd], .faload, [215]),
  ([], .invokevirtual 215, [216]),
  ([], .if_icmp .eq 0, [270, 217]),
  ([.iconst 0], .freturn, []),
  ([.aload 1, .aload 0, .iload 3, .iconst 1, .iadd], .faload, [219]),
  ([.aload 0, .iload 3, .iconst 2, .iadd], .faload, [220]),
  ([.aload 0, .iload 3, .iconst 3, .iadd], .faload, [221]),
  ([.aload 0, .iload 3, .iconst 4, .iadd], .faload, [222]),
  ([], .invokevirtual 141, [223]),
  ([.aload 2, .aload 0, .iload 3, .iconst 1, .iadd], .faload, [224]),
  ([.aload 0, .iload 3, .iconst 2, .iadd], .faload, [225]),
  ([.aload 0, .iload 3, .iconst 3, .iadd], .faload, [226]),
  ([.aload 0, .iload 3, .iconst 4, .iadd], .faload, [227]),
  ([], .invokevirtual 214, [228]),
  ([], .if_icmp .eq 0, [270, 229]),
  ([.iconst 0], .freturn, []),
  ([.aload 1, .aload 0, .iload 3, .iconst 1, .iadd], .faload, [231]),
  ([.aload 0, .iload 3, .iconst 2, .iadd], .faload, [232]),
  ([.aload 0, .iload 3, .iconst 3, .iadd], .faload, [233]),
  ([.aload 0, .iload 3, .iconst 4, .iadd], .faload, [234]),
  ([], .invokevirtual 142, [235]),
  ([.aload 2, .aload 0, .iload 3, .iconst 1, .iadd], .faload, [236]),
  ([.aload 0, .iload 3, .iconst 2, .iadd], .faload, [237]),
  ([.aload 0, .iload 3, .iconst 3, .iadd], .faload, [238]),
  ([.aload 0, .iload 3, .iconst 4, .iadd], .faload, [239]),
  ([], .invokevirtual 232, [240]),
  ([], .if_icmp .eq 0, [270, 241]),
  ([.iconst 0], .freturn, []),
  ([.aload 1, .aload 0, .iload 3, .iconst 1, .iadd], .faload, [243]),
  ([.aload 0, .iload 3, .iconst 2, .iadd], .faload, [244]),
  ([.aload 0, .iload 3, .iconst 3, .iadd], .faload, [245]),
  ([.aload 0, .iload 3, .iconst 4, .iadd], .faload, [246]),
  ([], .invokevirtual 145, [247]),
  ([.aload 2, .aload 0, .iload 3, .iconst 1, .iadd], .faload, [248]),
  ([.aload 0, .iload 3, .iconst 2, .iadd], .faload, [249]),
  ([.aload 0, .iload 3, .iconst 3, .iadd], .faload, [250]),
  ([.aload 0, .iload 3, .iconst 4, .iadd], .faload, [251]),
  ([], .invokevirtual 237, [252]),
  ([.lcmp], .ifCond .eq 0, [270, 253]),
  ([.iconst 0], .freturn, []),
  ([.aload 1, .aload 0, .iload 3, .iconst 1, .iadd], .faload, [255]),
  ([.aload 0, .iload 3, .iconst 2, .iadd], .faload, [256]),
  ([.aload 0, .iload 3, .iconst 3, .iadd], .faload, [257]),
  ([], .invokevirtual 147, [258]),
  ([.aload 2, .aload 0, .iload 3, .iconst 1, .iadd], .faload, [259]),
  ([.aload 0, .iload 3, .iconst 2, .iadd], .faload, [260]),
  ([.aload 0, .iload 3, .iconst 3, .iadd], .faload, [261]),
  ([], .invokevirtual 239, [262]),
  ([], .if_icmp .eq 0, [270, 263]),
  ([.iconst 0], .freturn, []),
  ([.aload 1, .aload 0, .iload 3, .iconst 1, .iadd], .faload, [265]),
  ([], .invokevirtual 148, [266]),
  ([.aload 2, .aload 0, .iload 3, .iconst 1, .iadd], .faload, [267]),
  ([], .invokevirtual 240, [268]),
  ([], .if_icmp .eq 0, [270, 269]),
  ([.iconst 0], .freturn, []),
  ([.iinc 3 6], .goto 0, [3]),
  ([.iconst 1], .freturn, [])]
def PG : List (List Blk) := [mb_Br_init, mb_Road_init, mb_Plants_init, mb_Warmth_init, mb_Tape_init, mb_Hours_init, mb_Arrays_fill, mb_Rate_init, mb_Tape_addFour, mb_Br_set, mb_Loads_init, mb_Cooling_init, mb_Haulage_init, mb_Paving_init, mb_Rolling_init, mb_Br_section, mb_Br_isFrom, mb_Road_addSection, mb_Road_settle, mb_Road_weighHeights, mb_Road_costFrom, mb_Br_at, mb_Road_cheapest, mb_Road_chooseLevels, mb_Road_measureJobs, mb_Road_jobs, mb_Road_sectionOf, mb_Road_layerOf, mb_Br_cut, mb_Br_changed, mb_Paving_forget, mb_Br_even, mb_Br_levels, mb_Br_level, mb_Br_layer, mb_Road_addLayer, mb_Br_job, mb_Br_plant, mb_Plants_add, mb_Br_trucks, mb_Br_heat, mb_Br_weather, mb_Br_roller, mb_Rolling_add, mb_Br_sort, mb_Rolling_setSort, mb_Br_feed, mb_Br_end, mb_Br_hours, mb_Hours_read, mb_Hours_scan, mb_Tape_start, mb_Tape_next, mb_Tape_isBlank, mb_Tape_isLetter, mb_Tape_isDigit, mb_Tape_isSound, mb_Hours_passClause, mb_Hours_kindOf, mb_Tape_isWord, mb_String_length, mb_String_coder, mb_String_charAt, mb_String_isLatin1, mb_StringLatin1_charAt, mb_String_checkIndex, mb_Preconditions_checkIndex, mb_Tape_fail, mb_Tape_passNumber, mb_Tape_passWord, mb_Tape_passSign, mb_Tape_isSign, mb_Hours_markWorld, mb_Hours_holds, mb_Hours_mark, mb_Hours_shutBit, mb_Hours_wet, mb_Br_tapeWasRead, mb_Br_rate, mb_Rate_read, mb_Rate_sum, mb_Rate_product, mb_Rate_one, mb_Rate_opens, mb_Rate_letter, mb_Rate_held, mb_Tape_copyFrom, mb_Br_fault, mb_Br_world, mb_Hours_isOpen, mb_Hours_haul, mb_Hours_isShut, mb_Br_run, mb_Br_isPaved, mb_Br_canBePaved, mb_Plants_make, mb_Paving_isDone, mb_Paving_clear, mb_Haulage_begin, mb_Loads_clear, mb_Haulage_makeMix, mb_Haulage_comeIn, mb_Haulage_servePlant, mb_Haulage_beginFilling, mb_Haulage_firstStanding, mb_Loads_of, mb_Loads_note, mb_Haulage_orderLoads, mb_Haulage_nextToOrder, mb_Haulage_orderLoad, mb_Road_kindOf, mb_Haulage_leastSent, mb_Loads_add, mb_Arrays_copyOf, mb_Paving_pave, mb_Paving_isFirmBelow, mb_Cooling_meanBehind, mb_Cooling_cool, mb_Paving_layOut, mb_Cooling_begin, mb_Paving_takeLoad, mb_Haulage_unload, mb_Haulage_orderAgain, mb_Loads_noteLaid, mb_Br_pace, mb_Br_tryPace, mb_Br_isTrialBetter, mb_Br_fewest, mb_Br_neverStops, mb_Br_load, mb_Br_tonne, mb_Loads_ofTonne, mb_Br_laid, mb_Rolling_roll, mb_Rolling_beginPass, mb_Rolling_mayBegin, mb_Cooling_meanAt, mb_Br_isColdJoint, mb_Br_denseOf, mb_Rolling_missedOn, mb_Rolling_missed, mb_Br_mean, mb_Br_tells, mb_Br_isTold, mb_Rate_tell, mb_Br_pay, mb_Br_draw, mb_Br_core, mb_Br_about, mb_Road_allTonnes, mb_Mo_init, mb_Mo_section, mb_Mo_isIn, mb_Mo_even, mb_Mo_levels, mb_Mo_find, mb_Mo_costOf, mb_Mo_restOf, mb_Mo_bestOf, mb_Mo_level, mb_Mo_layer, mb_Mo_job, mb_Mo_hasJobs, mb_Mo_plant, mb_Mo_trucks, mb_Mo_heat, mb_Mo_weather, mb_Mo_roller, mb_Mo_sort, mb_Mo_feed, mb_Mo_four, mb_Mo_end, mb_Mo_hours, mb_Mo_readHours, mb_Mo_nextToken, mb_Mo_see, mb_Mo_isDigit, mb_Mo_isLetter, mb_Mo_clause, mb_Mo_wordOf, mb_Mo_add, mb_Mo_inClause, mb_Mo_take, mb_Mo_need, mb_Mo_isTold, mb_Mo_fault, mb_Mo_world, mb_Mo_manyWorlds, mb_Mo_isOpen, mb_Mo_holds, mb_Mo_haulOf, mb_Mo_isShut, mb_Mo_run, mb_Mo_isRun, mb_Mo_goes, mb_Mo_hasPlants, mb_Mo_begin, mb_Mo_comeIn, mb_Mo_plantsGo, mb_Mo_firstAtPlant, mb_Mo_order, mb_Mo_plantFor, mb_Mo_sentTo, mb_Mo_paves, mb_Mo_isFirm, mb_Mo_meanOf, mb_Mo_firstWaiting, mb_Mo_takes, mb_Mo_cool, mb_Mo_pace, mb_Mo_goInAll, mb_Mo_fewest, mb_Mo_load, mb_Mo_tonne, mb_Mo_mean, mb_Mo_laid, mb_Mo_roll, mb_Mo_settle, mb_Mo_rollOne, mb_Mo_mayRoll, mb_Mo_isCold, mb_Mo_denseOf, mb_Mo_missedOf, mb_Mo_rate, mb_Mo_readRate, mb_Mo_behindOne, mb_Mo_settleTo, mb_Mo_emit, mb_Mo_push, mb_Mo_whole, mb_Mo_beginOne, mb_Mo_letterOf, mb_Mo_tells, mb_Mo_isSmall, mb_Mo_work, mb_Mo_act, mb_Mo_clip, mb_Mo_pay, mb_Mo_isDrawn, mb_Mo_core, mb_Mo_about, mb_Lw_law]
def NARG : List Nat := [1, 1, 1, 1, 2, 1, 2, 1, 2, 3, 1, 3, 5, 5, 3, 3, 3, 3, 1, 1, 3, 2, 4, 1, 1, 1, 2, 2, 2, 1, 1, 6, 1, 2, 3, 3, 3, 5, 5, 3, 6, 5, 3, 3, 5, 5, 6, 2, 1, 2, 3, 1, 1, 1, 1, 1, 1, 3, 1, 2, 1, 1, 2, 1, 2, 2, 3, 2, 3, 2, 2, 2, 2, 3, 4, 1, 3, 1, 1, 2, 3, 3, 3, 4, 2, 1, 2, 2, 4, 3, 4, 4, 4, 3, 1, 2, 4, 1, 3, 1, 2, 2, 3, 3, 4, 3, 4, 2, 1, 4, 2, 2, 6, 2, 2, 2, 3, 2, 3, 4, 2, 2, 2, 2, 1, 2, 1, 2, 3, 5, 4, 2, 5, 2, 3, 4, 3, 2, 2, 2, 3, 5, 5, 1, 5, 5, 3, 4, 2, 1, 1, 3, 3, 6, 1, 1, 3, 3, 3, 2, 3, 3, 1, 5, 3, 6, 5, 3, 5, 6, 2, 2, 1, 1, 1, 2, 1, 1, 1, 1, 3, 3, 3, 2, 2, 2, 4, 1, 3, 4, 4, 4, 4, 3, 3, 1, 3, 2, 2, 2, 3, 2, 2, 2, 2, 3, 2, 3, 2, 1, 2, 2, 5, 4, 5, 5, 1, 2, 3, 4, 2, 2, 2, 1, 1, 1, 2, 3, 2, 1, 1, 1, 5, 1, 5, 3, 1, 5, 3, 4, 2, 1]
/-- the kind of the receiver: 99 none (static), 50 a text, 60 made just now (a constructor) -/
def RCV : List Nat := [11, 7, 5, 10, 9, 2, 99, 6, 9, 99, 3, 0, 1, 4, 8, 11, 99, 7, 7, 7, 7, 99, 7, 7, 7, 7, 7, 7, 99, 11, 4, 11, 11, 11, 11, 7, 11, 11, 5, 11, 11, 11, 11, 8, 11, 8, 11, 11, 11, 2, 2, 9, 9, 99, 99, 99, 9, 2, 99, 9, 50, 50, 50, 50, 99, 99, 99, 9, 9, 9, 9, 9, 2, 2, 2, 99, 2, 11, 11, 6, 6, 6, 6, 6, 6, 99, 9, 11, 11, 2, 2, 2, 11, 11, 11, 5, 4, 4, 1, 3, 1, 1, 1, 1, 1, 3, 3, 1, 1, 1, 7, 1, 3, 99, 4, 4, 0, 0, 4, 0, 4, 1, 1, 3, 11, 11, 11, 11, 11, 11, 11, 3, 11, 8, 8, 8, 0, 11, 11, 8, 8, 11, 11, 99, 6, 11, 11, 11, 11, 7, 12, 12, 99, 12, 12, 12, 12, 12, 12, 12, 12, 12, 12, 12, 12, 12, 12, 12, 12, 12, 12, 12, 12, 12, 12, 12, 99, 99, 12, 12, 99, 12, 12, 12, 12, 12, 12, 12, 12, 12, 12, 12, 12, 12, 12, 12, 12, 12, 12, 12, 12, 12, 12, 12, 12, 12, 12, 12, 12, 12, 12, 12, 12, 12, 12, 12, 12, 12, 12, 12, 12, 12, 12, 12, 12, 12, 12, 12, 12, 12, 12, 12, 12, 99, 12, 99, 99, 12, 12, 12, 12, 99]
def MAXL : List Nat := [1, 1, 1, 1, 2, 1, 4, 1, 3, 3, 1, 3, 5, 5, 3, 4, 3, 3, 1, 3, 6, 2, 8, 5, 6, 1, 2, 2, 2, 1, 1, 6, 1, 2, 4, 3, 3, 6, 5, 3, 6, 5, 3, 3, 5, 5, 6, 2, 2, 3, 4, 1, 1, 1, 1, 1, 1, 7, 1, 3, 1, 1, 2, 1, 2, 2, 3, 2, 4, 2, 2, 2, 4, 4, 6, 1, 5, 1, 2, 2, 6, 8, 9, 4, 4, 2, 3, 2, 4, 3, 8, 4, 4, 3, 2, 3, 6, 1, 3, 1, 3, 3, 4, 6, 6, 3, 4, 4, 1, 7, 2, 4, 7, 3, 4, 3, 6, 13, 4, 5, 7, 2, 3, 2, 3, 7, 2, 4, 4, 5, 4, 5, 5, 5, 8, 6, 3, 2, 3, 4, 3, 5, 5, 1, 5, 11, 8, 4, 2, 3, 2, 3, 3, 6, 1, 4, 3, 5, 5, 2, 3, 3, 4, 5, 3, 6, 5, 3, 5, 6, 3, 2, 2, 2, 2, 2, 1, 1, 4, 1, 4, 4, 3, 2, 2, 2, 4, 1, 6, 4, 6, 5, 4, 3, 5, 4, 4, 3, 4, 4, 6, 4, 4, 6, 2, 3, 4, 4, 7, 7, 3, 5, 5, 5, 5, 5, 3, 3, 6, 5, 2, 3, 4, 2, 2, 2, 2, 3, 2, 1, 2, 1, 5, 1, 9, 5, 2, 10, 7, 4, 2, 4]
def FDL : List (List Nat) := [[3, 3, 3, 3, 3, 3, 3], [3, 3, 3, 3, 0, 0, 0, 3, 3, 3, 3, 3, 3, 3, 3], [3, 3, 3, 3, 3, 3, 0, 0, 0, 0], [3, 3, 0, 0], [3, 3, 0, 3, 3, 3, 3, 1, 1, 0, 0, 0, 0, 0, 0, 0], [3, 3, 3, 3, 0, 0, 0], [3, 0, 0, 0, 0], [3, 3, 3, 3, 3, 3, 3, 3, 0, 0, 0, 0, 0, 0, 0, 0], [3, 3, 3, 3, 3, 3, 3, 3, 3, 3, 0, 0], [3, 0, 0, 0, 0, 0, 0, 0], [0, 0, 0, 0, 0, 0, 0, 0, 0], [3, 3, 3, 3, 3, 3, 3, 3, 3, 3, 3, 3, 3, 3, 3, 0, 0, 0], [0, 3, 3, 0, 0, 0, 0, 0, 0, 3, 3, 3, 3, 0, 0, 3, 3, 0, 3, 3, 3, 3, 0, 0, 0, 0, 0, 0, 0, 0, 0, 0, 0, 0, 3, 3, 3, 3, 3, 3, 0, 0, 0, 0, 0, 0, 0, 2, 0, 0, 0, 0, 3, 3, 3, 3, 3, 0, 3, 3, 3, 3, 3, 0, 3, 3, 3, 3, 3, 3, 3, 3, 0, 0, 0, 0, 0, 0, 0, 0, 0, 3, 3, 3, 3, 3, 3, 3, 3, 3, 3, 0, 0, 0, 0, 0, 3, 3, 3, 3, 3, 3, 3, 3, 3, 0, 3, 3, 0, 0, 0, 1, 3, 3, 3]]
/-- the bytes of the text constants -/
def SBY : List (List Int) := [[119, 111, 114, 108, 100], [104, 97, 117, 108], [115, 104, 117, 116], [111, 112, 101, 110], [114, 97, 105, 110], [102, 114, 111, 109], [116, 111], [109, 105, 110], [109, 97, 120], [116], [100], [106], [109]]
def blkOf (y b : Nat) : Option Blk := match gl PG y with
  | some l => gl l b
  | none => none
def tb (l : List Nat) (i : Nat) : Nat := (gl l i).getD 9999
abbrev k_Br_init : Nat := 0
abbrev k_Road_init : Nat := 1
abbrev k_Plants_init : Nat := 2
abbrev k_Warmth_init : Nat := 3
abbrev k_Tape_init : Nat := 4
abbrev k_Hours_init : Nat := 5
abbrev k_Arrays_fill : Nat := 6
abbrev k_Rate_init : Nat := 7
abbrev k_Tape_addFour : Nat := 8
abbrev k_Br_set : Nat := 9
abbrev k_Loads_init : Nat := 10
abbrev k_Cooling_init : Nat := 11
abbrev k_Haulage_init : Nat := 12
abbrev k_Paving_init : Nat := 13
abbrev k_Rolling_init : Nat := 14
abbrev k_Br_section : Nat := 15
abbrev k_Br_isFrom : Nat := 16
abbrev k_Road_addSection : Nat := 17
abbrev k_Road_settle : Nat := 18
abbrev k_Road_weighHeights : Nat := 19
abbrev k_Road_costFrom : Nat := 20
abbrev k_Br_at : Nat := 21
abbrev k_Road_cheapest : Nat := 22
abbrev k_Road_chooseLevels : Nat := 23
abbrev k_Road_measureJobs : Nat := 24
abbrev k_Road_jobs : Nat := 25
abbrev k_Road_sectionOf : Nat := 26
abbrev k_Road_layerOf : Nat := 27
abbrev k_Br_cut : Nat := 28
abbrev k_Br_changed : Nat := 29
abbrev k_Paving_forget : Nat := 30
abbrev k_Br_even : Nat := 31
abbrev k_Br_levels : Nat := 32
abbrev k_Br_level : Nat := 33
abbrev k_Br_layer : Nat := 34
abbrev k_Road_addLayer : Nat := 35
abbrev k_Br_job : Nat := 36
abbrev k_Br_plant : Nat := 37
abbrev k_Plants_add : Nat := 38
abbrev k_Br_trucks : Nat := 39
abbrev k_Br_heat : Nat := 40
abbrev k_Br_weather : Nat := 41
abbrev k_Br_roller : Nat := 42
abbrev k_Rolling_add : Nat := 43
abbrev k_Br_sort : Nat := 44
abbrev k_Rolling_setSort : Nat := 45
abbrev k_Br_feed : Nat := 46
abbrev k_Br_end : Nat := 47
abbrev k_Br_hours : Nat := 48
abbrev k_Hours_read : Nat := 49
abbrev k_Hours_scan : Nat := 50
abbrev k_Tape_start : Nat := 51
abbrev k_Tape_next : Nat := 52
abbrev k_Tape_isBlank : Nat := 53
abbrev k_Tape_isLetter : Nat := 54
abbrev k_Tape_isDigit : Nat := 55
abbrev k_Tape_isSound : Nat := 56
abbrev k_Hours_passClause : Nat := 57
abbrev k_Hours_kindOf : Nat := 58
abbrev k_Tape_isWord : Nat := 59
abbrev k_String_length : Nat := 60
abbrev k_String_coder : Nat := 61
abbrev k_String_charAt : Nat := 62
abbrev k_String_isLatin1 : Nat := 63
abbrev k_StringLatin1_charAt : Nat := 64
abbrev k_String_checkIndex : Nat := 65
abbrev k_Preconditions_checkIndex : Nat := 66
abbrev k_Tape_fail : Nat := 67
abbrev k_Tape_passNumber : Nat := 68
abbrev k_Tape_passWord : Nat := 69
abbrev k_Tape_passSign : Nat := 70
abbrev k_Tape_isSign : Nat := 71
abbrev k_Hours_markWorld : Nat := 72
abbrev k_Hours_holds : Nat := 73
abbrev k_Hours_mark : Nat := 74
abbrev k_Hours_shutBit : Nat := 75
abbrev k_Hours_wet : Nat := 76
abbrev k_Br_tapeWasRead : Nat := 77
abbrev k_Br_rate : Nat := 78
abbrev k_Rate_read : Nat := 79
abbrev k_Rate_sum : Nat := 80
abbrev k_Rate_product : Nat := 81
abbrev k_Rate_one : Nat := 82
abbrev k_Rate_opens : Nat := 83
abbrev k_Rate_letter : Nat := 84
abbrev k_Rate_held : Nat := 85
abbrev k_Tape_copyFrom : Nat := 86
abbrev k_Br_fault : Nat := 87
abbrev k_Br_world : Nat := 88
abbrev k_Hours_isOpen : Nat := 89
abbrev k_Hours_haul : Nat := 90
abbrev k_Hours_isShut : Nat := 91
abbrev k_Br_run : Nat := 92
abbrev k_Br_isPaved : Nat := 93
abbrev k_Br_canBePaved : Nat := 94
abbrev k_Plants_make : Nat := 95
abbrev k_Paving_isDone : Nat := 96
abbrev k_Paving_clear : Nat := 97
abbrev k_Haulage_begin : Nat := 98
abbrev k_Loads_clear : Nat := 99
abbrev k_Haulage_makeMix : Nat := 100
abbrev k_Haulage_comeIn : Nat := 101
abbrev k_Haulage_servePlant : Nat := 102
abbrev k_Haulage_beginFilling : Nat := 103
abbrev k_Haulage_firstStanding : Nat := 104
abbrev k_Loads_of : Nat := 105
abbrev k_Loads_note : Nat := 106
abbrev k_Haulage_orderLoads : Nat := 107
abbrev k_Haulage_nextToOrder : Nat := 108
abbrev k_Haulage_orderLoad : Nat := 109
abbrev k_Road_kindOf : Nat := 110
abbrev k_Haulage_leastSent : Nat := 111
abbrev k_Loads_add : Nat := 112
abbrev k_Arrays_copyOf : Nat := 113
abbrev k_Paving_pave : Nat := 114
abbrev k_Paving_isFirmBelow : Nat := 115
abbrev k_Cooling_meanBehind : Nat := 116
abbrev k_Cooling_cool : Nat := 117
abbrev k_Paving_layOut : Nat := 118
abbrev k_Cooling_begin : Nat := 119
abbrev k_Paving_takeLoad : Nat := 120
abbrev k_Haulage_unload : Nat := 121
abbrev k_Haulage_orderAgain : Nat := 122
abbrev k_Loads_noteLaid : Nat := 123
abbrev k_Br_pace : Nat := 124
abbrev k_Br_tryPace : Nat := 125
abbrev k_Br_isTrialBetter : Nat := 126
abbrev k_Br_fewest : Nat := 127
abbrev k_Br_neverStops : Nat := 128
abbrev k_Br_load : Nat := 129
abbrev k_Br_tonne : Nat := 130
abbrev k_Loads_ofTonne : Nat := 131
abbrev k_Br_laid : Nat := 132
abbrev k_Rolling_roll : Nat := 133
abbrev k_Rolling_beginPass : Nat := 134
abbrev k_Rolling_mayBegin : Nat := 135
abbrev k_Cooling_meanAt : Nat := 136
abbrev k_Br_isColdJoint : Nat := 137
abbrev k_Br_denseOf : Nat := 138
abbrev k_Rolling_missedOn : Nat := 139
abbrev k_Rolling_missed : Nat := 140
abbrev k_Br_mean : Nat := 141
abbrev k_Br_tells : Nat := 142
abbrev k_Br_isTold : Nat := 143
abbrev k_Rate_tell : Nat := 144
abbrev k_Br_pay : Nat := 145
abbrev k_Br_draw : Nat := 146
abbrev k_Br_core : Nat := 147
abbrev k_Br_about : Nat := 148
abbrev k_Road_allTonnes : Nat := 149
abbrev k_Mo_init : Nat := 150
abbrev k_Mo_section : Nat := 151
abbrev k_Mo_isIn : Nat := 152
abbrev k_Mo_even : Nat := 153
abbrev k_Mo_levels : Nat := 154
abbrev k_Mo_find : Nat := 155
abbrev k_Mo_costOf : Nat := 156
abbrev k_Mo_restOf : Nat := 157
abbrev k_Mo_bestOf : Nat := 158
abbrev k_Mo_level : Nat := 159
abbrev k_Mo_layer : Nat := 160
abbrev k_Mo_job : Nat := 161
abbrev k_Mo_hasJobs : Nat := 162
abbrev k_Mo_plant : Nat := 163
abbrev k_Mo_trucks : Nat := 164
abbrev k_Mo_heat : Nat := 165
abbrev k_Mo_weather : Nat := 166
abbrev k_Mo_roller : Nat := 167
abbrev k_Mo_sort : Nat := 168
abbrev k_Mo_feed : Nat := 169
abbrev k_Mo_four : Nat := 170
abbrev k_Mo_end : Nat := 171
abbrev k_Mo_hours : Nat := 172
abbrev k_Mo_readHours : Nat := 173
abbrev k_Mo_nextToken : Nat := 174
abbrev k_Mo_see : Nat := 175
abbrev k_Mo_isDigit : Nat := 176
abbrev k_Mo_isLetter : Nat := 177
abbrev k_Mo_clause : Nat := 178
abbrev k_Mo_wordOf : Nat := 179
abbrev k_Mo_add : Nat := 180
abbrev k_Mo_inClause : Nat := 181
abbrev k_Mo_take : Nat := 182
abbrev k_Mo_need : Nat := 183
abbrev k_Mo_isTold : Nat := 184
abbrev k_Mo_fault : Nat := 185
abbrev k_Mo_world : Nat := 186
abbrev k_Mo_manyWorlds : Nat := 187
abbrev k_Mo_isOpen : Nat := 188
abbrev k_Mo_holds : Nat := 189
abbrev k_Mo_haulOf : Nat := 190
abbrev k_Mo_isShut : Nat := 191
abbrev k_Mo_run : Nat := 192
abbrev k_Mo_isRun : Nat := 193
abbrev k_Mo_goes : Nat := 194
abbrev k_Mo_hasPlants : Nat := 195
abbrev k_Mo_begin : Nat := 196
abbrev k_Mo_comeIn : Nat := 197
abbrev k_Mo_plantsGo : Nat := 198
abbrev k_Mo_firstAtPlant : Nat := 199
abbrev k_Mo_order : Nat := 200
abbrev k_Mo_plantFor : Nat := 201
abbrev k_Mo_sentTo : Nat := 202
abbrev k_Mo_paves : Nat := 203
abbrev k_Mo_isFirm : Nat := 204
abbrev k_Mo_meanOf : Nat := 205
abbrev k_Mo_firstWaiting : Nat := 206
abbrev k_Mo_takes : Nat := 207
abbrev k_Mo_cool : Nat := 208
abbrev k_Mo_pace : Nat := 209
abbrev k_Mo_goInAll : Nat := 210
abbrev k_Mo_fewest : Nat := 211
abbrev k_Mo_load : Nat := 212
abbrev k_Mo_tonne : Nat := 213
abbrev k_Mo_mean : Nat := 214
abbrev k_Mo_laid : Nat := 215
abbrev k_Mo_roll : Nat := 216
abbrev k_Mo_settle : Nat := 217
abbrev k_Mo_rollOne : Nat := 218
abbrev k_Mo_mayRoll : Nat := 219
abbrev k_Mo_isCold : Nat := 220
abbrev k_Mo_denseOf : Nat := 221
abbrev k_Mo_missedOf : Nat := 222
abbrev k_Mo_rate : Nat := 223
abbrev k_Mo_readRate : Nat := 224
abbrev k_Mo_behindOne : Nat := 225
abbrev k_Mo_settleTo : Nat := 226
abbrev k_Mo_emit : Nat := 227
abbrev k_Mo_push : Nat := 228
abbrev k_Mo_whole : Nat := 229
abbrev k_Mo_beginOne : Nat := 230
abbrev k_Mo_letterOf : Nat := 231
abbrev k_Mo_tells : Nat := 232
abbrev k_Mo_isSmall : Nat := 233
abbrev k_Mo_work : Nat := 234
abbrev k_Mo_act : Nat := 235
abbrev k_Mo_clip : Nat := 236
abbrev k_Mo_pay : Nat := 237
abbrev k_Mo_isDrawn : Nat := 238
abbrev k_Mo_core : Nat := 239
abbrev k_Mo_about : Nat := 240
abbrev k_Lw_law : Nat := 241
end
section
/-! the tables' words by their places in tables_1; the methods' names, codes, answers: printed by wip/tools/tabs.py -/
def CN : List String := [RX0, RX1, RX2, RX3, RX4, RX5, RX6, RX7, RX8, RX9, RX10, RX11, RX12, RL, RJ9, RJ7, RJ0, RJ1, RJ3]
def cn (k : Nat) : String := (gl CN k).getD ""
def YN : List MethodName := [yX11_init, yX7_init, yX5_init, yX10_init, yX9_init, yX2_init, yJ7_fill_53178, yX6_init, yX9_addFour, yX11_set, yX3_init, yX0_init, yX1_init, yX4_init, yX8_init, yX11_section, yX11_isFrom, yX7_addSection, yX7_settle, yX7_weighHeights, yX7_costFrom, yX11_at, yX7_cheapest, yX7_chooseLevels, yX7_measureJobs, yX7_jobs, yX7_sectionOf, yX7_layerOf, yX11_cut, yX11_changed, yX4_forget, yX11_even, yX11_levels, yX11_level, yX11_layer, yX7_addLayer, yX11_job, yX11_plant, yX5_add, yX11_trucks, yX11_heat, yX11_weather, yX11_roller, yX8_add, yX11_sort, yX8_setSort, yX11_feed, yX11_end, yX11_hours, yX2_read, yX2_scan, yX9_start, yX9_next, yX9_isBlank, yX9_isLetter, yX9_isDigit, yX9_isSound, yX2_passClause, yX2_kindOf, yX9_isWord, yJ0_length_8abf5, yJ0_coder_7d493, yJ0_charAt_5068e, yJ0_isLatin1_aae02, yJ1_charAt_3b067, yJ0_checkIndex_df160, yJ3_checkIndex_8e157, yX9_fail, yX9_passNumber, yX9_passWord, yX9_passSign, yX9_isSign, yX2_markWorld, yX2_holds, yX2_mark, yX2_shutBit, yX2_wet, yX11_tapeWasRead, yX11_rate, yX6_read, yX6_sum, yX6_product, yX6_one, yX6_opens, yX6_letter, yX6_held, yX9_copyFrom, yX11_fault, yX11_world, yX2_isOpen, yX2_haul, yX2_isShut, yX11_run, yX11_isPaved, yX11_canBePaved, yX5_make, yX4_isDone, yX4_clear, yX1_begin, yX3_clear, yX1_makeMix, yX1_comeIn, yX1_servePlant, yX1_beginFilling, yX1_firstStanding, yX3_of, yX3_note, yX1_orderLoads, yX1_nextToOrder, yX1_orderLoad, yX7_kindOf, yX1_leastSent, yX3_add, yJ7_copyOf_59c91, yX4_pave, yX4_isFirmBelow, yX0_meanBehind, yX0_cool, yX4_layOut, yX0_begin, yX4_takeLoad, yX1_unload, yX1_orderAgain, yX3_noteLaid, yX11_pace, yX11_tryPace, yX11_isTrialBetter, yX11_fewest, yX11_neverStops, yX11_load, yX11_tonne, yX3_ofTonne, yX11_laid, yX8_roll, yX8_beginPass, yX8_mayBegin, yX0_meanAt, yX11_isColdJoint, yX11_denseOf, yX8_missedOn, yX8_missed, yX11_mean, yX11_tells, yX11_isTold, yX6_tell, yX11_pay, yX11_draw, yX11_core, yX11_about, yX7_allTonnes, yX12_init, yX12_section, yX12_isIn, yX12_even, yX12_levels, yX12_find, yX12_costOf, yX12_restOf, yX12_bestOf, yX12_level, yX12_layer, yX12_job, yX12_hasJobs, yX12_plant, yX12_trucks, yX12_heat, yX12_weather, yX12_roller, yX12_sort, yX12_feed, yX12_four, yX12_end, yX12_hours, yX12_readHours, yX12_nextToken, yX12_see, yX12_isDigit, yX12_isLetter, yX12_clause, yX12_wordOf, yX12_add, yX12_inClause, yX12_take, yX12_need, yX12_isTold, yX12_fault, yX12_world, yX12_manyWorlds, yX12_isOpen, yX12_holds, yX12_haulOf, yX12_isShut, yX12_run, yX12_isRun, yX12_goes, yX12_hasPlants, yX12_begin, yX12_comeIn, yX12_plantsGo, yX12_firstAtPlant, yX12_order, yX12_plantFor, yX12_sentTo, yX12_paves, yX12_isFirm, yX12_meanOf, yX12_firstWaiting, yX12_takes, yX12_cool, yX12_pace, yX12_goInAll, yX12_fewest, yX12_load, yX12_tonne, yX12_mean, yX12_laid, yX12_roll, yX12_settle, yX12_rollOne, yX12_mayRoll, yX12_isCold, yX12_denseOf, yX12_missedOf, yX12_rate, yX12_readRate, yX12_behindOne, yX12_settleTo, yX12_emit, yX12_push, yX12_whole, yX12_beginOne, yX12_letterOf, yX12_tells, yX12_isSmall, yX12_work, yX12_act, yX12_clip, yX12_pay, yX12_isDrawn, yX12_core, yX12_about, x]
def yn (y : Nat) : MethodName := (gl YN y).getD x
def YC : List ByteArray := [prog_1_method_1_code, prog_9_method_1_code, prog_7_method_1_code, prog_12_method_1_code, prog_11_method_1_code, prog_4_method_1_code, prog_21_method_103_code, prog_8_method_1_code, prog_11_method_2_code, prog_1_method_44_code, prog_5_method_1_code, prog_2_method_1_code, prog_3_method_1_code, prog_6_method_1_code, prog_10_method_1_code, prog_1_method_2_code, prog_1_method_42_code, prog_9_method_2_code, prog_9_method_9_code, prog_9_method_10_code, prog_9_method_11_code, prog_1_method_43_code, prog_9_method_12_code, prog_9_method_13_code, prog_9_method_14_code, prog_9_method_4_code, prog_9_method_5_code, prog_9_method_6_code, prog_1_method_45_code, prog_1_method_31_code, prog_6_method_2_code, prog_1_method_3_code, prog_1_method_4_code, prog_1_method_5_code, prog_1_method_6_code, prog_9_method_3_code, prog_1_method_7_code, prog_1_method_8_code, prog_7_method_2_code, prog_1_method_9_code, prog_1_method_10_code, prog_1_method_11_code, prog_1_method_12_code, prog_10_method_2_code, prog_1_method_13_code, prog_10_method_3_code, prog_1_method_14_code, prog_1_method_15_code, prog_1_method_16_code, prog_4_method_2_code, prog_4_method_3_code, prog_11_method_4_code, prog_11_method_5_code, prog_11_method_13_code, prog_11_method_14_code, prog_11_method_15_code, prog_11_method_6_code, prog_4_method_4_code, prog_4_method_5_code, prog_11_method_8_code, prog_17_method_54_code, prog_17_method_152_code, prog_17_method_56_code, prog_17_method_154_code, prog_18_method_2_code, prog_17_method_155_code, prog_22_method_11_code, prog_11_method_9_code, prog_11_method_12_code, prog_11_method_11_code, prog_11_method_10_code, prog_11_method_7_code, prog_4_method_7_code, prog_4_method_6_code, prog_4_method_8_code, prog_4_method_10_code, prog_4_method_9_code, prog_1_method_32_code, prog_1_method_17_code, prog_8_method_2_code, prog_8_method_4_code, prog_8_method_5_code, prog_8_method_6_code, prog_8_method_7_code, prog_8_method_8_code, prog_8_method_9_code, prog_11_method_3_code, prog_1_method_18_code, prog_1_method_19_code, prog_4_method_11_code, prog_4_method_13_code, prog_4_method_12_code, prog_1_method_20_code, prog_1_method_33_code, prog_1_method_34_code, prog_7_method_3_code, prog_6_method_3_code, prog_6_method_4_code, prog_3_method_2_code, prog_5_method_2_code, prog_3_method_3_code, prog_3_method_4_code, prog_3_method_5_code, prog_3_method_6_code, prog_3_method_7_code, prog_5_method_4_code, prog_5_method_5_code, prog_3_method_8_code, prog_3_method_9_code, prog_3_method_10_code, prog_9_method_7_code, prog_3_method_11_code, prog_5_method_3_code, prog_21_method_123_code, prog_6_method_5_code, prog_6_method_6_code, prog_2_method_4_code, prog_2_method_5_code, prog_6_method_8_code, prog_2_method_2_code, prog_6_method_7_code, prog_3_method_12_code, prog_3_method_13_code, prog_5_method_6_code, prog_1_method_21_code, prog_1_method_35_code, prog_1_method_36_code, prog_1_method_22_code, prog_1_method_37_code, prog_1_method_23_code, prog_1_method_24_code, prog_5_method_7_code, prog_1_method_25_code, prog_10_method_6_code, prog_10_method_7_code, prog_10_method_8_code, prog_2_method_3_code, prog_1_method_38_code, prog_1_method_39_code, prog_10_method_5_code, prog_10_method_4_code, prog_1_method_26_code, prog_1_method_27_code, prog_1_method_41_code, prog_8_method_3_code, prog_1_method_28_code, prog_1_method_40_code, prog_1_method_29_code, prog_1_method_30_code, prog_9_method_8_code, prog_14_method_1_code, prog_14_method_3_code, prog_14_method_2_code, prog_14_method_4_code, prog_14_method_9_code, prog_14_method_8_code, prog_14_method_5_code, prog_14_method_7_code, prog_14_method_6_code, prog_14_method_10_code, prog_14_method_11_code, prog_14_method_13_code, prog_14_method_12_code, prog_14_method_14_code, prog_14_method_15_code, prog_14_method_16_code, prog_14_method_17_code, prog_14_method_18_code, prog_14_method_19_code, prog_14_method_21_code, prog_14_method_20_code, prog_14_method_22_code, prog_14_method_35_code, prog_14_method_33_code, prog_14_method_26_code, prog_14_method_23_code, prog_14_method_25_code, prog_14_method_24_code, prog_14_method_32_code, prog_14_method_28_code, prog_14_method_27_code, prog_14_method_31_code, prog_14_method_29_code, prog_14_method_30_code, prog_14_method_34_code, prog_14_method_36_code, prog_14_method_42_code, prog_14_method_41_code, prog_14_method_40_code, prog_14_method_37_code, prog_14_method_38_code, prog_14_method_39_code, prog_14_method_57_code, prog_14_method_56_code, prog_14_method_55_code, prog_14_method_43_code, prog_14_method_54_code, prog_14_method_46_code, prog_14_method_47_code, prog_14_method_44_code, prog_14_method_50_code, prog_14_method_49_code, prog_14_method_48_code, prog_14_method_53_code, prog_14_method_51_code, prog_14_method_64_code, prog_14_method_45_code, prog_14_method_52_code, prog_14_method_63_code, prog_14_method_59_code, prog_14_method_58_code, prog_14_method_60_code, prog_14_method_61_code, prog_14_method_62_code, prog_14_method_65_code, prog_14_method_73_code, prog_14_method_69_code, prog_14_method_66_code, prog_14_method_68_code, prog_14_method_67_code, prog_14_method_70_code, prog_14_method_72_code, prog_14_method_71_code, prog_14_method_82_code, prog_14_method_81_code, prog_14_method_80_code, prog_14_method_77_code, prog_14_method_74_code, prog_14_method_75_code, prog_14_method_76_code, prog_14_method_79_code, prog_14_method_78_code, prog_14_method_87_code, prog_14_method_86_code, prog_14_method_85_code, prog_14_method_84_code, prog_14_method_83_code, prog_14_method_89_code, prog_14_method_88_code, prog_14_method_90_code, prog_14_method_91_code, code]
def yc (y : Nat) : ByteArray := (gl YC y).getD code
def YR : List (Option FieldType) := [none, none, none, none, none, none, none, none, none, none, none, none, none, none, none, some .int, some .boolean, some .int, none, none, some .int, some .int, some .int, none, none, some .int, some .int, some .int, some .int, none, none, some .boolean, some .int, some .int, some .int, some .int, some .int, some .int, some .int, some .boolean, some .boolean, some .boolean, some .int, some .int, some .boolean, none, some .int, some .int, some .int, some .boolean, none, none, none, some .boolean, some .boolean, some .boolean, some .boolean, none, some .int, some .boolean, some .int, some .byte, some .char, some .boolean, some .char, none, some .int, none, some .int, none, none, some .boolean, none, some .boolean, none, some .int, none, none, some .boolean, some .boolean, some .long, some .long, some .long, some .boolean, some .long, some .long, none, some .int, some .int, some .boolean, some .int, some .boolean, some .int, some .boolean, some .boolean, some .boolean, some .boolean, none, none, none, none, none, none, none, some .int, some .int, none, none, some .int, none, some .int, some .int, some .int, some (.array .int), none, some .boolean, some .int, some .int, some .int, none, some .boolean, some .int, none, none, some .int, some .boolean, some .boolean, some .int, some .boolean, some .int, some .int, some .int, some .int, none, none, some .boolean, some .int, some .boolean, some .int, some .int, some .int, some .int, some .int, some .boolean, some .long, some .long, none, some .int, some .int, some .int, none, some .int, some .boolean, some .boolean, some .int, some .int, some .int, some .int, some .int, some .int, some .int, some .int, some .boolean, some .int, some .boolean, some .boolean, some .boolean, some .int, some .boolean, some .int, none, some .int, some .int, some .int, none, some .int, some .boolean, some .boolean, some .int, some .int, some .long, some .int, some .int, some .int, some .boolean, some .int, some .int, some .int, some .boolean, some .boolean, some .int, some .boolean, some .int, some .boolean, some .boolean, some .boolean, none, none, none, some .int, none, some .int, some .int, none, some .boolean, some .int, some .int, none, none, some .int, some .boolean, some .int, some .int, some .int, some .int, some .int, none, none, none, some .boolean, some .boolean, some .int, some .int, some .boolean, some .int, some .int, none, none, none, none, some .int, some .int, some .int, some .boolean, some .int, some .long, some .long, some .long, some .boolean, some .int, some .int, some .boolean]
def yr (y : Nat) : Option FieldType := (gl YR y).getD none
def RTY : List Nat := [4, 4, 4, 4, 4, 4, 4, 4, 4, 4, 4, 4, 4, 4, 4, 0, 1, 0, 4, 4, 0, 0, 0, 4, 4, 0, 0, 0, 0, 4, 4, 1, 0, 0, 0, 0, 0, 0, 0, 1, 1, 1, 0, 0, 1, 4, 0, 0, 0, 1, 4, 4, 4, 1, 1, 1, 1, 4, 0, 1, 0, 2, 2, 1, 2, 4, 0, 4, 0, 4, 4, 1, 4, 1, 4, 0, 4, 4, 1, 1, 3, 3, 3, 1, 3, 3, 4, 0, 0, 1, 0, 1, 0, 1, 1, 1, 1, 4, 4, 4, 4, 4, 4, 4, 0, 0, 4, 4, 0, 4, 0, 0, 0, 5, 4, 1, 0, 0, 0, 4, 1, 0, 4, 4, 0, 1, 1, 0, 1, 0, 0, 0, 0, 4, 4, 1, 0, 1, 0, 0, 0, 0, 0, 1, 3, 3, 4, 0, 0, 0, 4, 0, 1, 1, 0, 0, 0, 0, 0, 0, 0, 0, 1, 0, 1, 1, 1, 0, 1, 0, 4, 0, 0, 0, 4, 0, 1, 1, 0, 0, 3, 0, 0, 0, 1, 0, 0, 0, 1, 1, 0, 1, 0, 1, 1, 1, 4, 4, 4, 0, 4, 0, 0, 4, 1, 0, 0, 4, 4, 0, 1, 0, 0, 0, 0, 0, 4, 4, 4, 1, 1, 0, 0, 1, 0, 0, 4, 4, 4, 4, 0, 0, 0, 1, 0, 3, 3, 3, 1, 0, 0, 1]
def rty (y : Nat) : Nat := (gl RTY y).getD 9
def YO : List Nat := [11, 7, 5, 10, 9, 2, 15, 6, 9, 11, 3, 0, 1, 4, 8, 11, 11, 7, 7, 7, 7, 11, 7, 7, 7, 7, 7, 7, 11, 11, 4, 11, 11, 11, 11, 7, 11, 11, 5, 11, 11, 11, 11, 8, 11, 8, 11, 11, 11, 2, 2, 9, 9, 9, 9, 9, 9, 2, 2, 9, 16, 16, 16, 16, 17, 16, 18, 9, 9, 9, 9, 9, 2, 2, 2, 2, 2, 11, 11, 6, 6, 6, 6, 6, 6, 6, 9, 11, 11, 2, 2, 2, 11, 11, 11, 5, 4, 4, 1, 3, 1, 1, 1, 1, 1, 3, 3, 1, 1, 1, 7, 1, 3, 15, 4, 4, 0, 0, 4, 0, 4, 1, 1, 3, 11, 11, 11, 11, 11, 11, 11, 3, 11, 8, 8, 8, 0, 11, 11, 8, 8, 11, 11, 11, 6, 11, 11, 11, 11, 7, 12, 12, 12, 12, 12, 12, 12, 12, 12, 12, 12, 12, 12, 12, 12, 12, 12, 12, 12, 12, 12, 12, 12, 12, 12, 12, 12, 12, 12, 12, 12, 12, 12, 12, 12, 12, 12, 12, 12, 12, 12, 12, 12, 12, 12, 12, 12, 12, 12, 12, 12, 12, 12, 12, 12, 12, 12, 12, 12, 12, 12, 12, 12, 12, 12, 12, 12, 12, 12, 12, 12, 12, 12, 12, 12, 12, 12, 12, 12, 12, 12, 12, 12, 12, 12, 12, 12, 12, 12, 12, 12, 13]
def yo (y : Nat) : Nat := (gl YO y).getD 99
def YIN : List Bool := [true, true, true, true, true, true, false, true, false, false, true, true, true, true, true, false, false, false, false, false, false, false, false, false, false, false, false, false, false, false, false, false, false, false, false, false, false, false, false, false, false, false, false, false, false, false, false, false, false, false, false, false, false, false, false, false, false, false, false, false, false, false, false, false, false, false, false, false, false, false, false, false, false, false, false, false, false, false, false, false, false, false, false, false, false, false, false, false, false, false, false, false, false, false, false, false, false, false, false, false, false, false, false, false, false, false, false, false, false, false, false, false, false, false, false, false, false, false, false, false, false, false, false, false, false, false, false, false, false, false, false, false, false, false, false, false, false, false, false, false, false, false, false, false, false, false, false, false, false, false, true, false, false, false, false, false, false, false, false, false, false, false, false, false, false, false, false, false, false, false, false, false, false, false, false, false, false, false, false, false, false, false, false, false, false, false, false, false, false, false, false, false, false, false, false, false, false, false, false, false, false, false, false, false, false, false, false, false, false, false, false, false, false, false, false, false, false, false, false, false, false, false, false, false, false, false, false, false, false, false, false, false, false, false, false, false, false, false, false, false, false, false]
def yin (y : Nat) : Bool := (gl YIN y).getD false
def ml (y : Nat) : Nat := (gl MAXL y).getD 0
def na (y : Nat) : Nat := (gl NARG y).getD 0
def cT (c : Nat) : vw_C := (vwCl[c]?).getD (RX0, TX0, 7)
def FLL : List (Nat × Nat × Nat × Nat × Nat) := [(0, 9, 0, 0, 331), (0, 15, 0, 1, 335), (0, 18, 0, 2, 337), (0, 21, 0, 3, 338), (0, 24, 0, 4, 339), (0, 27, 0, 5, 340), (0, 31, 0, 6, 341), (0, 59, 7, 6, 45), (0, 68, 10, 5, 161), (0, 74, 10, 7, 167), (0, 77, 10, 6, 164), (0, 80, 10, 8, 170), (1, 9, 1, 4, 370), (1, 15, 1, 5, 371), (1, 18, 1, 6, 372), (1, 21, 1, 7, 373), (1, 25, 1, 8, 374), (1, 28, 1, 9, 375), (1, 31, 1, 10, 376), (1, 34, 1, 11, 377), (1, 37, 1, 12, 378), (1, 40, 1, 13, 379), (1, 43, 1, 14, 380), (1, 46, 1, 3, 369), (1, 50, 1, 0, 363), (1, 54, 1, 1, 365), (1, 58, 1, 2, 367), (1, 73, 5, 4, 117), (1, 84, 5, 2, 113), (1, 91, 5, 1, 111), (1, 118, 5, 3, 115), (1, 137, 7, 7, 50), (1, 147, 5, 6, 124), (1, 154, 5, 0, 109), (2, 11, 2, 0, 240), (2, 15, 2, 1, 241), (2, 18, 2, 2, 242), (2, 21, 2, 3, 243), (2, 24, 2, 4, 244), (2, 27, 2, 5, 245), (2, 30, 2, 6, 246), (2, 34, 2, 7, 248), (2, 37, 2, 8, 250), (2, 40, 2, 9, 251), (2, 72, 9, 2, 206), (3, 11, 3, 0, 311), (3, 15, 3, 1, 312), (3, 18, 3, 2, 313), (3, 22, 3, 3, 314), (4, 11, 4, 0, 418), (4, 15, 4, 1, 420), (4, 18, 4, 2, 422), (4, 22, 4, 7, 428), (4, 26, 4, 8, 429), (4, 29, 4, 9, 430), (4, 32, 4, 10, 431), (4, 35, 4, 11, 432), (4, 38, 4, 12, 433), (4, 41, 4, 13, 434), (4, 44, 4, 14, 435), (4, 47, 4, 15, 436), (4, 50, 4, 3, 424), (4, 54, 4, 4, 425), (4, 58, 4, 5, 426), (4, 62, 4, 6, 427), (4, 82, 1, 0, 364), (4, 86, 5, 4, 118), (4, 97, 1, 1, 366), (4, 135, 7, 8, 53), (4, 140, 0, 0, 332), (4, 148, 10, 3, 156), (4, 159, 1, 2, 368), (4, 170, 10, 0, 147), (4, 173, 10, 1, 150), (4, 183, 10, 2, 153), (4, 197, 7, 7, 49), (5, 9, 5, 0, 108), (5, 15, 5, 1, 110), (5, 18, 5, 2, 112), (5, 21, 5, 3, 114), (5, 24, 5, 4, 116), (5, 28, 5, 5, 120), (5, 31, 5, 6, 122), (6, 14, 6, 0, 289), (6, 20, 6, 1, 290), (6, 24, 6, 2, 291), (6, 27, 6, 3, 292), (6, 30, 6, 4, 293), (6, 37, 9, 1, 202), (6, 47, 9, 2, 205), (7, 11, 7, 0, 35), (7, 15, 7, 1, 37), (7, 18, 7, 2, 38), (7, 21, 7, 3, 40), (7, 24, 7, 4, 41), (7, 27, 7, 5, 42), (7, 30, 7, 6, 44), (7, 33, 7, 7, 47), (7, 36, 7, 8, 51), (7, 40, 7, 9, 54), (7, 43, 7, 10, 56), (7, 46, 7, 11, 58), (7, 49, 7, 12, 60), (7, 52, 7, 13, 62), (7, 55, 7, 14, 64), (7, 58, 7, 15, 66), (8, 9, 8, 0, 476), (8, 15, 8, 1, 477), (8, 18, 8, 2, 478), (8, 21, 8, 3, 479), (8, 24, 8, 4, 480), (8, 27, 8, 5, 481), (8, 30, 8, 6, 482), (8, 33, 8, 7, 483), (8, 36, 8, 10, 487), (8, 40, 8, 11, 488), (8, 43, 8, 8, 485), (8, 47, 8, 9, 486), (8, 69, 0, 0, 333), (8, 99, 7, 0, 36), (9, 9, 9, 1, 201), (9, 15, 9, 2, 204), (9, 18, 9, 3, 207), (9, 21, 9, 4, 208), (9, 24, 9, 5, 210), (9, 27, 9, 6, 212), (9, 30, 9, 7, 213), (9, 39, 9, 0, 200), (10, 7, 10, 0, 146), (10, 13, 10, 1, 149), (10, 16, 10, 2, 152), (10, 19, 10, 3, 155), (10, 22, 10, 4, 158), (10, 25, 10, 5, 160), (10, 28, 10, 6, 163), (10, 31, 10, 7, 166), (10, 34, 10, 8, 169), (11, 12, 11, 0, 516), (11, 19, 11, 1, 517), (11, 26, 11, 2, 518), (11, 35, 11, 3, 519), (11, 42, 11, 4, 520), (11, 49, 11, 5, 521), (11, 56, 11, 6, 522), (11, 65, 11, 7, 523), (11, 74, 11, 8, 524), (11, 83, 11, 9, 525), (11, 92, 11, 10, 526), (11, 96, 11, 11, 527), (11, 100, 11, 12, 528), (11, 103, 11, 13, 529), (11, 106, 11, 14, 530), (11, 109, 11, 15, 531), (11, 113, 11, 16, 532), (11, 116, 11, 17, 533), (11, 136, 7, 10, 57), (11, 139, 7, 11, 59), (11, 142, 7, 12, 61), (11, 145, 7, 13, 63), (11, 148, 7, 14, 65), (11, 154, 7, 15, 67), (11, 157, 7, 8, 52), (11, 160, 7, 2, 39), (11, 181, 7, 6, 46), (11, 184, 7, 7, 48), (11, 191, 5, 5, 121), (11, 194, 5, 6, 123), (11, 197, 10, 0, 148), (11, 200, 10, 1, 151), (11, 203, 10, 2, 154), (11, 206, 10, 3, 157), (11, 209, 10, 4, 159), (11, 212, 10, 5, 162), (11, 215, 10, 6, 165), (11, 218, 10, 7, 168), (11, 221, 10, 8, 171), (11, 230, 9, 1, 203), (11, 243, 2, 6, 247), (11, 247, 2, 7, 249), (11, 264, 3, 3, 315), (11, 265, 4, 0, 419), (11, 298, 4, 2, 423), (11, 304, 4, 1, 421), (11, 307, 0, 0, 334), (11, 310, 0, 1, 336), (11, 316, 8, 7, 484), (11, 348, 7, 9, 55), (11, 351, 5, 4, 119), (11, 352, 8, 11, 489), (11, 359, 9, 4, 209), (11, 362, 9, 5, 211), (11, 368, 7, 5, 43), (12, 7, 12, 1, 1245), (12, 13, 12, 2, 1246), (12, 16, 12, 3, 1247), (12, 20, 12, 4, 1248), (12, 23, 12, 5, 1249), (12, 26, 12, 6, 1250), (12, 29, 12, 7, 1251), (12, 32, 12, 9, 1253), (12, 35, 12, 10, 1254), (12, 38, 12, 11, 1255), (12, 41, 12, 12, 1256), (12, 44, 12, 15, 1259), (12, 47, 12, 16, 1260), (12, 50, 12, 18, 1262), (12, 53, 12, 19, 1263), (12, 56, 12, 20, 1264), (12, 59, 12, 21, 1265), (12, 62, 12, 22, 1266), (12, 65, 12, 23, 1267), (12, 68, 12, 24, 1268), (12, 71, 12, 25, 1269), (12, 74, 12, 26, 1270), (12, 77, 12, 27, 1271), (12, 80, 12, 28, 1272), (12, 83, 12, 29, 1273), (12, 86, 12, 30, 1274), (12, 89, 12, 31, 1275), (12, 92, 12, 32, 1276), (12, 95, 12, 34, 1278), (12, 98, 12, 35, 1279), (12, 101, 12, 36, 1280), (12, 104, 12, 37, 1281), (12, 107, 12, 38, 1282), (12, 110, 12, 39, 1283), (12, 113, 12, 41, 1285), (12, 116, 12, 42, 1286), (12, 119, 12, 52, 1296), (12, 122, 12, 53, 1297), (12, 125, 12, 54, 1298), (12, 128, 12, 55, 1299), (12, 131, 12, 56, 1300), (12, 134, 12, 58, 1302), (12, 137, 12, 59, 1303), (12, 140, 12, 60, 1304), (12, 143, 12, 61, 1305), (12, 146, 12, 62, 1306), (12, 149, 12, 64, 1308), (12, 152, 12, 65, 1309), (12, 155, 12, 66, 1310), (12, 158, 12, 67, 1311), (12, 161, 12, 68, 1312), (12, 164, 12, 69, 1313), (12, 167, 12, 70, 1314), (12, 170, 12, 71, 1315), (12, 173, 12, 81, 1325), (12, 176, 12, 82, 1326), (12, 179, 12, 83, 1327), (12, 182, 12, 84, 1328), (12, 185, 12, 85, 1329), (12, 188, 12, 86, 1330), (12, 191, 12, 87, 1331), (12, 194, 12, 88, 1332), (12, 197, 12, 89, 1333), (12, 201, 12, 90, 1334), (12, 204, 12, 96, 1340), (12, 208, 12, 97, 1341), (12, 211, 12, 98, 1342), (12, 214, 12, 99, 1343), (12, 217, 12, 100, 1344), (12, 220, 12, 101, 1345), (12, 223, 12, 102, 1346), (12, 226, 12, 103, 1347), (12, 229, 12, 104, 1348), (12, 232, 12, 106, 1350), (12, 235, 12, 107, 1351), (12, 238, 12, 112, 1356), (12, 241, 12, 113, 1357), (12, 245, 12, 114, 1358), (12, 248, 12, 105, 1349), (12, 255, 12, 0, 1244), (12, 273, 12, 8, 1252), (12, 276, 12, 13, 1257), (12, 279, 12, 14, 1258), (12, 288, 12, 17, 1261), (12, 291, 12, 33, 1277), (12, 294, 12, 40, 1284), (12, 301, 12, 43, 1287), (12, 308, 12, 44, 1288), (12, 311, 12, 45, 1289), (12, 318, 12, 46, 1290), (12, 324, 12, 47, 1291), (12, 334, 12, 57, 1301), (12, 349, 12, 50, 1294), (12, 352, 12, 51, 1295), (12, 367, 12, 48, 1292), (12, 370, 12, 49, 1293), (12, 390, 12, 63, 1307), (12, 393, 12, 91, 1335), (12, 405, 12, 72, 1316), (12, 408, 12, 74, 1318), (12, 414, 12, 79, 1323), (12, 417, 12, 80, 1324), (12, 420, 12, 75, 1319), (12, 423, 12, 73, 1317), (12, 426, 12, 92, 1336), (12, 439, 12, 78, 1322), (12, 442, 12, 77, 1321), (12, 448, 12, 76, 1320), (12, 475, 12, 93, 1337), (12, 478, 12, 94, 1338), (12, 481, 12, 95, 1339), (12, 509, 12, 108, 1352), (12, 512, 12, 110, 1354), (12, 515, 12, 109, 1353), (12, 535, 12, 111, 1355)]
def MLL : List (Nat × Nat × Nat × Nat × Nat) := [(0, 35, 9, 1, 1083), (0, 39, 21, 1, 1076), (0, 43, 116, 0, 1175), (0, 55, 117, 0, 1077), (0, 65, 28, 1, 1082), (1, 62, 99, 0, 979), (1, 67, 6, 0, 983), (1, 78, 91, 0, 988), (1, 87, 21, 1, 989), (1, 100, 9, 1, 991), (1, 104, 90, 0, 1000), (1, 108, 103, 0, 1001), (1, 112, 104, 0, 1005), (1, 115, 105, 0, 1009), (1, 121, 106, 0, 1014), (1, 125, 108, 0, 1023), (1, 129, 109, 0, 1028), (1, 132, 25, 0, 1027), (1, 140, 110, 0, 1032), (1, 144, 111, 0, 1036), (1, 150, 112, 0, 1040), (2, 43, 6, 0, 237), (2, 49, 50, 0, 724), (2, 53, 56, 0, 748), (2, 65, 72, 0, 846), (2, 69, 51, 0, 728), (2, 75, 57, 0, 752), (2, 78, 58, 0, 756), (2, 82, 67, 0, 816), (2, 85, 52, 0, 820), (2, 91, 68, 0, 822), (2, 96, 69, 0, 830), (2, 102, 70, 0, 836), (2, 106, 9, 1, 844), (2, 112, 59, 0, 760), (2, 124, 21, 1, 850), (2, 128, 73, 0, 851), (2, 132, 74, 0, 855), (2, 136, 75, 0, 859), (2, 140, 76, 0, 862), (3, 31, 113, 0, 1045), (3, 37, 106, 0, 1059), (3, 41, 21, 1, 1013), (3, 45, 9, 1, 1018), (3, 49, 105, 0, 1150), (4, 66, 97, 0, 969), (4, 69, 98, 0, 975), (4, 75, 100, 0, 984), (4, 79, 101, 0, 992), (4, 91, 102, 0, 996), (4, 94, 107, 0, 1019), (4, 101, 89, 0, 1060), (4, 107, 114, 0, 1061), (4, 110, 6, 0, 973), (4, 116, 9, 1, 974), (4, 120, 115, 0, 1065), (4, 124, 118, 0, 1084), (4, 128, 120, 0, 1094), (4, 131, 21, 1, 1069), (4, 145, 116, 0, 1070), (4, 155, 104, 0, 1098), (4, 163, 121, 0, 1099), (4, 167, 105, 0, 1103), (4, 176, 28, 1, 1104), (4, 179, 106, 0, 1105), (4, 186, 122, 0, 1106), (4, 194, 123, 0, 1110), (4, 200, 119, 0, 1089), (4, 202, 25, 0, 1093), (5, 34, 9, 1, 677), (5, 38, 21, 1, 964), (6, 11, 4, 0, 280), (6, 34, 8, 0, 282), (6, 40, 51, 0, 879), (6, 43, 80, 0, 880), (6, 50, 67, 0, 898), (6, 53, 56, 0, 912), (6, 57, 86, 0, 924), (6, 61, 81, 0, 884), (6, 64, 71, 0, 893), (6, 68, 52, 0, 899), (6, 71, 85, 0, 919), (6, 75, 82, 0, 888), (6, 78, 68, 0, 892), (6, 82, 83, 0, 894), (6, 88, 59, 0, 901), (6, 94, 84, 0, 903), (6, 98, 70, 0, 911), (7, 61, 9, 1, 582), (7, 65, 18, 0, 583), (7, 68, 28, 1, 627), (7, 72, 27, 0, 623), (7, 76, 21, 1, 595), (7, 80, 25, 0, 615), (7, 84, 19, 0, 587), (7, 87, 23, 0, 607), (7, 90, 24, 0, 611), (7, 93, 20, 0, 591), (7, 97, 22, 0, 599), (7, 109, 26, 0, 619), (8, 51, 9, 1, 698), (8, 55, 21, 1, 1161), (8, 59, 140, 0, 1191), (8, 63, 6, 0, 1159), (8, 74, 25, 0, 1160), (8, 80, 134, 0, 1162), (8, 84, 135, 0, 1166), (8, 88, 136, 0, 1171), (8, 91, 16, 1, 1170), (8, 102, 26, 0, 1177), (9, 43, 9, 1, 286), (9, 47, 21, 1, 736), (9, 51, 52, 0, 732), (9, 54, 53, 0, 737), (9, 58, 54, 0, 740), (9, 61, 55, 0, 743), (9, 68, 60, 0, 764), (9, 74, 62, 0, 774), (9, 78, 56, 0, 828), (9, 82, 71, 0, 840), (9, 86, 67, 0, 826), (9, 90, 59, 0, 834), (9, 94, 16, 1, 827), (11, 11, 1, 1, 31), (11, 18, 2, 1, 104), (11, 25, 3, 1, 142), (11, 32, 4, 0, 193), (11, 41, 5, 0, 233), (11, 48, 7, 0, 275), (11, 55, 10, 1, 307), (11, 62, 11, 0, 327), (11, 71, 12, 0, 359), (11, 80, 13, 0, 414), (11, 89, 14, 0, 472), (11, 119, 6, 0, 515), (11, 125, 16, 0, 575), (11, 129, 17, 0, 578), (11, 133, 29, 0, 632), (11, 151, 18, 0, 644), (11, 163, 21, 0, 653), (11, 167, 35, 0, 658), (11, 170, 25, 0, 666), (11, 174, 26, 0, 667), (11, 178, 27, 0, 668), (11, 187, 38, 0, 673), (11, 224, 43, 0, 694), (11, 226, 45, 0, 703), (11, 233, 8, 0, 711), (11, 236, 49, 0, 720), (11, 240, 77, 0, 866), (11, 246, 79, 0, 875), (11, 250, 89, 0, 936), (11, 254, 90, 0, 940), (11, 258, 91, 0, 944), (11, 261, 93, 0, 952), (11, 268, 94, 0, 956), (11, 272, 125, 0, 1118), (11, 276, 126, 0, 1124), (11, 285, 128, 0, 1133), (11, 288, 9, 0, 1123), (11, 292, 105, 0, 1141), (11, 295, 131, 0, 1146), (11, 301, 133, 0, 1155), (11, 313, 137, 0, 1178), (11, 319, 138, 0, 1183), (11, 322, 140, 0, 1195), (11, 325, 116, 0, 1200), (11, 328, 143, 0, 1205), (11, 332, 144, 0, 1211), (11, 338, 146, 0, 1220), (11, 342, 28, 0, 1225), (11, 345, 139, 0, 1187), (11, 353, 149, 0, 1234), (11, 356, 30, 0, 636), (11, 365, 96, 0, 965), (11, 371, 95, 0, 960), (11, 379, 136, 0, 1182), (12, 251, 152, 0, 1597), (12, 259, 156, 0, 1612), (12, 263, 157, 0, 1617), (12, 266, 158, 0, 1621), (12, 269, 155, 0, 1608), (12, 284, 162, 0, 1637), (12, 297, 170, 0, 1671), (12, 304, 175, 0, 1691), (12, 314, 176, 0, 1695), (12, 321, 177, 0, 1698), (12, 330, 180, 0, 1710), (12, 337, 174, 0, 1687), (12, 340, 179, 0, 1705), (12, 343, 182, 0, 1717), (12, 346, 183, 0, 1721), (12, 355, 181, 0, 1713), (12, 358, 178, 0, 1701), (12, 361, 173, 0, 1683), (12, 364, 184, 0, 1725), (12, 373, 189, 0, 1745), (12, 376, 187, 0, 1737), (12, 379, 188, 0, 1741), (12, 383, 190, 0, 1749), (12, 387, 191, 0, 1753), (12, 396, 199, 0, 1785), (12, 399, 202, 0, 1797), (12, 402, 201, 0, 1793), (12, 411, 205, 0, 1809), (12, 429, 204, 0, 1805), (12, 432, 206, 0, 1813), (12, 435, 207, 0, 1817), (12, 445, 208, 0, 1821), (12, 451, 195, 0, 1769), (12, 454, 196, 0, 1773), (12, 457, 197, 0, 1777), (12, 460, 198, 0, 1781), (12, 463, 200, 0, 1789), (12, 466, 203, 0, 1801), (12, 469, 194, 0, 1765), (12, 472, 193, 0, 1761), (12, 484, 210, 0, 1830), (12, 488, 219, 0, 1866), (12, 491, 217, 0, 1858), (12, 494, 218, 0, 1862), (12, 497, 222, 0, 1878), (12, 500, 220, 0, 1870), (12, 503, 216, 0, 1854), (12, 506, 221, 0, 1874), (12, 518, 227, 0, 1898), (12, 529, 231, 0, 1914), (12, 532, 229, 0, 1906), (12, 539, 228, 0, 1902), (12, 542, 226, 0, 1894), (12, 545, 225, 0, 1890), (12, 548, 230, 0, 1910), (12, 551, 224, 0, 1886), (12, 558, 236, 0, 1937), (12, 562, 235, 0, 1934), (12, 567, 233, 0, 1926), (12, 570, 234, 0, 1930), (12, 576, 238, 0, 1947), (13, 9, 0, 0, 23), (13, 12, 150, 0, 1240), (13, 13, 15, 0, 571), (13, 17, 151, 0, 1593), (13, 18, 31, 0, 640), (13, 22, 153, 0, 1600), (13, 23, 32, 0, 645), (13, 27, 154, 0, 1604), (13, 28, 33, 0, 649), (13, 32, 159, 0, 1625), (13, 33, 34, 0, 654), (13, 36, 160, 0, 1629), (13, 37, 36, 0, 662), (13, 40, 161, 0, 1633), (13, 41, 37, 0, 669), (13, 45, 163, 0, 1643), (13, 46, 39, 0, 678), (13, 50, 164, 0, 1647), (13, 51, 40, 0, 682), (13, 54, 165, 0, 1651), (13, 55, 41, 0, 686), (13, 59, 166, 0, 1655), (13, 60, 42, 0, 690), (13, 63, 167, 0, 1659), (13, 64, 44, 0, 699), (13, 67, 168, 0, 1663), (13, 68, 46, 0, 707), (13, 72, 169, 0, 1667), (13, 73, 47, 0, 712), (13, 76, 171, 0, 1675), (13, 77, 48, 0, 716), (13, 80, 172, 0, 1679), (13, 81, 78, 0, 871), (13, 85, 223, 0, 1882), (13, 86, 87, 0, 928), (13, 89, 185, 0, 1729), (13, 90, 88, 0, 932), (13, 94, 186, 0, 1733), (13, 95, 92, 0, 948), (13, 98, 192, 0, 1757), (13, 99, 124, 0, 1114), (13, 102, 209, 0, 1826), (13, 103, 127, 0, 1129), (13, 106, 211, 0, 1834), (13, 107, 129, 0, 1137), (13, 110, 212, 0, 1838), (13, 111, 130, 0, 1142), (13, 114, 213, 0, 1842), (13, 115, 132, 0, 1151), (13, 118, 215, 0, 1850), (13, 119, 141, 0, 1196), (13, 122, 214, 0, 1846), (13, 123, 142, 0, 1201), (13, 126, 232, 0, 1922), (13, 127, 145, 0, 1215), (13, 131, 237, 0, 1943), (13, 132, 147, 0, 1226), (13, 135, 239, 0, 1953), (13, 136, 148, 0, 1230), (13, 139, 240, 0, 1957), (16, 335, 61, 0, 768), (16, 492, 63, 0, 778), (16, 495, 64, 0, 782), (16, 1059, 66, 0, 790), (17, 9, 65, 0, 785)]
def CLL : List (Nat × Nat × Nat × Nat) := [(6, 9, 9, 279), (11, 9, 7, 29), (11, 16, 5, 102), (11, 23, 10, 140), (11, 30, 9, 191), (11, 39, 2, 231), (11, 46, 6, 273), (11, 53, 3, 305), (11, 60, 0, 325), (11, 69, 1, 357), (11, 78, 4, 412), (11, 87, 8, 470), (13, 7, 11, 21), (13, 10, 12, 1238)]
def KIL : List (Nat × Nat × Int × Nat) := [(11, 331, -2000000000, 1210), (11, 382, 1103515245, 1224), (11, 383, -1000000, 1208), (11, 384, 1000000, 1209), (0, 64, 400000, 1081), (6, 33, 1946157056, 281), (7, 96, 1000000, 598), (7, 112, 99999, 630), (7, 113, 100000, 631), (9, 64, 100000, 746), (12, 258, 1000000, 1616), (12, 282, 99999, 1641), (12, 283, 100000, 1642), (12, 487, 400000, 1825), (12, 566, -1000000, 1929), (12, 574, -2000000000, 1942), (12, 575, 1103515245, 1951)]
def KLL : List (Nat × Nat × Int × Nat) := [(11, 336, -1, 1219), (6, 113, -1000000000, 922), (6, 115, 1000000000, 923), (12, 328, 119, 1709), (12, 521, 116, 1918), (12, 523, 100, 1919), (12, 525, 106, 1920), (12, 527, 109, 1921), (12, 554, 1000000000, 1940), (12, 556, -1000000000, 1941), (12, 579, -1, 1952)]
def OBL : List (Nat × Nat × Nat) := [(0, 3, 330), (1, 3, 362), (2, 3, 236), (3, 3, 310), (4, 3, 417), (5, 3, 107), (6, 3, 278), (7, 5, 34), (8, 3, 475), (9, 3, 196), (10, 1, 145), (11, 3, 26), (12, 1, 1243)]
def ACL : List (Nat × Nat × Nat) := [(11, 279, 1128), (15, 150, 1056)]
def MAL : List (Nat × Nat × Nat × Nat) := [(0, 47, 2, 1074), (0, 52, 1, 1075), (1, 94, 2, 990), (2, 59, 1, 845), (2, 88, 2, 821), (3, 25, 2, 1044), (4, 189, 2, 1088), (6, 102, 4, 913), (6, 107, 3, 916), (7, 101, 1, 603), (7, 106, 2, 604), (8, 94, 1, 1176), (9, 33, 1, 197), (9, 65, 2, 747), (11, 374, 1, 1122), (15, 304, 2, 1055)]
def mthN (k : Nat) : MethodName := match k with
  | 1 => Lib.Math.max.name
  | 2 => Lib.Math.min.name
  | 3 => Lib.MathLoose.max_long.x
  | _ => Lib.MathLoose.min_long.x
def STL : List (Nat × Nat × Nat) := [(2, 110, 0), (2, 116, 1), (2, 118, 2), (2, 120, 3), (2, 122, 4), (2, 94, 5), (2, 100, 6), (6, 86, 7), (6, 92, 8), (6, 109, 9), (6, 110, 10), (6, 111, 11), (6, 112, 12)]
/-- places of: the code, static or instanceMethod, initialized -/
def YP : List (Nat × Nat × Nat) := [(25, 24, 1), (33, 32, 2), (106, 105, 3), (144, 143, 4), (195, 194, 5), (235, 234, 7), (239, 238, 8), (277, 276, 9), (285, 283, 5), (288, 287, 1), (309, 308, 10), (329, 328, 11), (361, 360, 12), (416, 415, 13), (474, 473, 14), (574, 572, 1), (577, 576, 1), (581, 579, 2), (586, 584, 2), (590, 589, 2), (594, 593, 2), (597, 596, 1), (602, 601, 2), (610, 609, 2), (614, 613, 2), (618, 616, 2), (622, 620, 2), (626, 624, 2), (629, 628, 1), (635, 634, 1), (639, 637, 13), (643, 641, 1), (648, 646, 1), (652, 650, 1), (657, 655, 1), (661, 659, 2), (665, 663, 1), (672, 670, 1), (676, 674, 3), (681, 679, 1), (685, 683, 1), (689, 687, 1), (693, 691, 1), (697, 695, 14), (702, 700, 1), (706, 704, 14), (710, 708, 1), (715, 713, 1), (719, 717, 1), (723, 721, 7), (727, 726, 7), (731, 729, 5), (735, 733, 5), (739, 738, 5), (742, 741, 5), (745, 744, 5), (751, 749, 5), (755, 754, 7), (758, 757, 7), (763, 761, 5), (767, 765, 16), (771, 769, 16), (777, 775, 16), (781, 779, 16), (784, 783, 17), (787, 786, 16), (792, 791, 18), (819, 817, 5), (825, 823, 5), (833, 831, 5), (839, 837, 5), (843, 841, 5), (849, 848, 7), (854, 853, 7), (858, 857, 7), (861, 860, 7), (865, 864, 7), (869, 868, 1), (874, 872, 1), (878, 876, 9), (883, 882, 9), (887, 886, 9), (891, 890, 9), (897, 896, 9), (906, 905, 9), (921, 920, 9), (927, 925, 5), (931, 929, 1), (935, 933, 1), (939, 937, 7), (943, 941, 7), (947, 945, 7), (951, 949, 1), (955, 954, 1), (959, 958, 1), (963, 961, 3), (968, 966, 13), (972, 971, 13), (978, 976, 12), (982, 980, 10), (987, 985, 12), (995, 993, 12), (999, 997, 12), (1004, 1003, 12), (1008, 1006, 12), (1012, 1010, 10), (1017, 1015, 10), (1022, 1020, 12), (1026, 1025, 12), (1031, 1030, 12), (1035, 1033, 2), (1039, 1038, 12), (1043, 1041, 10), (1047, 1046, 8), (1064, 1063, 13), (1068, 1067, 13), (1073, 1071, 11), (1080, 1079, 11), (1087, 1086, 13), (1092, 1090, 11), (1097, 1096, 13), (1102, 1100, 12), (1109, 1107, 12), (1113, 1111, 10), (1117, 1115, 1), (1121, 1120, 1), (1127, 1126, 1), (1132, 1130, 1), (1136, 1135, 1), (1140, 1138, 1), (1145, 1143, 1), (1149, 1147, 10), (1154, 1152, 1), (1158, 1156, 14), (1165, 1164, 14), (1169, 1168, 14), (1174, 1172, 11), (1181, 1180, 1), (1186, 1185, 1), (1190, 1188, 14), (1194, 1192, 14), (1199, 1197, 1), (1204, 1202, 1), (1207, 1206, 1), (1214, 1212, 9), (1218, 1216, 1), (1223, 1222, 1), (1229, 1227, 1), (1233, 1231, 1), (1237, 1235, 2), (1242, 1241, 15), (1596, 1594, 15), (1599, 1598, 15), (1603, 1601, 15), (1607, 1605, 15), (1611, 1610, 15), (1615, 1614, 15), (1620, 1619, 15), (1624, 1623, 15), (1628, 1626, 15), (1632, 1630, 15), (1636, 1634, 15), (1640, 1639, 15), (1646, 1644, 15), (1650, 1648, 15), (1654, 1652, 15), (1658, 1656, 15), (1662, 1660, 15), (1666, 1664, 15), (1670, 1668, 15), (1674, 1673, 15), (1678, 1676, 15), (1682, 1680, 15), (1686, 1685, 15), (1690, 1689, 15), (1694, 1693, 15), (1697, 1696, 15), (1700, 1699, 15), (1704, 1703, 15), (1708, 1707, 15), (1712, 1711, 15), (1716, 1715, 15), (1720, 1719, 15), (1724, 1723, 15), (1728, 1727, 15), (1732, 1730, 15), (1736, 1734, 15), (1740, 1739, 15), (1744, 1743, 15), (1748, 1747, 15), (1752, 1751, 15), (1756, 1755, 15), (1760, 1758, 15), (1764, 1763, 15), (1768, 1767, 15), (1772, 1771, 15), (1776, 1775, 15), (1780, 1779, 15), (1784, 1783, 15), (1788, 1787, 15), (1792, 1791, 15), (1796, 1795, 15), (1800, 1799, 15), (1804, 1803, 15), (1808, 1807, 15), (1812, 1811, 15), (1816, 1815, 15), (1820, 1819, 15), (1824, 1823, 15), (1829, 1827, 15), (1833, 1832, 15), (1837, 1835, 15), (1841, 1839, 15), (1845, 1843, 15), (1849, 1847, 15), (1853, 1851, 15), (1857, 1856, 15), (1861, 1860, 15), (1865, 1864, 15), (1869, 1868, 15), (1873, 1872, 15), (1877, 1876, 15), (1881, 1880, 15), (1885, 1883, 15), (1889, 1888, 15), (1893, 1892, 15), (1897, 1896, 15), (1901, 1900, 15), (1905, 1904, 15), (1909, 1908, 15), (1913, 1912, 15), (1917, 1916, 15), (1925, 1923, 15), (1928, 1927, 15), (1933, 1932, 15), (1936, 1935, 15), (1939, 1938, 15), (1946, 1944, 15), (1950, 1949, 15), (1956, 1954, 15), (1960, 1958, 15), (0, 0, 0)]
def YST : List Bool := [false, false, false, false, false, false, true, false, false, true, false, false, false, false, false, false, true, false, false, false, false, true, false, false, false, false, false, false, true, false, false, false, false, false, false, false, false, false, false, false, false, false, false, false, false, false, false, false, false, false, false, false, false, true, true, true, false, false, true, false, false, false, false, false, true, true, true, false, false, false, false, false, false, false, false, true, false, false, false, false, false, false, false, false, false, true, false, false, false, false, false, false, false, false, false, false, false, false, false, false, false, false, false, false, false, false, false, false, false, false, false, false, false, true, false, false, false, false, false, false, false, false, false, false, false, false, false, false, false, false, false, false, false, false, false, false, false, false, false, false, false, false, false, true, false, false, false, false, false, false, false, false, true, false, false, false, false, false, false, false, false, false, false, false, false, false, false, false, false, false, false, false, false, false, false, false, true, true, false, false, true, false, false, false, false, false, false, false, false, false, false, false, false, false, false, false, false, false, false, false, false, false, false, false, false, false, false, false, false, false, false, false, false, false, false, false, false, false, false, false, false, false, false, false, false, false, false, false, false, false, false, false, false, true, false, true, true, false, false, false, false, true]
def LYP : List (List Nat) := [[342, 344, 346, 348, 350, 352, 354], [381, 383, 385, 387, 389, 391, 393, 395, 397, 399, 401, 403, 405, 407, 409], [252, 254, 256, 258, 260, 262, 264, 266, 268, 270], [316, 318, 320, 322], [437, 439, 441, 443, 445, 447, 449, 451, 453, 455, 457, 459, 461, 463, 465, 467], [125, 127, 129, 131, 133, 135, 137], [294, 296, 298, 300, 302], [68, 70, 72, 74, 76, 78, 80, 82, 84, 86, 88, 90, 92, 94, 96, 98], [490, 492, 494, 496, 498, 500, 502, 504, 506, 508, 510, 512], [214, 216, 218, 220, 222, 224, 226, 228], [172, 174, 176, 178, 180, 182, 184, 186, 188], [534, 536, 538, 540, 542, 544, 546, 548, 550, 552, 554, 556, 558, 560, 562, 564, 566, 568], [1359, 1361, 1363, 1365, 1367, 1369, 1371, 1373, 1375, 1377, 1379, 1381, 1383, 1385, 1387, 1389, 1391, 1393, 1395, 1397, 1399, 1401, 1403, 1405, 1407, 1409, 1411, 1413, 1415, 1417, 1419, 1421, 1423, 1425, 1427, 1429, 1431, 1433, 1435, 1437, 1439, 1441, 1443, 1445, 1447, 1449, 1451, 1453, 1455, 1457, 1459, 1461, 1463, 1465, 1467, 1469, 1471, 1473, 1475, 1477, 1479, 1481, 1483, 1485, 1487, 1489, 1491, 1493, 1495, 1497, 1499, 1501, 1503, 1505, 1507, 1509, 1511, 1513, 1515, 1517, 1519, 1521, 1523, 1525, 1527, 1529, 1531, 1533, 1535, 1537, 1539, 1541, 1543, 1545, 1547, 1549, 1551, 1553, 1555, 1557, 1559, 1561, 1563, 1565, 1567, 1569, 1571, 1573, 1575, 1577, 1579, 1581, 1583, 1585, 1587]]
def CLP : List (Nat × Nat) := [(326, 11), (358, 12), (232, 7), (306, 10), (413, 13), (103, 3), (274, 9), (30, 2), (471, 14), (192, 5), (141, 4), (22, 1), (1239, 15)]
theorem fll_ok : FLL.all (fun q => decide (tables_1[q.2.2.2.2]? = some (Cond.fieldLink (cn q.1) q.2.1 (cn q.2.2.1) ((cT q.2.2.1).2.1 q.2.2.2.1).2.1 ((cT q.2.2.1).2.1 q.2.2.2.1).2.2.1))) = true := by decide +kernel
theorem mll_ok : MLL.all (fun q => decide (tables_1[q.2.2.2.2]? = some (if q.2.2.2.1 = 0 then Cond.methodLink (cn q.1) q.2.1 (yn q.2.2.1) else Cond.methodLinkNest (cn q.1) q.2.1 (yn q.2.2.1) "BlackRoad"))) = true := by decide +kernel
theorem cll_ok : CLL.all (fun q => decide (tables_1[q.2.2.2]? = some (Cond.classLink (cn q.1) q.2.1 (cn q.2.2.1)))) = true := by decide +kernel
theorem kil_ok : KIL.all (fun q => decide (tables_1[q.2.2.2]? = some (Cond.constant (cn q.1) q.2.1 (Int32.ofInt q.2.2.1)))) = true := by decide +kernel
theorem kll_ok : KLL.all (fun q => decide (tables_1[q.2.2.2]? = some (Cond.constantLong (cn q.1) q.2.1 (Int64.ofInt q.2.2.1)))) = true := by decide +kernel
theorem obl_ok : OBL.all (fun q => decide (tables_1[q.2.2]? = some (Cond.methodLink (cn q.1) q.2.1 objectInit))) = true := by decide +kernel
theorem acl_ok : ACL.all (fun q => decide (tables_1[q.2.2]? = some (Cond.methodLink (cn q.1) q.2.1 arraycopyName))) = true := by decide +kernel
theorem mal_ok : MAL.all (fun q => decide (tables_1[q.2.2.2]? = some (Cond.methodLink (cn q.1) q.2.1 (mthN q.2.2.1))) && (Nat.ble 1 q.2.2.1 && Nat.ble q.2.2.1 4)) = true := by decide +kernel
theorem yp2_ok : (List.range 241).all (fun y => decide (tables_1[((gl YP y).getD (0, 0, 0)).2.1]? = some (if (gl YST y).getD true then Cond.static (yn y) else Cond.instanceMethod (yn y))) && decide (tables_1[((gl YP y).getD (0, 0, 0)).2.2]? = some (Cond.initialized (yn y).cls))) = true := by decide +kernel
theorem lyp_ok : (List.range 13).all (fun c => (List.range (cT c).2.2).all (fun k => decide (tables_1[(gl ((gl LYP c).getD []) k).getD 9999]? = some (u_lay (cT c).1 (cT c).2.1 k)))) = true := by decide +kernel
theorem clp_ok : (List.range 13).all (fun c => decide (tables_1[((gl CLP c).getD (0, 0)).1]? = some (Cond.instantiable (cT c).1 (cT c).2.2)) && (decide (tables_1[((gl CLP c).getD (0, 0)).2]? = some (Cond.initialized (cT c).1)) && decide (cn c = (cT c).1))) = true := by decide +kernel
end
section
set_option maxRecDepth 200000 in
theorem ycd_0 : ∀ y, 0 ≤ y → y < 12 → tables_1[((gl YP y).getD (0, 0, 0)).1]? = some (Cond.code (yn y) (yc y) (ml y) (yr y)) := by
  intro y h1 h2
  have h : y = 0 ∨ y = 1 ∨ y = 2 ∨ y = 3 ∨ y = 4 ∨ y = 5 ∨ y = 6 ∨ y = 7 ∨ y = 8 ∨ y = 9 ∨ y = 10 ∨ y = 11 := by omega
  rcases h with rfl | rfl | rfl | rfl | rfl | rfl | rfl | rfl | rfl | rfl | rfl | rfl <;> rfl
set_option maxRecDepth 200000 in
theorem ycd_12 : ∀ y, 12 ≤ y → y < 24 → tables_1[((gl YP y).getD (0, 0, 0)).1]? = some (Cond.code (yn y) (yc y) (ml y) (yr y)) := by
  intro y h1 h2
  have h : y = 12 ∨ y = 13 ∨ y = 14 ∨ y = 15 ∨ y = 16 ∨ y = 17 ∨ y = 18 ∨ y = 19 ∨ y = 20 ∨ y = 21 ∨ y = 22 ∨ y = 23 := by omega
  rcases h with rfl | rfl | rfl | rfl | rfl | rfl | rfl | rfl | rfl | rfl | rfl | rfl <;> rfl
set_option maxRecDepth 200000 in
theorem ycd_24 : ∀ y, 24 ≤ y → y < 36 → tables_1[((gl YP y).getD (0, 0, 0)).1]? = some (Cond.code (yn y) (yc y) (ml y) (yr y)) := by
  intro y h1 h2
  have h : y = 24 ∨ y = 25 ∨ y = 26 ∨ y = 27 ∨ y = 28 ∨ y = 29 ∨ y = 30 ∨ y = 31 ∨ y = 32 ∨ y = 33 ∨ y = 34 ∨ y = 35 := by omega
  rcases h with rfl | rfl | rfl | rfl | rfl | rfl | rfl | rfl | rfl | rfl | rfl | rfl <;> rfl
set_option maxRecDepth 200000 in
theorem ycd_36 : ∀ y, 36 ≤ y → y < 48 → tables_1[((gl YP y).getD (0, 0, 0)).1]? = some (Cond.code (yn y) (yc y) (ml y) (yr y)) := by
  intro y h1 h2
  have h : y = 36 ∨ y = 37 ∨ y = 38 ∨ y = 39 ∨ y = 40 ∨ y = 41 ∨ y = 42 ∨ y = 43 ∨ y = 44 ∨ y = 45 ∨ y = 46 ∨ y = 47 := by omega
  rcases h with rfl | rfl | rfl | rfl | rfl | rfl | rfl | rfl | rfl | rfl | rfl | rfl <;> rfl
set_option maxRecDepth 200000 in
theorem ycd_48 : ∀ y, 48 ≤ y → y < 60 → tables_1[((gl YP y).getD (0, 0, 0)).1]? = some (Cond.code (yn y) (yc y) (ml y) (yr y)) := by
  intro y h1 h2
  have h : y = 48 ∨ y = 49 ∨ y = 50 ∨ y = 51 ∨ y = 52 ∨ y = 53 ∨ y = 54 ∨ y = 55 ∨ y = 56 ∨ y = 57 ∨ y = 58 ∨ y = 59 := by omega
  rcases h with rfl | rfl | rfl | rfl | rfl | rfl | rfl | rfl | rfl | rfl | rfl | rfl <;> rfl
set_option maxRecDepth 200000 in
theorem ycd_60 : ∀ y, 60 ≤ y → y < 72 → tables_1[((gl YP y).getD (0, 0, 0)).1]? = some (Cond.code (yn y) (yc y) (ml y) (yr y)) := by
  intro y h1 h2
  have h : y = 60 ∨ y = 61 ∨ y = 62 ∨ y = 63 ∨ y = 64 ∨ y = 65 ∨ y = 66 ∨ y = 67 ∨ y = 68 ∨ y = 69 ∨ y = 70 ∨ y = 71 := by omega
  rcases h with rfl | rfl | rfl | rfl | rfl | rfl | rfl | rfl | rfl | rfl | rfl | rfl <;> rfl
set_option maxRecDepth 200000 in
theorem ycd_72 : ∀ y, 72 ≤ y → y < 84 → tables_1[((gl YP y).getD (0, 0, 0)).1]? = some (Cond.code (yn y) (yc y) (ml y) (yr y)) := by
  intro y h1 h2
  have h : y = 72 ∨ y = 73 ∨ y = 74 ∨ y = 75 ∨ y = 76 ∨ y = 77 ∨ y = 78 ∨ y = 79 ∨ y = 80 ∨ y = 81 ∨ y = 82 ∨ y = 83 := by omega
  rcases h with rfl | rfl | rfl | rfl | rfl | rfl | rfl | rfl | rfl | rfl | rfl | rfl <;> rfl
set_option maxRecDepth 200000 in
theorem ycd_84 : ∀ y, 84 ≤ y → y < 96 → tables_1[((gl YP y).getD (0, 0, 0)).1]? = some (Cond.code (yn y) (yc y) (ml y) (yr y)) := by
  intro y h1 h2
  have h : y = 84 ∨ y = 85 ∨ y = 86 ∨ y = 87 ∨ y = 88 ∨ y = 89 ∨ y = 90 ∨ y = 91 ∨ y = 92 ∨ y = 93 ∨ y = 94 ∨ y = 95 := by omega
  rcases h with rfl | rfl | rfl | rfl | rfl | rfl | rfl | rfl | rfl | rfl | rfl | rfl <;> rfl
set_option maxRecDepth 200000 in
theorem ycd_96 : ∀ y, 96 ≤ y → y < 108 → tables_1[((gl YP y).getD (0, 0, 0)).1]? = some (Cond.code (yn y) (yc y) (ml y) (yr y)) := by
  intro y h1 h2
  have h : y = 96 ∨ y = 97 ∨ y = 98 ∨ y = 99 ∨ y = 100 ∨ y = 101 ∨ y = 102 ∨ y = 103 ∨ y = 104 ∨ y = 105 ∨ y = 106 ∨ y = 107 := by omega
  rcases h with rfl | rfl | rfl | rfl | rfl | rfl | rfl | rfl | rfl | rfl | rfl | rfl <;> rfl
set_option maxRecDepth 200000 in
theorem ycd_108 : ∀ y, 108 ≤ y → y < 120 → tables_1[((gl YP y).getD (0, 0, 0)).1]? = some (Cond.code (yn y) (yc y) (ml y) (yr y)) := by
  intro y h1 h2
  have h : y = 108 ∨ y = 109 ∨ y = 110 ∨ y = 111 ∨ y = 112 ∨ y = 113 ∨ y = 114 ∨ y = 115 ∨ y = 116 ∨ y = 117 ∨ y = 118 ∨ y = 119 := by omega
  rcases h with rfl | rfl | rfl | rfl | rfl | rfl | rfl | rfl | rfl | rfl | rfl | rfl <;> rfl
set_option maxRecDepth 200000 in
theorem ycd_120 : ∀ y, 120 ≤ y → y < 132 → tables_1[((gl YP y).getD (0, 0, 0)).1]? = some (Cond.code (yn y) (yc y) (ml y) (yr y)) := by
  intro y h1 h2
  have h : y = 120 ∨ y = 121 ∨ y = 122 ∨ y = 123 ∨ y = 124 ∨ y = 125 ∨ y = 126 ∨ y = 127 ∨ y = 128 ∨ y = 129 ∨ y = 130 ∨ y = 131 := by omega
  rcases h with rfl | rfl | rfl | rfl | rfl | rfl | rfl | rfl | rfl | rfl | rfl | rfl <;> rfl
set_option maxRecDepth 200000 in
theorem ycd_132 : ∀ y, 132 ≤ y → y < 144 → tables_1[((gl YP y).getD (0, 0, 0)).1]? = some (Cond.code (yn y) (yc y) (ml y) (yr y)) := by
  intro y h1 h2
  have h : y = 132 ∨ y = 133 ∨ y = 134 ∨ y = 135 ∨ y = 136 ∨ y = 137 ∨ y = 138 ∨ y = 139 ∨ y = 140 ∨ y = 141 ∨ y = 142 ∨ y = 143 := by omega
  rcases h with rfl | rfl | rfl | rfl | rfl | rfl | rfl | rfl | rfl | rfl | rfl | rfl <;> rfl
set_option maxRecDepth 200000 in
theorem ycd_144 : ∀ y, 144 ≤ y → y < 156 → tables_1[((gl YP y).getD (0, 0, 0)).1]? = some (Cond.code (yn y) (yc y) (ml y) (yr y)) := by
  intro y h1 h2
  have h : y = 144 ∨ y = 145 ∨ y = 146 ∨ y = 147 ∨ y = 148 ∨ y = 149 ∨ y = 150 ∨ y = 151 ∨ y = 152 ∨ y = 153 ∨ y = 154 ∨ y = 155 := by omega
  rcases h with rfl | rfl | rfl | rfl | rfl | rfl | rfl | rfl | rfl | rfl | rfl | rfl <;> rfl
set_option maxRecDepth 200000 in
theorem ycd_156 : ∀ y, 156 ≤ y → y < 168 → tables_1[((gl YP y).getD (0, 0, 0)).1]? = some (Cond.code (yn y) (yc y) (ml y) (yr y)) := by
  intro y h1 h2
  have h : y = 156 ∨ y = 157 ∨ y = 158 ∨ y = 159 ∨ y = 160 ∨ y = 161 ∨ y = 162 ∨ y = 163 ∨ y = 164 ∨ y = 165 ∨ y = 166 ∨ y = 167 := by omega
  rcases h with rfl | rfl | rfl | rfl | rfl | rfl | rfl | rfl | rfl | rfl | rfl | rfl <;> rfl
set_option maxRecDepth 200000 in
theorem ycd_168 : ∀ y, 168 ≤ y → y < 180 → tables_1[((gl YP y).getD (0, 0, 0)).1]? = some (Cond.code (yn y) (yc y) (ml y) (yr y)) := by
  intro y h1 h2
  have h : y = 168 ∨ y = 169 ∨ y = 170 ∨ y = 171 ∨ y = 172 ∨ y = 173 ∨ y = 174 ∨ y = 175 ∨ y = 176 ∨ y = 177 ∨ y = 178 ∨ y = 179 := by omega
  rcases h with rfl | rfl | rfl | rfl | rfl | rfl | rfl | rfl | rfl | rfl | rfl | rfl <;> rfl
set_option maxRecDepth 200000 in
theorem ycd_180 : ∀ y, 180 ≤ y → y < 192 → tables_1[((gl YP y).getD (0, 0, 0)).1]? = some (Cond.code (yn y) (yc y) (ml y) (yr y)) := by
  intro y h1 h2
  have h : y = 180 ∨ y = 181 ∨ y = 182 ∨ y = 183 ∨ y = 184 ∨ y = 185 ∨ y = 186 ∨ y = 187 ∨ y = 188 ∨ y = 189 ∨ y = 190 ∨ y = 191 := by omega
  rcases h with rfl | rfl | rfl | rfl | rfl | rfl | rfl | rfl | rfl | rfl | rfl | rfl <;> rfl
set_option maxRecDepth 200000 in
theorem ycd_192 : ∀ y, 192 ≤ y → y < 204 → tables_1[((gl YP y).getD (0, 0, 0)).1]? = some (Cond.code (yn y) (yc y) (ml y) (yr y)) := by
  intro y h1 h2
  have h : y = 192 ∨ y = 193 ∨ y = 194 ∨ y = 195 ∨ y = 196 ∨ y = 197 ∨ y = 198 ∨ y = 199 ∨ y = 200 ∨ y = 201 ∨ y = 202 ∨ y = 203 := by omega
  rcases h with rfl | rfl | rfl | rfl | rfl | rfl | rfl | rfl | rfl | rfl | rfl | rfl <;> rfl
set_option maxRecDepth 200000 in
theorem ycd_204 : ∀ y, 204 ≤ y → y < 216 → tables_1[((gl YP y).getD (0, 0, 0)).1]? = some (Cond.code (yn y) (yc y) (ml y) (yr y)) := by
  intro y h1 h2
  have h : y = 204 ∨ y = 205 ∨ y = 206 ∨ y = 207 ∨ y = 208 ∨ y = 209 ∨ y = 210 ∨ y = 211 ∨ y = 212 ∨ y = 213 ∨ y = 214 ∨ y = 215 := by omega
  rcases h with rfl | rfl | rfl | rfl | rfl | rfl | rfl | rfl | rfl | rfl | rfl | rfl <;> rfl
set_option maxRecDepth 200000 in
theorem ycd_216 : ∀ y, 216 ≤ y → y < 228 → tables_1[((gl YP y).getD (0, 0, 0)).1]? = some (Cond.code (yn y) (yc y) (ml y) (yr y)) := by
  intro y h1 h2
  have h : y = 216 ∨ y = 217 ∨ y = 218 ∨ y = 219 ∨ y = 220 ∨ y = 221 ∨ y = 222 ∨ y = 223 ∨ y = 224 ∨ y = 225 ∨ y = 226 ∨ y = 227 := by omega
  rcases h with rfl | rfl | rfl | rfl | rfl | rfl | rfl | rfl | rfl | rfl | rfl | rfl <;> rfl
set_option maxRecDepth 200000 in
theorem ycd_228 : ∀ y, 228 ≤ y → y < 240 → tables_1[((gl YP y).getD (0, 0, 0)).1]? = some (Cond.code (yn y) (yc y) (ml y) (yr y)) := by
  intro y h1 h2
  have h : y = 228 ∨ y = 229 ∨ y = 230 ∨ y = 231 ∨ y = 232 ∨ y = 233 ∨ y = 234 ∨ y = 235 ∨ y = 236 ∨ y = 237 ∨ y = 238 ∨ y = 239 := by omega
  rcases h with rfl | rfl | rfl | rfl | rfl | rfl | rfl | rfl | rfl | rfl | rfl | rfl <;> rfl
set_option maxRecDepth 200000 in
theorem ycd_240 : ∀ y, 240 ≤ y → y < 241 → tables_1[((gl YP y).getD (0, 0, 0)).1]? = some (Cond.code (yn y) (yc y) (ml y) (yr y)) := by
  intro y h1 h2
  have h : y = 240 := by omega
  rcases h with rfl <;> rfl
theorem ycd (y : Nat) (h : y < 241) : tables_1[((gl YP y).getD (0, 0, 0)).1]? = some (Cond.code (yn y) (yc y) (ml y) (yr y)) := by
  rcases Nat.lt_or_ge y 12 with h12 | h12
  · exact ycd_0 y (by omega) h12
  rcases Nat.lt_or_ge y 24 with h24 | h24
  · exact ycd_12 y (by omega) h24
  rcases Nat.lt_or_ge y 36 with h36 | h36
  · exact ycd_24 y (by omega) h36
  rcases Nat.lt_or_ge y 48 with h48 | h48
  · exact ycd_36 y (by omega) h48
  rcases Nat.lt_or_ge y 60 with h60 | h60
  · exact ycd_48 y (by omega) h60
  rcases Nat.lt_or_ge y 72 with h72 | h72
  · exact ycd_60 y (by omega) h72
  rcases Nat.lt_or_ge y 84 with h84 | h84
  · exact ycd_72 y (by omega) h84
  rcases Nat.lt_or_ge y 96 with h96 | h96
  · exact ycd_84 y (by omega) h96
  rcases Nat.lt_or_ge y 108 with h108 | h108
  · exact ycd_96 y (by omega) h108
  rcases Nat.lt_or_ge y 120 with h120 | h120
  · exact ycd_108 y (by omega) h120
  rcases Nat.lt_or_ge y 132 with h132 | h132
  · exact ycd_120 y (by omega) h132
  rcases Nat.lt_or_ge y 144 with h144 | h144
  · exact ycd_132 y (by omega) h144
  rcases Nat.lt_or_ge y 156 with h156 | h156
  · exact ycd_144 y (by omega) h156
  rcases Nat.lt_or_ge y 168 with h168 | h168
  · exact ycd_156 y (by omega) h168
  rcases Nat.lt_or_ge y 180 with h180 | h180
  · exact ycd_168 y (by omega) h180
  rcases Nat.lt_or_ge y 192 with h192 | h192
  · exact ycd_180 y (by omega) h192
  rcases Nat.lt_or_ge y 204 with h204 | h204
  · exact ycd_192 y (by omega) h204
  rcases Nat.lt_or_ge y 216 with h216 | h216
  · exact ycd_204 y (by omega) h216
  rcases Nat.lt_or_ge y 228 with h228 | h228
  · exact ycd_216 y (by omega) h228
  rcases Nat.lt_or_ge y 240 with h240 | h240
  · exact ycd_228 y (by omega) h240
  exact ycd_240 y (by omega) h
end
section
/-! the blocks are the bytecode: checked method by method, by a function that the kernel runs -/
def fldT (o i : Nat) : Option (Nat × Nat) := (FLL.find? (fun q => Nat.beq q.1 o && Nat.beq q.2.1 i)).map (fun q => (q.2.2.1, q.2.2.2.1))
def mthT (o i : Nat) : Option (Nat × Nat) := (MLL.find? (fun q => Nat.beq q.1 o && Nat.beq q.2.1 i)).map (fun q => (q.2.2.1, q.2.2.2.1))
def clsT (o i : Nat) : Option Nat := (CLL.find? (fun q => Nat.beq q.1 o && Nat.beq q.2.1 i)).map (fun q => q.2.2.1)
def conT (o i : Nat) : Option Int := (KIL.find? (fun q => Nat.beq q.1 o && Nat.beq q.2.1 i)).map (fun q => q.2.2.1)
def conLT (o i : Nat) : Option Int := (KLL.find? (fun q => Nat.beq q.1 o && Nat.beq q.2.1 i)).map (fun q => q.2.2.1)
def objT (o i : Nat) : Bool := OBL.any (fun q => Nat.beq q.1 o && Nat.beq q.2.1 i)
def arcT (o i : Nat) : Bool := ACL.any (fun q => Nat.beq q.1 o && Nat.beq q.2.1 i)
def malT (o i k : Nat) : Bool := MAL.any (fun q => Nat.beq q.1 o && (Nat.beq q.2.1 i && Nat.beq q.2.2.1 k))
def strT (o i : Nat) : Option Nat := (STL.find? (fun q => Nat.beq q.1 o && Nat.beq q.2.1 i)).map (fun q => q.2.2)
def inIb (v : Int) : Bool := decide (-2147483648 ≤ v) && decide (v < 2147483648)
def inJb (v : Int) : Bool := decide (-9223372036854775808 ≤ v) && decide (v < 9223372036854775808)
def plain : Instr → Bool
  | .iadd | .isub | .imul | .ineg | .iand | .ior | .ishl | .ishr | .iushr | .ladd | .lsub | .lmul | .lneg | .lshl | .lor | .lcmp | .i2l | .l2i | .i2s | .i2c | .dup | .dup2 | .pop | .pop2 => true
  | _ => false
def opOk (o : Nat) (ini : Bool) (mx : Nat) (r i : Instr) : Bool :=
  match r with
  | .iconst v => inIb v && (match i with
    | .iconst n => decide (Int32.ofInt n = Int32.ofInt v)
    | .bipush n => decide ((Int8.ofInt n).toInt32 = Int32.ofInt v)
    | .sipush n => decide ((Int16.ofInt n).toInt32 = Int32.ofInt v)
    | .ldc k => decide (conT o k = some v)
    | .ldc_w k => decide (conT o k = some v)
    | _ => false)
  | .jsr_w v => inJb v && (match i with
    | .lconst n => decide (Int64.ofNat (n : Nat) = Int64.ofInt v)
    | .ldc2_w k => decide (conLT o k = some v)
    | _ => false)
  | .ldc j => (match i with
    | .ldc k => decide (strT o k = some j) && Nat.blt j 13
    | _ => false)
  | .iload k => (match i with
    | .iload k2 => Nat.beq k k2
    | .iload_n n => Nat.beq k n
    | _ => false)
  | .lload k => (match i with
    | .lload k2 => Nat.beq k k2
    | .lload_n n => Nat.beq k n
    | _ => false)
  | .aload k => (match i with
    | .aload k2 => Nat.beq k k2
    | .aload_n n => Nat.beq k n
    | _ => false)
  | .istore k => Nat.blt k mx && (match i with
    | .istore k2 => Nat.beq k k2
    | .istore_n n => Nat.beq k n
    | _ => false)
  | .lstore k => Nat.blt (k + 1) mx && (match i with
    | .lstore k2 => Nat.beq k k2
    | .lstore_n n => Nat.beq k n
    | _ => false)
  | .astore k => Nat.blt k mx && (match i with
    | .astore k2 => Nat.beq k k2
    | .astore_n n => Nat.beq k n
    | _ => false)
  | .iinc k n => Nat.blt k mx && (match i with
    | .iinc k2 n2 => Nat.beq k k2 && decide (n = n2)
    | _ => false)
  | .getfield q => (match i with
    | .getfield k => decide (fldT o k = some (q / 1000, q % 1000)) && (Nat.blt (q / 1000) 13 && Nat.blt (q % 1000) (cT (q / 1000)).2.2)
    | _ => false)
  | .putfield q => (match i with
    | .putfield k => decide (fldT o k = some (q / 1000, q % 1000)) && ((Nat.blt (q / 1000) 13 && Nat.blt (q % 1000) (cT (q / 1000)).2.2) && (!((cT (q / 1000)).2.1 (q % 1000)).2.2.2 || (ini && Nat.beq (q / 1000) o)))
    | _ => false)
  | .getstatic k => (match i with
    | .getstatic k2 => Nat.beq o 16 && ((Nat.beq k 0 && Nat.beq k2 38) || (Nat.beq k 1 && Nat.beq k2 1053))
    | _ => false)
  | .instanceof k => (match i with
    | .getfield k2 => Nat.beq o 16 && ((Nat.beq k 0 && Nat.beq k2 9) || (Nat.beq k 1 && Nat.beq k2 15))
    | _ => false)
  | .fadd => (match i with
    | .arraylength => true
    | _ => false)
  | .fsub => (match i with
    | .arraylength => true
    | _ => false)
  | .new c => (match i with
    | .new k => decide (clsT o k = some c)
    | _ => false)
  | .newarray t => (match i with
    | .newarray t2 => decide (t = t2)
    | _ => false)
  | .nop => (match i with
    | .invokespecial k => objT o k
    | _ => false)
  | r => plain r && decide (r = i)
def lenOf : Instr → Nat
  | .bipush _ | .ldc _ | .iload _ | .lload _ | .aload _ | .istore _ | .lstore _ | .astore _ | .newarray _ => 2
  | .sipush _ | .ldc_w _ | .ldc2_w _ | .iinc _ _ | .getfield _ | .putfield _ | .getstatic _ | .new _ | .invokespecial _ => 3
  | _ => 1
def chkOps (o : Nat) (ini : Bool) (mx : Nat) (cc : ByteArray) : Nat → List Instr → Option Nat
  | pc, [] => some pc
  | pc, r :: rs => match decode cc pc with
    | .ok (i, len) => match Nat.beq len (lenOf i) && opOk o ini mx r i with
      | true => chkOps o ini mx cc (pc + len) rs
      | false => none
    | .error _ => none
def goesTo (pcs tg : List Nat) (k : Nat) (pc : Nat) (off : Int) : Bool := match gl pcs (tb tg k) with
  | some q => decide ((pc : Int) + off = (q : Int))
  | none => false
def callOk (o y2 idx : Nat) (virt : Bool) : Bool := match mthT o idx with
  | some (y3, _) => Nat.beq y2 y3 && Nat.blt y2 241
  | none => false
def lswOk (pcs : List Nat) (pc : Nat) : List (Int × Int) → List Nat → List (Int × Int) → Bool
  | [], [], [] => true
  | (k, _) :: r, t :: ts, (k2, off) :: r2 => decide (k = k2) && (goesTo pcs [t] 0 pc off && lswOk pcs pc r ts r2)
  | _, _, _ => false
def trOk (o y : Nat) (pcs : List Nat) (pc : Nat) (t : Instr) (tg : List Nat) (i : Instr) (len : Nat) : Bool :=
  match t with
  | .goto _ => (match i with
    | .goto off => Nat.beq len 3 && goesTo pcs tg 0 pc off
    | _ => false)
  | .ifCond c _ => (match i with
    | .ifCond c2 off => (Nat.beq len 3 && decide (c = c2)) && (goesTo pcs tg 0 pc off && goesTo pcs tg 1 pc 3)
    | _ => false)
  | .if_icmp c _ => (match i with
    | .if_icmp c2 off => (Nat.beq len 3 && decide (c = c2)) && (goesTo pcs tg 0 pc off && goesTo pcs tg 1 pc 3)
    | _ => false)
  | .tableswitch _ lo hi _ => (match i with
    | .tableswitch d lo2 hi2 offs => (decide (lo = lo2) && decide (hi = hi2)) && (goesTo pcs tg 0 pc d && (List.range (hi - lo + 1).toNat).all (fun j => match offs[j]? with
      | some off => goesTo pcs tg (j + 1) pc off
      | none => false))
    | _ => false)
  | .lookupswitch _ ps => (match i with
    | .lookupswitch d ps2 => goesTo pcs tg 0 pc d && (lswOk pcs pc ps.toList (tg.drop 1) ps2.toList && (ps2.toList.zip (ps2.toList.drop 1)).all (fun (a, next) => decide (a.1 < next.1)))
    | _ => false)
  | .ireturn => Nat.beq (rty y) 0 && (Nat.beq len 1 && decide (i = .ireturn))
  | .freturn => Nat.beq (rty y) 1 && (Nat.beq len 1 && decide (i = .ireturn))
  | .dreturn => Nat.beq (rty y) 2 && (Nat.beq len 1 && decide (i = .ireturn))
  | .lreturn => Nat.beq (rty y) 3 && (Nat.beq len 1 && decide (i = .lreturn))
  | .return_ => Nat.beq (rty y) 4 && (Nat.beq len 1 && decide (i = .return_))
  | .areturn => Nat.beq (rty y) 5 && (Nat.beq len 1 && decide (i = .areturn))
  | .faload => (Nat.beq len 1 && goesTo pcs tg 0 pc 1) && decide (i = .iaload)
  | .iaload | .laload | .saload | .baload | .iastore | .lastore | .sastore | .bastore | .idiv | .irem | .ldiv | .arraylength => (Nat.beq len 1 && goesTo pcs tg 0 pc 1) && decide (i = t)
  | .invokedynamic z => (match i with
    | .invokestatic k => (Nat.beq len 3 && goesTo pcs tg 0 pc 3) && (match z with
      | 0 => arcT o k
      | z => malT o k z)
    | _ => false)
  | .invokevirtual y2 => Nat.ble 241 y2 || (match i with
    | .invokevirtual k => (Nat.beq len 3 && goesTo pcs tg 0 pc 3) && (callOk o y2 k true && (!(gl YST y2).getD true && !yin y2))
    | _ => false)
  | .invokestatic y2 => Nat.ble 241 y2 || (match i with
    | .invokestatic k => (Nat.beq len 3 && goesTo pcs tg 0 pc 3) && (callOk o y2 k false && (gl YST y2).getD true)
    | _ => false)
  | .invokespecial y2 => Nat.ble 241 y2 || (match i with
    | .invokespecial k => (Nat.beq len 3 && goesTo pcs tg 0 pc 3) && (callOk o y2 k false && (!(gl YST y2).getD true && yin y2))
    | _ => false)
  | .athrow => true
  | _ => false
def chkB (o y : Nat) (pcs : List Nat) (pc : Nat) (q : Blk) : Bool := match chkOps o (yin y) (ml y) (yc y) pc q.1 with
  | none => false
  | some pe => match q.2.1 with
    | .nop => goesTo pcs q.2.2 0 pe 0
    | t => match decode (yc y) pe with
      | .ok (i, len) => trOk o y pcs pe t q.2.2 i len
      | .error _ => false
def chkBs (o y : Nat) (pcs : List Nat) : List Nat → List Blk → Bool
  | [], [] => true
  | pc :: ps, q :: qs => chkB o y pcs pc q && chkBs o y pcs ps qs
  | _, _ => false
def PCS : List (List Nat) := [[0, 12, 23, 34, 48, 59, 70, 81, 100, 127, 154, 173, 231],
  [0],
  [0],
  [0],
  [0, 45],
  [0, 81],
  [0, 4, 5, 10, 14, 20],
  [0, 14, 46],
  [0, 3, 7, 25, 41],
  [0, 4, 7, 10, 14],
  [0],
  [0],
  [0],
  [0],
  [0, 30, 35, 40, 52, 57, 62, 73, 77, 81],
  [0, 9, 12, 19, 22, 24, 33, 38],
  [0, 5, 10, 14, 15],
  [0, 9, 11, 23, 35, 49],
  [0, 4, 8, 12],
  [0, 7, 11, 13, 19, 35, 38, 44, 50],
  [0, 8, 19, 22, 27, 38, 46, 58, 61, 80, 88, 93, 111, 112],
  [0, 4, 7, 10, 13, 16, 17],
  [0, 12, 14, 22, 25, 39, 48, 56, 62],
  [0, 12, 20, 27, 35, 41, 51, 55, 65, 68, 90],
  [0, 2, 7, 10, 15, 21, 26, 35, 43, 47, 50, 51, 61, 76, 89, 106, 109, 115],
  [0],
  [0, 7, 11, 17],
  [0, 8],
  [0, 4, 8, 11],
  [0, 7, 22],
  [0],
  [0, 8, 11, 18, 21, 28, 31, 39, 42, 50, 53, 55, 104, 108],
  [0],
  [0, 11, 25, 28, 30, 41],
  [0, 9, 12, 18, 21, 23, 32, 37],
  [0, 8, 10, 22, 34, 48],
  [0, 11, 20, 25, 28, 30, 60, 68, 69, 77, 78, 89, 90, 101, 102],
  [0, 6, 9, 16, 19, 28, 31, 39, 42, 44, 56, 62],
  [0, 8, 10, 22, 34, 46, 59],
  [0, 7, 10, 17, 20, 22, 42],
  [0, 9, 12, 19, 22, 30, 33, 42, 45, 54, 57, 59, 105],
  [0, 8, 11, 19, 22, 30, 33, 42, 45, 47, 84],
  [0, 6, 9, 17, 20, 22, 31],
  [0, 9, 11, 23, 35],
  [0, 6, 9, 17, 20, 26, 29, 37, 40, 42, 54],
  [0, 9, 18, 28],
  [0, 16, 18, 26, 34, 42, 51, 60],
  [0, 12, 15, 17],
  [0, 11, 16, 20, 22, 26],
  [0, 6, 10, 13, 15, 21, 38, 43, 51, 56, 62],
  [0, 14, 16, 22, 26, 29, 36, 42, 48],
  [0, 19],
  [0, 8, 19, 30, 33, 36, 49, 73, 81, 92, 95, 98, 103, 114, 125, 128, 131, 144, 155, 158, 161, 166, 177, 188, 191, 194, 215, 222, 238, 255, 268],
  [0, 6, 12, 16, 17],
  [0, 6, 12, 18, 24, 28, 29],
  [0, 6, 12, 16, 17],
  [0, 7, 11, 12],
  [0, 4, 10, 15, 16, 25, 30, 31, 35, 48, 61, 64, 68, 73, 79, 88, 96, 104, 109, 114, 120, 123, 124, 134, 142, 151, 153, 159, 163, 175, 192, 205, 218, 231, 250, 254, 255],
  [0, 6, 9, 11, 17, 20, 22, 28, 31, 33, 39, 42, 44, 50, 53, 57, 58],
  [0, 8, 21, 24, 26, 28, 33, 36, 49, 54, 57, 59, 65],
  [0, 9],
  [0, 6, 13, 14],
  [0, 4, 7, 15, 16, 24],
  [0, 6, 13, 17, 18],
  [0, 6, 9],
  [0, 8],
  [0, 4, 9, 15, 16],
  [0, 7, 20],
  [0, 8, 13, 16, 25, 28, 33, 37, 40, 42, 51],
  [0, 4, 7, 12, 15, 19, 22, 27],
  [0, 4, 7, 12, 15, 19, 22, 27],
  [0, 8, 16, 20, 21],
  [0, 4, 12, 21, 25, 31, 34, 38, 39, 47, 49, 56, 71, 75, 76, 79, 85, 87, 95, 103, 107, 113, 116, 123, 126, 134, 138, 144, 147, 158, 161, 164, 170, 172, 180, 188, 192, 198, 201, 207, 213],
  [0, 8, 14, 19, 23, 24],
  [0, 8, 10, 20, 23, 48, 53, 59],
  [0],
  [0, 8, 9, 18, 21, 45, 51, 57],
  [0],
  [0, 12, 14, 25, 30],
  [0, 4, 10, 18, 23, 27, 30, 32, 40],
  [0, 6, 10, 17, 21, 24, 30, 33, 37, 44, 48, 52, 58, 61, 65, 72, 76, 80, 82, 88],
  [0, 6, 10, 17, 21, 24, 30, 33, 37, 44, 48, 52, 58, 61, 65, 71, 80, 84, 88, 92, 94, 100],
  [0, 8, 16, 18, 24, 27, 35, 38, 46, 50, 51, 52, 58, 63, 69, 72, 76, 77, 84, 90, 93, 98, 99, 104, 108, 116, 119, 121, 129, 136, 142, 146, 149, 151, 159, 165, 172, 175, 182, 184, 190],
  [0, 5, 8, 13, 15, 21, 26, 28, 32],
  [0, 8, 11, 20, 26, 29, 38, 44, 47, 56, 62, 65, 74, 79, 81, 85],
  [0, 10, 13],
  [0, 2, 10, 23, 26, 32],
  [0, 28, 33, 38],
  [0, 14, 17, 25, 28, 30, 34, 43, 46, 50, 51, 52, 58, 61, 73, 74, 81, 84, 98, 101, 105, 106, 107],
  [0, 14, 19, 23, 24],
  [0, 10, 19, 28, 39, 43, 52, 56, 63, 66, 72, 79, 92, 94, 100],
  [0, 14, 18, 22, 26, 27],
  [0, 6, 9, 15, 18, 20, 25, 35, 46],
  [0, 7, 10, 24, 27, 31, 34, 50, 53, 57, 58],
  [0, 11, 18, 21, 23, 25, 36, 51, 54, 57, 59, 65],
  [0, 2, 10, 18, 22, 24, 30],
  [0, 7, 15, 23, 31, 36, 40, 70, 73, 81, 88, 97, 106, 109, 124, 135, 141, 150, 166, 169, 175, 181],
  [0, 38, 47, 55],
  [0, 22, 30, 38, 46, 54, 62, 70, 78, 86],
  [0],
  [0, 2, 13, 26, 29, 45, 53, 64, 68, 71, 77],
  [0, 2, 10, 18, 22, 30, 34, 43, 46, 54, 58, 66, 70, 79, 85],
  [0, 8, 14, 22, 26, 35, 54, 58, 71, 76, 85, 93, 97, 110, 113, 119],
  [0, 7, 13, 14, 22, 34, 44, 49, 50, 63, 69, 78, 95, 99, 108, 119],
  [0, 6, 15, 24, 28, 41, 45, 49, 55, 64, 73, 76, 80, 86],
  [0, 13],
  [0, 14],
  [0, 2, 10, 18, 21, 25, 31, 32, 39, 45],
  [0, 11, 14, 25, 39, 42, 55, 66, 69, 76, 77],
  [0, 9, 12, 32, 40, 44, 52, 56, 70, 78, 79, 92, 98, 113, 118, 128, 137, 157, 161],
  [0, 9, 12],
  [0, 4, 15, 26, 30, 35, 43, 51, 54, 56, 62],
  [0, 10, 12, 21, 24, 33, 37, 49, 65, 68, 92, 100, 108, 117, 126, 134, 143, 152, 161],
  [0, 3, 6, 10, 13, 14, 24, 28, 31],
  [0, 7, 14, 18, 25, 30, 33, 40, 47, 52, 57, 60, 63, 69, 77, 85, 89, 102, 107],
  [0, 17, 34, 38, 48, 52, 53],
  [0, 8, 11, 20, 24, 30, 35, 53, 56, 66, 72, 86],
  [0, 11, 23, 26, 44, 68, 74, 80, 86, 90, 91, 98, 102, 116, 123, 145, 148, 159, 185, 206],
  [0, 8, 17, 21, 30, 37, 49, 87, 90, 106, 132, 135, 149],
  [0, 9, 18, 27, 30, 36, 50, 56, 69],
  [0, 13, 19, 21, 37, 46, 63, 74, 86, 96, 108, 117, 126, 139, 144, 157, 163, 165, 173, 178, 187, 202],
  [0, 9, 17],
  [0, 9, 23, 32, 36, 45],
  [0, 12],
  [0, 9, 14, 18, 24, 28, 31, 36, 39, 44, 48, 51, 68, 71, 77],
  [0, 10, 22, 39, 42, 44, 55, 63, 82, 85, 93, 102, 111, 121],
  [0, 2, 8, 11, 19, 27, 30, 38, 46, 49, 53, 54, 55, 61],
  [0, 7, 10, 12, 20, 25, 33, 34, 38, 44, 49, 53, 56, 62, 65, 67, 73, 82],
  [0, 2, 13, 23, 26, 37, 40, 42, 48],
  [0, 8, 11, 17, 20, 34, 37, 39, 49],
  [0, 4, 10, 13, 15, 23],
  [0, 4, 12, 20, 30, 36, 39, 45],
  [0, 8, 11, 17, 20, 29, 34, 37, 39, 53, 104, 115, 116, 127, 128, 139, 140, 145, 148, 152, 153, 154, 165, 166, 171, 172, 184],
  [0, 8, 9, 22, 30, 38, 52, 57, 73, 76, 81, 84, 93, 102, 106, 113, 119, 125],
  [0, 8, 18, 27, 30, 38, 41, 51, 63, 71, 74, 77, 83, 90, 98, 104, 110, 111, 120, 123, 141, 144, 152, 177, 182, 195, 207],
  [0, 12, 24, 27, 35, 39, 51, 59, 62, 64, 67, 73, 86, 95, 98, 100, 106],
  [0, 11, 15],
  [0, 8, 11, 29, 32, 42, 46, 47],
  [0, 9, 15, 18, 23, 24, 34],
  [0, 4, 9, 16, 24],
  [0, 8, 20],
  [0, 9, 12, 18, 21, 30, 35, 38, 42, 52],
  [0, 4, 7, 11, 14, 18, 21, 26, 29, 33, 45],
  [0, 10],
  [0, 28, 37],
  [0, 9, 12, 15, 21, 24, 28, 42, 49, 55, 61, 73, 76, 85, 91, 100, 103, 112, 120, 126, 129, 135, 155, 163, 166, 170, 171, 180, 183, 192],
  [0, 7, 11, 17, 28, 34, 40, 46, 52, 79, 80, 92, 109, 112, 123, 129],
  [0, 9, 12, 15, 23, 26, 28, 34, 42],
  [0, 60, 68, 76, 84, 92, 100, 108, 116, 124, 131, 132, 139, 140, 148],
  [0, 4, 9, 12, 20, 29, 37],
  [0, 592, 597, 606, 612, 617, 622, 624, 625, 634, 639, 644, 649, 651, 652, 662, 666, 667, 668, 674, 686],
  [0, 9, 12, 19, 22, 31, 33, 43, 53],
  [0, 5, 10, 14, 15],
  [0, 8, 11, 18, 21, 28, 31, 39, 42, 50, 53, 55],
  [0, 4],
  [0, 7, 9, 16, 20, 22, 28, 34, 40, 59, 65, 66, 67, 73, 79, 83, 91, 97, 105, 111, 121, 122, 128, 132, 142, 143],
  [0, 7, 15, 21, 28, 31, 41, 47, 58, 60],
  [0, 10, 12, 24, 35, 43, 46, 60, 64, 78, 79, 85],
  [0, 5, 12, 16, 33, 36, 40, 52, 63, 66, 69, 75],
  [0, 11, 14, 18, 21, 27, 30, 31],
  [0, 9, 12, 18, 21, 29, 31, 41, 51],
  [0, 4, 16, 19, 21, 25, 31, 34, 39, 45, 48, 53, 59, 62, 67, 73, 76, 77],
  [0, 5, 8, 12, 21, 31, 39, 45, 61, 62, 70, 76, 82, 85, 91, 97, 101, 102, 104, 110, 121, 140, 141, 152, 162, 169, 173, 174],
  [0, 6, 9, 16, 19, 28, 31, 39, 42, 50, 52, 62, 72, 82, 93],
  [0, 7, 10, 17, 20, 22],
  [0, 9, 12, 19, 22, 30, 33, 42, 45, 54, 57, 59],
  [0, 8, 11, 19, 22, 30, 33, 42, 45, 47],
  [0, 6, 9, 17, 20, 29, 31, 41, 51],
  [0, 6, 9, 17, 20, 26, 29, 37, 40, 42, 49, 56, 64],
  [0, 13, 15, 20, 25, 30, 36, 42],
  [0, 3, 7, 23, 39],
  [0, 9, 12, 14],
  [0, 5, 8, 11, 13, 31, 39, 53, 54, 68, 69, 83, 84, 98, 99, 113, 114, 120],
  [0, 19, 26, 30, 35, 37, 40],
  [0, 8, 13, 21, 26, 39, 55, 60, 68, 72, 75, 85, 93, 96, 99, 109, 125, 132, 145, 149, 152, 162, 170, 173, 176, 191, 206, 211, 212, 228, 242, 250, 257, 263, 264, 277],
  [0, 8, 14, 17, 18],
  [0, 8],
  [0, 8, 11, 19, 22, 26, 27],
  [0, 4, 10, 15, 17, 26, 28, 43, 47, 52, 60, 64, 72, 83, 87, 88, 93, 107, 110, 116, 117, 129, 133, 135, 144, 146, 160],
  [0, 8, 10, 24, 31, 35, 37, 49, 56, 60, 62, 74, 81, 85, 87, 99, 106, 110, 112, 124, 131, 135, 137, 149, 156, 160, 163, 175, 179, 184, 185],
  [0],
  [0, 7, 12, 18, 29, 33, 35, 40, 47, 50, 58, 69, 73, 79, 84, 86, 89, 90, 94, 100, 104, 110, 116, 117, 127],
  [0, 8, 10, 19, 22, 24, 36],
  [0, 4, 8, 10, 14],
  [0, 10, 14, 18, 30, 34, 35],
  [0, 4, 11, 16, 23, 24],
  [0, 6, 11, 14, 22, 25, 32, 35, 37, 41, 47, 50, 54, 55, 56, 61, 70, 73, 82, 85, 89, 90],
  [0, 7, 11, 15],
  [0, 8, 17, 25, 28, 36, 43, 46, 49, 51, 59, 62, 65, 72, 80, 87, 90, 93, 97, 98, 100, 106, 111, 115, 119, 120],
  [0, 6, 10, 16, 19, 25, 29, 33, 34],
  [0, 6, 15, 23, 26, 33, 37, 44, 48, 53, 60, 67, 70, 74, 80, 85, 90, 97],
  [0, 3, 12, 20, 23, 30, 34, 42, 49, 52, 55, 57, 63],
  [0, 6, 9, 11, 52, 57, 62, 67, 72, 77, 82],
  [0, 6, 11, 14, 21, 24, 30, 33, 37, 38],
  [0, 4, 7, 11, 14, 16, 22, 24, 31, 42, 45, 54, 62, 65, 68, 81, 88, 96, 99, 106, 109, 116, 123, 124, 125, 131, 136, 141, 144, 153, 160, 163, 170, 176, 182, 185, 188, 199, 208, 215, 225, 231, 242, 246, 247],
  [0, 2, 10, 14, 22, 26, 32, 38, 41, 45, 46, 53, 57, 59, 65],
  [0, 62, 70, 77, 83, 85, 93, 100, 107, 113, 115, 123, 130, 137, 143],
  [0, 2, 10, 16, 20, 26, 30, 36, 40, 43, 54, 58, 62, 63, 64, 74, 84, 90],
  [0, 2, 10, 16, 19, 25, 29, 39, 41, 51, 62, 64, 71, 76, 83, 86, 90, 100, 103, 109, 119, 120, 123, 126, 133, 143, 144, 146, 156, 158, 165, 177, 179, 186, 192],
  [0, 4, 12, 18, 22, 28, 32, 36, 42, 48, 51, 53, 59],
  [0, 2, 10, 16, 22, 25, 31, 39, 40, 46, 52, 60, 66, 72, 76, 80, 93, 94, 97, 106, 110, 120, 131, 141, 152, 162, 172, 182, 192, 202, 212, 222, 240, 247, 264, 266],
  [0, 4, 12, 18, 22, 26, 31, 36, 39, 41, 47],
  [0, 4, 12, 19, 24, 27, 33, 37, 41, 42, 50],
  [0, 4, 8, 16, 27, 32, 35, 36, 43, 51, 54, 55, 64, 69, 73, 74, 80, 87, 100, 107, 113, 120, 123, 132, 135, 145, 155, 159, 193, 198, 212, 221, 224, 234, 242, 252, 255],
  [0, 11, 36, 40, 47, 51, 52],
  [0, 16, 22, 23, 25],
  [0, 4, 12, 18, 22, 32, 33, 37, 41, 47, 53, 56, 58, 64],
  [0, 6, 14, 21, 37, 43, 45, 51, 58, 65, 75, 81, 83, 104, 109, 116, 129, 138, 141, 147, 156, 159, 173, 174],
  [0, 9, 15, 17, 25, 29, 31, 36, 47, 48, 54, 56, 63, 69, 75, 84, 100, 101, 107, 122, 124, 127, 133, 140, 149, 156, 166, 170, 180, 184, 190, 197, 203, 217, 219, 226, 232, 246, 248, 254],
  [0, 12, 19, 25, 28, 31, 39, 47, 55, 63, 72, 76, 77, 83, 88, 91, 110, 116],
  [0, 17, 22, 25, 31, 34, 36, 47, 55, 79, 87, 93],
  [0, 7, 10, 12, 22, 29, 33, 44, 47, 54, 57, 63],
  [0, 6, 9, 20, 23, 25, 76, 82, 83, 89, 90, 96, 97, 103, 104, 110, 111, 117, 118, 124, 125, 131, 132, 138, 141, 145, 146, 147],
  [0, 6, 9, 20, 23, 25, 28, 37, 44, 47, 55, 62, 69, 75, 78, 81, 87],
  [0, 9, 12, 18, 21, 32, 35, 42, 45, 48],
  [0, 6, 9, 20, 23, 25, 29, 80, 86, 87, 93, 94, 100, 101, 106, 109, 113, 114, 115, 124, 137, 139, 145, 146, 151, 152],
  [0, 2, 10, 17, 24, 26, 31, 42, 53, 59, 65, 67, 75, 82, 88, 90, 102, 107, 109, 117, 123, 127, 133, 139, 145],
  [0, 2, 10, 16, 20, 23, 36, 39, 42, 49, 55],
  [0, 6, 13, 22, 30, 33, 38, 49, 53, 64, 68, 71, 75, 81, 86, 87, 98, 99, 105, 114, 115, 129, 132, 143, 151, 162, 172],
  [0, 7, 15, 22, 25, 31, 34, 44, 50, 53, 55, 58, 64, 75, 82, 85, 87, 93, 102, 106, 116, 122, 125],
  [0, 6, 9, 19, 27, 31, 38, 42, 43],
  [0, 8, 15, 18, 23, 24, 30, 34, 35],
  [0, 4, 9, 16, 26, 35],
  [0, 9, 14, 17, 20, 22, 32, 40, 55, 56, 71, 72, 78],
  [0, 29, 36, 43, 47, 50, 54, 59, 61, 64, 71, 73, 78, 85, 89, 90],
  [0, 11, 17, 22, 29, 33, 34, 37, 45, 51, 57, 62, 69, 73, 75, 78, 86, 92, 97, 104, 115, 120, 131, 136, 138, 150, 153, 161, 167, 172, 179, 190, 195, 206, 211, 213, 242, 247, 257, 262, 267, 269, 273, 277, 280, 282, 286],
  [0, 7, 18, 23, 34, 38, 58, 62, 65],
  [0, 14, 28],
  [0, 10],
  [0, 7, 18, 22, 48, 51],
  [0, 8, 18, 20, 28, 36, 40, 43, 52, 56, 57, 65, 72, 76, 79, 83, 92, 94, 102, 116, 120, 125, 139, 143, 148, 152, 161, 166, 175, 179, 180, 185, 187, 193, 199, 203, 212, 214, 223, 225, 242, 247, 253, 258, 259, 262, 266],
  [0, 11, 15, 26, 30, 41, 45, 56, 60, 61],
  [0, 4, 7, 11, 14, 18, 21, 26, 29, 38, 41, 44],
  [0, 10],
  [0, 6, 15, 22, 29, 35, 42, 55, 61, 66, 71, 77, 82, 88, 93, 96, 97, 103, 109, 126, 128, 131, 153, 160, 163, 164, 170, 176],
  [0, 36, 42, 43, 49, 50, 56, 57, 63, 67, 70, 73, 74, 80, 84, 85, 86, 92, 96, 97],
  [0, 8, 14, 22, 28, 29],
  [0, 6, 9, 16, 19, 23, 27, 33, 39, 49, 52, 61, 67, 76, 83, 95, 101, 107, 110, 114, 120, 123, 127, 128, 134, 137, 147],
  [0, 4, 7, 16, 19, 21, 26, 35, 44, 50, 53, 59, 83, 93, 108, 109, 118, 124],
  [0, 6, 9, 17, 20, 26, 29, 30],
  [0, 4, 64, 69, 74, 79, 84, 89, 94, 99, 103, 104, 109, 114, 119],
  [0, 7, 15, 18, 27, 30, 164, 170, 175, 178, 184, 189, 192, 195, 197, 203, 208, 213, 218, 223, 226, 232, 237, 242, 247, 252, 255, 258, 260, 264, 268, 271, 273, 279, 282, 288, 291, 294, 296, 302, 307, 310, 316, 321, 324, 327, 329, 335, 340, 343, 349, 354, 357, 360, 362, 368, 373, 378, 383, 386, 392, 397, 402, 407, 410, 413, 415, 421, 426, 429, 435, 440, 443, 446, 448, 454, 459, 464, 469, 474, 477, 483, 488, 493, 498, 503, 506, 509, 511, 517, 522, 527, 532, 535, 541, 546, 551, 556, 559, 562, 564, 570, 575, 578, 584, 589, 592, 595, 597, 603, 608, 613, 618, 621, 627, 632, 637, 642, 645, 648, 650, 656, 661, 666, 671, 676, 679, 685, 690, 695, 700, 705, 708, 711, 713, 719, 722, 728, 731, 734, 736, 740, 744, 747, 749, 753, 757, 760, 762, 768, 771, 777, 780, 783, 785, 791, 796, 801, 804, 810, 815, 820, 823, 826, 828, 834, 839, 844, 847, 853, 858, 863, 866, 869, 871, 875, 879, 882, 884, 890, 893, 899, 902, 905, 907, 913, 918, 923, 928, 931, 937, 942, 947, 952, 955, 958, 960, 966, 971, 976, 979, 985, 990, 995, 998, 1001, 1003, 1009, 1014, 1019, 1024, 1027, 1033, 1038, 1043, 1048, 1051, 1054, 1056, 1062, 1067, 1072, 1077, 1080, 1086, 1091, 1096, 1101, 1104, 1107, 1109, 1115, 1120, 1125, 1130, 1133, 1139, 1144, 1149, 1154, 1157, 1160, 1162, 1168, 1173, 1178, 1183, 1186, 1192, 1197, 1202, 1207, 1210, 1214, 1216, 1222, 1227, 1232, 1235, 1241, 1246, 1251, 1254, 1257, 1259, 1265, 1268, 1274, 1277, 1280, 1282, 1288]]
def pcs (y : Nat) : List Nat := (gl PCS y).getD []
def chkAt (y b : Nat) : Bool := match gl (pcs y) b with
  | none => false
  | some pc => match blkOf y b with
    | none => false
    | some q => chkB (yo y) y (pcs y) pc q
def chkM (y : Nat) : Bool := Nat.beq ((pcs y).headD 9) 0 && chkBs (yo y) y (pcs y) (pcs y) ((gl PG y).getD [])
end
section
/-! each method's blocks are its bytecode -/
theorem chk_0 : ∀ y, 0 ≤ y → y < 5 → chkM y = true := by
  intro y h1 h2
  have h : (List.range 5).all (fun k => chkM (0 + k)) = true := by decide +kernel
  have h3 := List.all_eq_true.mp h (y - 0) (List.mem_range.mpr (by omega))
  rwa [show 0 + (y - 0) = y by omega] at h3
theorem chk_5 : ∀ y, 5 ≤ y → y < 13 → chkM y = true := by
  intro y h1 h2
  have h : (List.range 8).all (fun k => chkM (5 + k)) = true := by decide +kernel
  have h3 := List.all_eq_true.mp h (y - 5) (List.mem_range.mpr (by omega))
  rwa [show 5 + (y - 5) = y by omega] at h3
theorem chk_13 : ∀ y, 13 ≤ y → y < 20 → chkM y = true := by
  intro y h1 h2
  have h : (List.range 7).all (fun k => chkM (13 + k)) = true := by decide +kernel
  have h3 := List.all_eq_true.mp h (y - 13) (List.mem_range.mpr (by omega))
  rwa [show 13 + (y - 13) = y by omega] at h3
theorem chk_20 : ∀ y, 20 ≤ y → y < 29 → chkM y = true := by
  intro y h1 h2
  have h : (List.range 9).all (fun k => chkM (20 + k)) = true := by decide +kernel
  have h3 := List.all_eq_true.mp h (y - 20) (List.mem_range.mpr (by omega))
  rwa [show 20 + (y - 20) = y by omega] at h3
theorem chk_29 : ∀ y, 29 ≤ y → y < 38 → chkM y = true := by
  intro y h1 h2
  have h : (List.range 9).all (fun k => chkM (29 + k)) = true := by decide +kernel
  have h3 := List.all_eq_true.mp h (y - 29) (List.mem_range.mpr (by omega))
  rwa [show 29 + (y - 29) = y by omega] at h3
theorem chk_38 : ∀ y, 38 ≤ y → y < 46 → chkM y = true := by
  intro y h1 h2
  have h : (List.range 8).all (fun k => chkM (38 + k)) = true := by decide +kernel
  have h3 := List.all_eq_true.mp h (y - 38) (List.mem_range.mpr (by omega))
  rwa [show 38 + (y - 38) = y by omega] at h3
theorem chk_46 : ∀ y, 46 ≤ y → y < 52 → chkM y = true := by
  intro y h1 h2
  have h : (List.range 6).all (fun k => chkM (46 + k)) = true := by decide +kernel
  have h3 := List.all_eq_true.mp h (y - 46) (List.mem_range.mpr (by omega))
  rwa [show 46 + (y - 46) = y by omega] at h3
theorem chk_52 : ∀ y, 52 ≤ y → y < 57 → chkM y = true := by
  intro y h1 h2
  have h : (List.range 5).all (fun k => chkM (52 + k)) = true := by decide +kernel
  have h3 := List.all_eq_true.mp h (y - 52) (List.mem_range.mpr (by omega))
  rwa [show 52 + (y - 52) = y by omega] at h3
theorem chk_57 : ∀ y, 57 ≤ y → y < 66 → chkM y = true := by
  intro y h1 h2
  have h : (List.range 9).all (fun k => chkM (57 + k)) = true := by decide +kernel
  have h3 := List.all_eq_true.mp h (y - 57) (List.mem_range.mpr (by omega))
  rwa [show 57 + (y - 57) = y by omega] at h3
theorem chk_66 : ∀ y, 66 ≤ y → y < 76 → chkM y = true := by
  intro y h1 h2
  have h : (List.range 10).all (fun k => chkM (66 + k)) = true := by decide +kernel
  have h3 := List.all_eq_true.mp h (y - 66) (List.mem_range.mpr (by omega))
  rwa [show 66 + (y - 66) = y by omega] at h3
theorem chk_76 : ∀ y, 76 ≤ y → y < 82 → chkM y = true := by
  intro y h1 h2
  have h : (List.range 6).all (fun k => chkM (76 + k)) = true := by decide +kernel
  have h3 := List.all_eq_true.mp h (y - 76) (List.mem_range.mpr (by omega))
  rwa [show 76 + (y - 76) = y by omega] at h3
theorem chk_82 : ∀ y, 82 ≤ y → y < 88 → chkM y = true := by
  intro y h1 h2
  have h : (List.range 6).all (fun k => chkM (82 + k)) = true := by decide +kernel
  have h3 := List.all_eq_true.mp h (y - 82) (List.mem_range.mpr (by omega))
  rwa [show 82 + (y - 82) = y by omega] at h3
end
section
/-! each method's blocks are its bytecode -/
theorem chk_88 : ∀ y, 88 ≤ y → y < 96 → chkM y = true := by
  intro y h1 h2
  have h : (List.range 8).all (fun k => chkM (88 + k)) = true := by decide +kernel
  have h3 := List.all_eq_true.mp h (y - 88) (List.mem_range.mpr (by omega))
  rwa [show 88 + (y - 88) = y by omega] at h3
theorem chk_96 : ∀ y, 96 ≤ y → y < 102 → chkM y = true := by
  intro y h1 h2
  have h : (List.range 6).all (fun k => chkM (96 + k)) = true := by decide +kernel
  have h3 := List.all_eq_true.mp h (y - 96) (List.mem_range.mpr (by omega))
  rwa [show 96 + (y - 96) = y by omega] at h3
theorem chk_102 : ∀ y, 102 ≤ y → y < 109 → chkM y = true := by
  intro y h1 h2
  have h : (List.range 7).all (fun k => chkM (102 + k)) = true := by decide +kernel
  have h3 := List.all_eq_true.mp h (y - 102) (List.mem_range.mpr (by omega))
  rwa [show 102 + (y - 102) = y by omega] at h3
theorem chk_109 : ∀ y, 109 ≤ y → y < 114 → chkM y = true := by
  intro y h1 h2
  have h : (List.range 5).all (fun k => chkM (109 + k)) = true := by decide +kernel
  have h3 := List.all_eq_true.mp h (y - 109) (List.mem_range.mpr (by omega))
  rwa [show 109 + (y - 109) = y by omega] at h3
theorem chk_114 : ∀ y, 114 ≤ y → y < 118 → chkM y = true := by
  intro y h1 h2
  have h : (List.range 4).all (fun k => chkM (114 + k)) = true := by decide +kernel
  have h3 := List.all_eq_true.mp h (y - 114) (List.mem_range.mpr (by omega))
  rwa [show 114 + (y - 114) = y by omega] at h3
theorem chk_118 : ∀ y, 118 ≤ y → y < 122 → chkM y = true := by
  intro y h1 h2
  have h : (List.range 4).all (fun k => chkM (118 + k)) = true := by decide +kernel
  have h3 := List.all_eq_true.mp h (y - 118) (List.mem_range.mpr (by omega))
  rwa [show 118 + (y - 118) = y by omega] at h3
theorem chk_122 : ∀ y, 122 ≤ y → y < 129 → chkM y = true := by
  intro y h1 h2
  have h : (List.range 7).all (fun k => chkM (122 + k)) = true := by decide +kernel
  have h3 := List.all_eq_true.mp h (y - 122) (List.mem_range.mpr (by omega))
  rwa [show 122 + (y - 122) = y by omega] at h3
theorem chk_129 : ∀ y, 129 ≤ y → y < 134 → chkM y = true := by
  intro y h1 h2
  have h : (List.range 5).all (fun k => chkM (129 + k)) = true := by decide +kernel
  have h3 := List.all_eq_true.mp h (y - 129) (List.mem_range.mpr (by omega))
  rwa [show 129 + (y - 129) = y by omega] at h3
theorem chk_134 : ∀ y, 134 ≤ y → y < 141 → chkM y = true := by
  intro y h1 h2
  have h : (List.range 7).all (fun k => chkM (134 + k)) = true := by decide +kernel
  have h3 := List.all_eq_true.mp h (y - 134) (List.mem_range.mpr (by omega))
  rwa [show 134 + (y - 134) = y by omega] at h3
theorem chk_141 : ∀ y, 141 ≤ y → y < 148 → chkM y = true := by
  intro y h1 h2
  have h : (List.range 7).all (fun k => chkM (141 + k)) = true := by decide +kernel
  have h3 := List.all_eq_true.mp h (y - 141) (List.mem_range.mpr (by omega))
  rwa [show 141 + (y - 141) = y by omega] at h3
theorem chk_148 : ∀ y, 148 ≤ y → y < 150 → chkM y = true := by
  intro y h1 h2
  have h : (List.range 2).all (fun k => chkM (148 + k)) = true := by decide +kernel
  have h3 := List.all_eq_true.mp h (y - 148) (List.mem_range.mpr (by omega))
  rwa [show 148 + (y - 148) = y by omega] at h3
theorem chk_150 : ∀ y, 150 ≤ y → y < 151 → chkM y = true := by
  intro y h1 h2
  have h : (List.range 1).all (fun k => chkM (150 + k)) = true := by decide +kernel
  have h3 := List.all_eq_true.mp h (y - 150) (List.mem_range.mpr (by omega))
  rwa [show 150 + (y - 150) = y by omega] at h3
end
section
/-! each method's blocks are its bytecode -/
theorem chk_151 : ∀ y, 151 ≤ y → y < 157 → chkM y = true := by
  intro y h1 h2
  have h : (List.range 6).all (fun k => chkM (151 + k)) = true := by decide +kernel
  have h3 := List.all_eq_true.mp h (y - 151) (List.mem_range.mpr (by omega))
  rwa [show 151 + (y - 151) = y by omega] at h3
theorem chk_157 : ∀ y, 157 ≤ y → y < 162 → chkM y = true := by
  intro y h1 h2
  have h : (List.range 5).all (fun k => chkM (157 + k)) = true := by decide +kernel
  have h3 := List.all_eq_true.mp h (y - 157) (List.mem_range.mpr (by omega))
  rwa [show 157 + (y - 157) = y by omega] at h3
theorem chk_162 : ∀ y, 162 ≤ y → y < 166 → chkM y = true := by
  intro y h1 h2
  have h : (List.range 4).all (fun k => chkM (162 + k)) = true := by decide +kernel
  have h3 := List.all_eq_true.mp h (y - 162) (List.mem_range.mpr (by omega))
  rwa [show 162 + (y - 162) = y by omega] at h3
theorem chk_166 : ∀ y, 166 ≤ y → y < 173 → chkM y = true := by
  intro y h1 h2
  have h : (List.range 7).all (fun k => chkM (166 + k)) = true := by decide +kernel
  have h3 := List.all_eq_true.mp h (y - 166) (List.mem_range.mpr (by omega))
  rwa [show 166 + (y - 166) = y by omega] at h3
theorem chk_173 : ∀ y, 173 ≤ y → y < 178 → chkM y = true := by
  intro y h1 h2
  have h : (List.range 5).all (fun k => chkM (173 + k)) = true := by decide +kernel
  have h3 := List.all_eq_true.mp h (y - 173) (List.mem_range.mpr (by omega))
  rwa [show 173 + (y - 173) = y by omega] at h3
theorem chk_178 : ∀ y, 178 ≤ y → y < 181 → chkM y = true := by
  intro y h1 h2
  have h : (List.range 3).all (fun k => chkM (178 + k)) = true := by decide +kernel
  have h3 := List.all_eq_true.mp h (y - 178) (List.mem_range.mpr (by omega))
  rwa [show 178 + (y - 178) = y by omega] at h3
theorem chk_181 : ∀ y, 181 ≤ y → y < 188 → chkM y = true := by
  intro y h1 h2
  have h : (List.range 7).all (fun k => chkM (181 + k)) = true := by decide +kernel
  have h3 := List.all_eq_true.mp h (y - 181) (List.mem_range.mpr (by omega))
  rwa [show 181 + (y - 181) = y by omega] at h3
theorem chk_188 : ∀ y, 188 ≤ y → y < 194 → chkM y = true := by
  intro y h1 h2
  have h : (List.range 6).all (fun k => chkM (188 + k)) = true := by decide +kernel
  have h3 := List.all_eq_true.mp h (y - 188) (List.mem_range.mpr (by omega))
  rwa [show 188 + (y - 188) = y by omega] at h3
theorem chk_194 : ∀ y, 194 ≤ y → y < 197 → chkM y = true := by
  intro y h1 h2
  have h : (List.range 3).all (fun k => chkM (194 + k)) = true := by decide +kernel
  have h3 := List.all_eq_true.mp h (y - 194) (List.mem_range.mpr (by omega))
  rwa [show 194 + (y - 194) = y by omega] at h3
theorem chk_197 : ∀ y, 197 ≤ y → y < 200 → chkM y = true := by
  intro y h1 h2
  have h : (List.range 3).all (fun k => chkM (197 + k)) = true := by decide +kernel
  have h3 := List.all_eq_true.mp h (y - 197) (List.mem_range.mpr (by omega))
  rwa [show 197 + (y - 197) = y by omega] at h3
theorem chk_200 : ∀ y, 200 ≤ y → y < 203 → chkM y = true := by
  intro y h1 h2
  have h : (List.range 3).all (fun k => chkM (200 + k)) = true := by decide +kernel
  have h3 := List.all_eq_true.mp h (y - 200) (List.mem_range.mpr (by omega))
  rwa [show 200 + (y - 200) = y by omega] at h3
theorem chk_203 : ∀ y, 203 ≤ y → y < 207 → chkM y = true := by
  intro y h1 h2
  have h : (List.range 4).all (fun k => chkM (203 + k)) = true := by decide +kernel
  have h3 := List.all_eq_true.mp h (y - 203) (List.mem_range.mpr (by omega))
  rwa [show 203 + (y - 203) = y by omega] at h3
end
section
/-! each method's blocks are its bytecode -/
theorem chk_207 : ∀ y, 207 ≤ y → y < 208 → chkM y = true := by
  intro y h1 h2
  have h : (List.range 1).all (fun k => chkM (207 + k)) = true := by decide +kernel
  have h3 := List.all_eq_true.mp h (y - 207) (List.mem_range.mpr (by omega))
  rwa [show 207 + (y - 207) = y by omega] at h3
theorem chk_208 : ∀ y, 208 ≤ y → y < 210 → chkM y = true := by
  intro y h1 h2
  have h : (List.range 2).all (fun k => chkM (208 + k)) = true := by decide +kernel
  have h3 := List.all_eq_true.mp h (y - 208) (List.mem_range.mpr (by omega))
  rwa [show 208 + (y - 208) = y by omega] at h3
theorem chk_210 : ∀ y, 210 ≤ y → y < 215 → chkM y = true := by
  intro y h1 h2
  have h : (List.range 5).all (fun k => chkM (210 + k)) = true := by decide +kernel
  have h3 := List.all_eq_true.mp h (y - 210) (List.mem_range.mpr (by omega))
  rwa [show 210 + (y - 210) = y by omega] at h3
theorem chk_215 : ∀ y, 215 ≤ y → y < 218 → chkM y = true := by
  intro y h1 h2
  have h : (List.range 3).all (fun k => chkM (215 + k)) = true := by decide +kernel
  have h3 := List.all_eq_true.mp h (y - 215) (List.mem_range.mpr (by omega))
  rwa [show 215 + (y - 215) = y by omega] at h3
theorem chk_218 : ∀ y, 218 ≤ y → y < 222 → chkM y = true := by
  intro y h1 h2
  have h : (List.range 4).all (fun k => chkM (218 + k)) = true := by decide +kernel
  have h3 := List.all_eq_true.mp h (y - 218) (List.mem_range.mpr (by omega))
  rwa [show 218 + (y - 218) = y by omega] at h3
theorem chk_222 : ∀ y, 222 ≤ y → y < 225 → chkM y = true := by
  intro y h1 h2
  have h : (List.range 3).all (fun k => chkM (222 + k)) = true := by decide +kernel
  have h3 := List.all_eq_true.mp h (y - 222) (List.mem_range.mpr (by omega))
  rwa [show 222 + (y - 222) = y by omega] at h3
theorem chk_225 : ∀ y, 225 ≤ y → y < 229 → chkM y = true := by
  intro y h1 h2
  have h : (List.range 4).all (fun k => chkM (225 + k)) = true := by decide +kernel
  have h3 := List.all_eq_true.mp h (y - 225) (List.mem_range.mpr (by omega))
  rwa [show 225 + (y - 225) = y by omega] at h3
theorem chk_229 : ∀ y, 229 ≤ y → y < 234 → chkM y = true := by
  intro y h1 h2
  have h : (List.range 5).all (fun k => chkM (229 + k)) = true := by decide +kernel
  have h3 := List.all_eq_true.mp h (y - 229) (List.mem_range.mpr (by omega))
  rwa [show 229 + (y - 229) = y by omega] at h3
theorem chk_234 : ∀ y, 234 ≤ y → y < 238 → chkM y = true := by
  intro y h1 h2
  have h : (List.range 4).all (fun k => chkM (234 + k)) = true := by decide +kernel
  have h3 := List.all_eq_true.mp h (y - 234) (List.mem_range.mpr (by omega))
  rwa [show 234 + (y - 234) = y by omega] at h3
theorem chk_238 : ∀ y, 238 ≤ y → y < 241 → chkM y = true := by
  intro y h1 h2
  have h : (List.range 3).all (fun k => chkM (238 + k)) = true := by decide +kernel
  have h3 := List.all_eq_true.mp h (y - 238) (List.mem_range.mpr (by omega))
  rwa [show 238 + (y - 238) = y by omega] at h3
theorem chk_all (y : Nat) (h : y < 241) : chkM y = true := by
  rcases Nat.lt_or_ge y 5 with h5 | h5
  · exact chk_0 y (by omega) h5
  rcases Nat.lt_or_ge y 13 with h13 | h13
  · exact chk_5 y (by omega) h13
  rcases Nat.lt_or_ge y 20 with h20 | h20
  · exact chk_13 y (by omega) h20
  rcases Nat.lt_or_ge y 29 with h29 | h29
  · exact chk_20 y (by omega) h29
  rcases Nat.lt_or_ge y 38 with h38 | h38
  · exact chk_29 y (by omega) h38
  rcases Nat.lt_or_ge y 46 with h46 | h46
  · exact chk_38 y (by omega) h46
  rcases Nat.lt_or_ge y 52 with h52 | h52
  · exact chk_46 y (by omega) h52
  rcases Nat.lt_or_ge y 57 with h57 | h57
  · exact chk_52 y (by omega) h57
  rcases Nat.lt_or_ge y 66 with h66 | h66
  · exact chk_57 y (by omega) h66
  rcases Nat.lt_or_ge y 76 with h76 | h76
  · exact chk_66 y (by omega) h76
  rcases Nat.lt_or_ge y 82 with h82 | h82
  · exact chk_76 y (by omega) h82
  rcases Nat.lt_or_ge y 88 with h88 | h88
  · exact chk_82 y (by omega) h88
  rcases Nat.lt_or_ge y 96 with h96 | h96
  · exact chk_88 y (by omega) h96
  rcases Nat.lt_or_ge y 102 with h102 | h102
  · exact chk_96 y (by omega) h102
  rcases Nat.lt_or_ge y 109 with h109 | h109
  · exact chk_102 y (by omega) h109
  rcases Nat.lt_or_ge y 114 with h114 | h114
  · exact chk_109 y (by omega) h114
  rcases Nat.lt_or_ge y 118 with h118 | h118
  · exact chk_114 y (by omega) h118
  rcases Nat.lt_or_ge y 122 with h122 | h122
  · exact chk_118 y (by omega) h122
  rcases Nat.lt_or_ge y 129 with h129 | h129
  · exact chk_122 y (by omega) h129
  rcases Nat.lt_or_ge y 134 with h134 | h134
  · exact chk_129 y (by omega) h134
  rcases Nat.lt_or_ge y 141 with h141 | h141
  · exact chk_134 y (by omega) h141
  rcases Nat.lt_or_ge y 148 with h148 | h148
  · exact chk_141 y (by omega) h148
  rcases Nat.lt_or_ge y 150 with h150 | h150
  · exact chk_148 y (by omega) h150
  rcases Nat.lt_or_ge y 151 with h151 | h151
  · exact chk_150 y (by omega) h151
  rcases Nat.lt_or_ge y 157 with h157 | h157
  · exact chk_151 y (by omega) h157
  rcases Nat.lt_or_ge y 162 with h162 | h162
  · exact chk_157 y (by omega) h162
  rcases Nat.lt_or_ge y 166 with h166 | h166
  · exact chk_162 y (by omega) h166
  rcases Nat.lt_or_ge y 173 with h173 | h173
  · exact chk_166 y (by omega) h173
  rcases Nat.lt_or_ge y 178 with h178 | h178
  · exact chk_173 y (by omega) h178
  rcases Nat.lt_or_ge y 181 with h181 | h181
  · exact chk_178 y (by omega) h181
  rcases Nat.lt_or_ge y 188 with h188 | h188
  · exact chk_181 y (by omega) h188
  rcases Nat.lt_or_ge y 194 with h194 | h194
  · exact chk_188 y (by omega) h194
  rcases Nat.lt_or_ge y 197 with h197 | h197
  · exact chk_194 y (by omega) h197
  rcases Nat.lt_or_ge y 200 with h200 | h200
  · exact chk_197 y (by omega) h200
  rcases Nat.lt_or_ge y 203 with h203 | h203
  · exact chk_200 y (by omega) h203
  rcases Nat.lt_or_ge y 207 with h207 | h207
  · exact chk_203 y (by omega) h207
  rcases Nat.lt_or_ge y 208 with h208 | h208
  · exact chk_207 y (by omega) h208
  rcases Nat.lt_or_ge y 210 with h210 | h210
  · exact chk_208 y (by omega) h210
  rcases Nat.lt_or_ge y 215 with h215 | h215
  · exact chk_210 y (by omega) h215
  rcases Nat.lt_or_ge y 218 with h218 | h218
  · exact chk_215 y (by omega) h218
  rcases Nat.lt_or_ge y 222 with h222 | h222
  · exact chk_218 y (by omega) h222
  rcases Nat.lt_or_ge y 225 with h225 | h225
  · exact chk_222 y (by omega) h225
  rcases Nat.lt_or_ge y 229 with h229 | h229
  · exact chk_225 y (by omega) h229
  rcases Nat.lt_or_ge y 234 with h234 | h234
  · exact chk_229 y (by omega) h234
  rcases Nat.lt_or_ge y 238 with h238 | h238
  · exact chk_234 y (by omega) h238
  exact chk_238 y (by omega) h
end
section
/-! the law, some blocks at a time -/
theorem gl_lt0 {α : Type} {l : List α} {k : Nat} {a : α} (h : gl l k = some a) : k < l.length := by
  induction l generalizing k with
  | nil => cases h
  | cons b l ih =>
    cases k with
    | zero => exact Nat.zero_lt_succ _
    | succ k => exact Nat.succ_lt_succ (ih h)
theorem chl_0 : ∀ b, 0 ≤ b → b < 30 → chkAt 241 b = true := by
  intro b h1 h2
  have h : (List.range 30).all (fun k => chkAt 241 (0 + k)) = true := by decide +kernel
  have h3 := List.all_eq_true.mp h (b - 0) (List.mem_range.mpr (by omega))
  rwa [show 0 + (b - 0) = b by omega] at h3
theorem chl_30 : ∀ b, 30 ≤ b → b < 60 → chkAt 241 b = true := by
  intro b h1 h2
  have h : (List.range 30).all (fun k => chkAt 241 (30 + k)) = true := by decide +kernel
  have h3 := List.all_eq_true.mp h (b - 30) (List.mem_range.mpr (by omega))
  rwa [show 30 + (b - 30) = b by omega] at h3
theorem chl_60 : ∀ b, 60 ≤ b → b < 90 → chkAt 241 b = true := by
  intro b h1 h2
  have h : (List.range 30).all (fun k => chkAt 241 (60 + k)) = true := by decide +kernel
  have h3 := List.all_eq_true.mp h (b - 60) (List.mem_range.mpr (by omega))
  rwa [show 60 + (b - 60) = b by omega] at h3
theorem chl_90 : ∀ b, 90 ≤ b → b < 120 → chkAt 241 b = true := by
  intro b h1 h2
  have h : (List.range 30).all (fun k => chkAt 241 (90 + k)) = true := by decide +kernel
  have h3 := List.all_eq_true.mp h (b - 90) (List.mem_range.mpr (by omega))
  rwa [show 90 + (b - 90) = b by omega] at h3
theorem chl_120 : ∀ b, 120 ≤ b → b < 150 → chkAt 241 b = true := by
  intro b h1 h2
  have h : (List.range 30).all (fun k => chkAt 241 (120 + k)) = true := by decide +kernel
  have h3 := List.all_eq_true.mp h (b - 120) (List.mem_range.mpr (by omega))
  rwa [show 120 + (b - 120) = b by omega] at h3
theorem chl_150 : ∀ b, 150 ≤ b → b < 180 → chkAt 241 b = true := by
  intro b h1 h2
  have h : (List.range 30).all (fun k => chkAt 241 (150 + k)) = true := by decide +kernel
  have h3 := List.all_eq_true.mp h (b - 150) (List.mem_range.mpr (by omega))
  rwa [show 150 + (b - 150) = b by omega] at h3
theorem chl_180 : ∀ b, 180 ≤ b → b < 210 → chkAt 241 b = true := by
  intro b h1 h2
  have h : (List.range 30).all (fun k => chkAt 241 (180 + k)) = true := by decide +kernel
  have h3 := List.all_eq_true.mp h (b - 180) (List.mem_range.mpr (by omega))
  rwa [show 180 + (b - 180) = b by omega] at h3
theorem chl_210 : ∀ b, 210 ≤ b → b < 240 → chkAt 241 b = true := by
  intro b h1 h2
  have h : (List.range 30).all (fun k => chkAt 241 (210 + k)) = true := by decide +kernel
  have h3 := List.all_eq_true.mp h (b - 210) (List.mem_range.mpr (by omega))
  rwa [show 210 + (b - 210) = b by omega] at h3
theorem chl_240 : ∀ b, 240 ≤ b → b < 270 → chkAt 241 b = true := by
  intro b h1 h2
  have h : (List.range 30).all (fun k => chkAt 241 (240 + k)) = true := by decide +kernel
  have h3 := List.all_eq_true.mp h (b - 240) (List.mem_range.mpr (by omega))
  rwa [show 240 + (b - 240) = b by omega] at h3
theorem chl_270 : ∀ b, 270 ≤ b → b < 272 → chkAt 241 b = true := by
  intro b h1 h2
  have h : (List.range 2).all (fun k => chkAt 241 (270 + k)) = true := by decide +kernel
  have h3 := List.all_eq_true.mp h (b - 270) (List.mem_range.mpr (by omega))
  rwa [show 270 + (b - 270) = b by omega] at h3
theorem chl_all (b : Nat) (h : b < 272) : chkAt 241 b = true := by
  rcases Nat.lt_or_ge b 30 with h30 | h30
  · exact chl_0 b (by omega) h30
  rcases Nat.lt_or_ge b 60 with h60 | h60
  · exact chl_30 b (by omega) h60
  rcases Nat.lt_or_ge b 90 with h90 | h90
  · exact chl_60 b (by omega) h90
  rcases Nat.lt_or_ge b 120 with h120 | h120
  · exact chl_90 b (by omega) h120
  rcases Nat.lt_or_ge b 150 with h150 | h150
  · exact chl_120 b (by omega) h150
  rcases Nat.lt_or_ge b 180 with h180 | h180
  · exact chl_150 b (by omega) h180
  rcases Nat.lt_or_ge b 210 with h210 | h210
  · exact chl_180 b (by omega) h210
  rcases Nat.lt_or_ge b 240 with h240 | h240
  · exact chl_210 b (by omega) h240
  rcases Nat.lt_or_ge b 270 with h270 | h270
  · exact chl_240 b (by omega) h270
  exact chl_270 b (by omega) h
theorem chkBs_at (o y : Nat) (pcs : List Nat) : ∀ (ps : List Nat) (qs : List Blk) (b : Nat) (q : Blk), chkBs o y pcs ps qs = true → gl qs b = some q → ∃ pc, gl ps b = some pc ∧ chkB o y pcs pc q = true := by
  intro ps
  induction ps with
  | nil => intro qs b q h hb; cases qs with
    | nil => cases hb
    | cons _ _ => cases h
  | cons p ps ih =>
    intro qs b q h hb
    cases qs with
    | nil => cases h
    | cons r qs =>
      have h2 : (chkB o y pcs p r && chkBs o y pcs ps qs) = true := h
      rw [Bool.and_eq_true] at h2
      cases b with
      | zero => cases hb; exact ⟨p, rfl, h2.1⟩
      | succ b => exact ih qs b q h2.2 hb
set_option maxRecDepth 100000 in
theorem chk_at {y b : Nat} {q : Blk} (hy : y < 242) (hb : blkOf y b = some q) : ∃ pc, gl (pcs y) b = some pc ∧ chkB (yo y) y (pcs y) pc q = true := by
  rcases Nat.lt_or_ge y 241 with h | h
  · have h1 := chk_all y h
    unfold chkM at h1
    rw [Bool.and_eq_true] at h1
    have h2 : blkOf y b = gl ((gl PG y).getD []) b := by
      unfold blkOf
      cases gl PG y <;> rfl
    rw [h2] at hb
    exact chkBs_at _ _ _ _ _ _ _ h1.2 hb
  · have : y = 241 := by omega
    subst this
    have hl : b < 272 := by
      have h4 : b < mb_Lw_law.length := gl_lt0 (l := mb_Lw_law) hb
      have h5 : mb_Lw_law.length = 272 := by decide +kernel
      omega
    have h1 := chl_all b hl
    unfold chkAt at h1
    rw [hb] at h1
    cases hp : gl (pcs 241) b with
    | none => rw [hp] at h1; cases h1
    | some pc => rw [hp] at h1; exact ⟨pc, rfl, h1⟩
theorem chk_head {y : Nat} (hy : y < 242) : (pcs y).headD 9 = 0 := by
  rcases Nat.lt_or_ge y 241 with h | h
  · have h1 := chk_all y h
    unfold chkM at h1
    rw [Bool.and_eq_true] at h1
    exact Nat.eq_of_beq_eq_true h1.1
  · have : y = 241 := by omega
    subst this
    rfl
end
section
/-! facts of the tables by places, as the walk uses them -/
/-- the word kind of a field: 0 int, 1 boolean, 2 long, 3 reference -/
def fk (c k : Nat) : Option Nat := match gl FDL c with
  | some l => gl l k
  | none => none
def gT : List Cond := lw_tbl.filter goodWord
theorem in_gT {w : Cond} (h1 : w ∈ lw_tbl) (h2 : goodWord w = true) : w ∈ gT := List.mem_filter.mpr ⟨h1, h2⟩
theorem at_tb {w : Cond} {i : Nat} (h : tables_1[i]? = some w) : w ∈ lw_tbl := List.mem_append_right _ (List.mem_of_getElem? h)
theorem all_of {α : Type} {l : List α} {p : α → Bool} (h : l.all p = true) {a : α} (ha : a ∈ l) : p a = true := List.all_eq_true.mp h a ha
theorem beq2 {a b c d : Nat} (h : (Nat.beq a b && Nat.beq c d) = true) : a = b ∧ c = d := by
  rw [Bool.and_eq_true] at h
  exact ⟨Nat.eq_of_beq_eq_true h.1, Nat.eq_of_beq_eq_true h.2⟩
theorem fldT_w {o i c k : Nat} (h : fldT o i = some (c, k)) : Cond.fieldLink (cn o) i (cn c) ((cT c).2.1 k).2.1 ((cT c).2.1 k).2.2.1 ∈ gT := by
  obtain ⟨q, hq, e⟩ := Option.map_eq_some_iff.mp h
  have hm := List.mem_of_find?_eq_some hq
  have hp0 := List.find?_some hq
  have hp : (Nat.beq q.1 o && Nat.beq q.2.1 i) = true := hp0
  obtain ⟨e1, e2⟩ := beq2 hp
  have hw := of_decide_eq_true (all_of fll_ok hm)
  obtain ⟨a1, a2, a3, a4, a5⟩ := q
  cases e; subst e1; subst e2
  exact in_gT (at_tb hw) rfl
theorem mthT_w {o i y k : Nat} (h : mthT o i = some (y, k)) : (k = 0 → Cond.methodLink (cn o) i (yn y) ∈ gT) ∧ (k ≠ 0 → Cond.methodLinkNest (cn o) i (yn y) "BlackRoad" ∈ lw_tbl ∧ ∃ q ∈ MLL, q.1 = o ∧ q.2.1 = i ∧ q.2.2.1 = y ∧ q.2.2.2.1 = k) := by
  obtain ⟨q, hq, e⟩ := Option.map_eq_some_iff.mp h
  have hm := List.mem_of_find?_eq_some hq
  have hp0 := List.find?_some hq
  have hp : (Nat.beq q.1 o && Nat.beq q.2.1 i) = true := hp0
  obtain ⟨e1, e2⟩ := beq2 hp
  have hw := of_decide_eq_true (all_of mll_ok hm)
  obtain ⟨a1, a2, a3, a4, a5⟩ := q
  cases e; subst e1; subst e2
  dsimp only at hw
  refine ⟨fun hk => ?_, fun hk => ?_⟩
  · rw [if_pos hk] at hw
    exact in_gT (at_tb hw) rfl
  · rw [if_neg hk] at hw
    exact ⟨at_tb hw, _, hm, rfl, rfl, rfl, rfl⟩
theorem clsT_w {o i c : Nat} (h : clsT o i = some c) : Cond.classLink (cn o) i (cn c) ∈ gT := by
  obtain ⟨q, hq, e⟩ := Option.map_eq_some_iff.mp h
  have hm := List.mem_of_find?_eq_some hq
  have hp0 := List.find?_some hq
  have hp : (Nat.beq q.1 o && Nat.beq q.2.1 i) = true := hp0
  obtain ⟨e1, e2⟩ := beq2 hp
  have hw := of_decide_eq_true (all_of cll_ok hm)
  obtain ⟨a1, a2, a3, a4⟩ := q
  cases e; subst e1; subst e2
  exact in_gT (at_tb hw) rfl
theorem conT_w {o i : Nat} {v : Int} (h : conT o i = some v) : Cond.constant (cn o) i (Int32.ofInt v) ∈ gT := by
  obtain ⟨q, hq, e⟩ := Option.map_eq_some_iff.mp h
  have hm := List.mem_of_find?_eq_some hq
  have hp0 := List.find?_some hq
  have hp : (Nat.beq q.1 o && Nat.beq q.2.1 i) = true := hp0
  obtain ⟨e1, e2⟩ := beq2 hp
  have hw := of_decide_eq_true (all_of kil_ok hm)
  obtain ⟨a1, a2, a3, a4⟩ := q
  cases e; subst e1; subst e2
  exact in_gT (at_tb hw) rfl
theorem conLT_w {o i : Nat} {v : Int} (h : conLT o i = some v) : Cond.constantLong (cn o) i (Int64.ofInt v) ∈ gT := by
  obtain ⟨q, hq, e⟩ := Option.map_eq_some_iff.mp h
  have hm := List.mem_of_find?_eq_some hq
  have hp0 := List.find?_some hq
  have hp : (Nat.beq q.1 o && Nat.beq q.2.1 i) = true := hp0
  obtain ⟨e1, e2⟩ := beq2 hp
  have hw := of_decide_eq_true (all_of kll_ok hm)
  obtain ⟨a1, a2, a3, a4⟩ := q
  cases e; subst e1; subst e2
  exact in_gT (at_tb hw) rfl
theorem objT_w {o i : Nat} (h : objT o i = true) : Cond.methodLink (cn o) i objectInit ∈ gT := by
  obtain ⟨q, hm, hq⟩ := List.any_eq_true.mp h
  obtain ⟨e1, e2⟩ := beq2 hq
  have hw := of_decide_eq_true (all_of obl_ok hm)
  obtain ⟨a1, a2, a3⟩ := q
  subst e1; subst e2
  exact in_gT (at_tb hw) rfl
theorem arcT_w {o i : Nat} (h : arcT o i = true) : Cond.methodLink (cn o) i arraycopyName ∈ gT := by
  obtain ⟨q, hm, hq⟩ := List.any_eq_true.mp h
  obtain ⟨e1, e2⟩ := beq2 hq
  have hw := of_decide_eq_true (all_of acl_ok hm)
  obtain ⟨a1, a2, a3⟩ := q
  subst e1; subst e2
  exact in_gT (at_tb hw) rfl
theorem strT_w {o i j : Nat} (h : strT o i = some j) : (o, i, j) ∈ STL := by
  obtain ⟨q, hq, e⟩ := Option.map_eq_some_iff.mp h
  have hm := List.mem_of_find?_eq_some hq
  have hp0 := List.find?_some hq
  have hp : (Nat.beq q.1 o && Nat.beq q.2.1 i) = true := hp0
  obtain ⟨e1, e2⟩ := beq2 hp
  obtain ⟨a1, a2, a3⟩ := q
  cases e; subst e1; subst e2
  exact hm
theorem cls_hc : ∀ c, c < 13 → vwCl[c]? = some ((cT c).1, (cT c).2.1, (cT c).2.2) := by
  intro c h
  have h2 : c = 0 ∨ c = 1 ∨ c = 2 ∨ c = 3 ∨ c = 4 ∨ c = 5 ∨ c = 6 ∨ c = 7 ∨ c = 8 ∨ c = 9 ∨ c = 10 ∨ c = 11 ∨ c = 12 := by omega
  rcases h2 with rfl | rfl | rfl | rfl | rfl | rfl | rfl | rfl | rfl | rfl | rfl | rfl | rfl <;> rfl
def tyf (c : Nat) : Nat → FieldType := match c with
  | 0 => tyX0
  | 1 => tyX1
  | 2 => tyX2
  | 3 => tyX3
  | 4 => tyX4
  | 5 => tyX5
  | 6 => tyX6
  | 7 => tyX7
  | 8 => tyX8
  | 9 => tyX9
  | 10 => tyX10
  | 11 => tyX11
  | _ => tyX12
theorem tyf_ok : ∀ c, c < 13 → ∀ k, k < (cT c).2.2 → parseFieldDescriptor ((cT c).2.1 k).2.2.1 = some (tyf c k) := by
  intro c h
  have h2 : c = 0 ∨ c = 1 ∨ c = 2 ∨ c = 3 ∨ c = 4 ∨ c = 5 ∨ c = 6 ∨ c = 7 ∨ c = 8 ∨ c = 9 ∨ c = 10 ∨ c = 11 ∨ c = 12 := by omega
  rcases h2 with rfl | rfl | rfl | rfl | rfl | rfl | rfl | rfl | rfl | rfl | rfl | rfl | rfl
  · exact tyX0_ok
  · exact tyX1_ok
  · exact tyX2_ok
  · exact tyX3_ok
  · exact tyX4_ok
  · exact tyX5_ok
  · exact tyX6_ok
  · exact tyX7_ok
  · exact tyX8_ok
  · exact tyX9_ok
  · exact tyX10_ok
  · exact tyX11_ok
  · exact tyX12_ok
theorem nmf_ok : ∀ c, c < 13 → ∀ a, a < (cT c).2.2 → ∀ b, b < (cT c).2.2 → a ≠ b → ((cT c).2.1 a).2.1 ≠ ((cT c).2.1 b).2.1 := by
  intro c h
  have h2 : c = 0 ∨ c = 1 ∨ c = 2 ∨ c = 3 ∨ c = 4 ∨ c = 5 ∨ c = 6 ∨ c = 7 ∨ c = 8 ∨ c = 9 ∨ c = 10 ∨ c = 11 ∨ c = 12 := by omega
  rcases h2 with rfl | rfl | rfl | rfl | rfl | rfl | rfl | rfl | rfl | rfl | rfl | rfl | rfl
  · exact nmX0
  · exact nmX1
  · exact nmX2
  · exact nmX3
  · exact nmX4
  · exact nmX5
  · exact nmX6
  · exact nmX7
  · exact nmX8
  · exact nmX9
  · exact nmX10
  · exact nmX11
  · exact nmX12
def kindOk (k : Option Nat) (t : FieldType) : Bool := match k, t with
  | some 0, .int => true
  | some 1, .boolean => true
  | some 2, .long => true
  | some 3, .object _ => true
  | some 3, .array _ => true
  | _, _ => false
theorem knd_ok0 : (List.range 13).all (fun c => decide (((gl FDL c).getD []).length = (cT c).2.2) && (List.range (cT c).2.2).all (fun k => kindOk (fk c k) (tyf c k) && decide (((cT c).2.1 k).1 = cn c))) = true := by decide +kernel
theorem knd_ok {c k : Nat} (hc : c < 13) (hk : k < (cT c).2.2) : ((gl FDL c).getD []).length = (cT c).2.2 ∧ kindOk (fk c k) (tyf c k) = true ∧ ((cT c).2.1 k).1 = cn c := by
  have h := all_of knd_ok0 (List.mem_range.mpr hc)
  rw [Bool.and_eq_true] at h
  have h2 := all_of h.2 (List.mem_range.mpr hk)
  rw [Bool.and_eq_true] at h2
  exact ⟨of_decide_eq_true h.1, h2.1, of_decide_eq_true h2.2⟩
theorem fdl_len {c : Nat} (hc : c < 13) : ((gl FDL c).getD []).length = (cT c).2.2 := by
  have h := all_of knd_ok0 (List.mem_range.mpr hc)
  rw [Bool.and_eq_true] at h
  exact of_decide_eq_true h.1
theorem lay_w {c : Nat} (hc : c < 13) : ∀ w ∈ u_ws (cT c).1 (cT c).2.1 (cT c).2.2, w ∈ gT := by
  intro w hw
  obtain ⟨k, hk, rfl⟩ := List.mem_map.mp hw
  have h := of_decide_eq_true (all_of (all_of lyp_ok (List.mem_range.mpr hc)) hk)
  refine in_gT (at_tb h) ?_
  unfold u_lay
  split <;> rfl
theorem clp_w {c : Nat} (hc : c < 13) : Cond.instantiable (cT c).1 (cT c).2.2 ∈ gT ∧ Cond.initialized (cT c).1 ∈ gT ∧ cn c = (cT c).1 := by
  have h := all_of clp_ok (List.mem_range.mpr hc)
  rw [Bool.and_eq_true, Bool.and_eq_true] at h
  exact ⟨in_gT (at_tb (of_decide_eq_true h.1)) rfl, in_gT (at_tb (of_decide_eq_true h.2.1)) rfl, of_decide_eq_true h.2.2⟩
def NM : Nat := 241
def SEP : List Nat := [0, 0, 0, 0, 0, 0, 0, 0, 376, 0, 0, 0, 0, 0, 0, 665, 0, 672, 677, 0, 1, 0, 2, 3, 4, 709, 713, 717, 0, 5, 730, 734, 739, 743, 748, 752, 756, 763, 767, 772, 776, 780, 784, 788, 793, 797, 801, 806, 810, 814, 6, 822, 826, 0, 0, 0, 842, 7, 0, 854, 858, 862, 868, 872, 0, 0, 0, 910, 916, 924, 930, 934, 8, 9, 10, 0, 11, 12, 965, 969, 13, 14, 15, 16, 17, 0, 1018, 1022, 1026, 1030, 1034, 1038, 1042, 18, 19, 1054, 1059, 20, 1069, 1073, 1078, 1086, 1090, 21, 1099, 1103, 1108, 1113, 22, 23, 1126, 24, 1134, 0, 25, 26, 1164, 27, 28, 1183, 29, 1193, 1200, 1204, 1208, 30, 31, 1223, 32, 1231, 1236, 1240, 1245, 1249, 33, 34, 1265, 35, 36, 1281, 1285, 1290, 1295, 0, 1305, 1309, 37, 1320, 1324, 1328, 0, 1687, 0, 1694, 1698, 38, 39, 40, 41, 1719, 1723, 1727, 42, 1737, 1741, 1745, 1749, 1753, 1757, 1761, 43, 1769, 1773, 44, 45, 46, 0, 0, 47, 48, 0, 49, 50, 51, 52, 1823, 1827, 53, 54, 55, 56, 57, 1851, 58, 59, 60, 61, 62, 63, 64, 65, 66, 67, 68, 69, 70, 71, 72, 73, 1920, 74, 1928, 1932, 1936, 1940, 1944, 75, 76, 77, 78, 79, 80, 81, 1976, 82, 83, 84, 85, 86, 87, 88, 89, 2016, 0, 90, 0, 0, 2037, 91, 2047, 2051]
theorem ycd_w {y : Nat} (hy : y < 241) : Cond.code (yn y) (yc y) (ml y) (yr y) ∈ gT := in_gT (at_tb (ycd y hy)) rfl
theorem yp_w {y : Nat} (hy : y < 241) : (if (gl YST y).getD true then Cond.static (yn y) else Cond.instanceMethod (yn y)) ∈ gT ∧ Cond.initialized (yn y).cls ∈ gT := by
  have h := all_of yp2_ok (List.mem_range.mpr hy)
  rw [Bool.and_eq_true] at h
  refine ⟨in_gT (at_tb (of_decide_eq_true h.1)) ?_, in_gT (at_tb (of_decide_eq_true h.2)) rfl⟩
  split <;> rfl
theorem sel_ok : (List.range 241).all (fun y => (gl YST y).getD true || (yin y || decide (lw_tbl[(gl SEP y).getD 9999]? = some (Cond.selects (yn y).cls (yn y) (yn y))))) = true := by decide +kernel
theorem sel_w {y : Nat} (hy : y < 241) (h1 : (gl YST y).getD true = false) (h2 : yin y = false) : Cond.selects (yn y).cls (yn y) (yn y) ∈ gT := by
  have h := all_of sel_ok (List.mem_range.mpr hy)
  rw [h1, h2] at h
  exact in_gT (List.mem_of_getElem? (of_decide_eq_true h)) rfl
def rcvN (y : Nat) : Bool := match (gl RCV y).getD 99 with
  | 99 => true
  | 50 => decide ((yn y).cls = "java/lang/String")
  | c => Nat.blt c 13 && decide ((yn y).cls = (cT c).1)
theorem yfx_ok : (List.range 241).all (fun y => (plainName (yn y).cls && (decide ((yn y).cls ≠ "java/lang/invoke/MethodHandle") && decide ((yn y).cls ≠ "java/lang/invoke/VarHandle"))) && ((decide ((parseMethodDescriptor (yn y).desc).map (fun d => d.parameters.length) = some (na y - (if (gl YST y).getD true then 0 else 1))) && (decide ((yn y).cls = cn (yo y)) && (rcvN y && Nat.ble (ml y) 13))) && (decide (yin y = decide ((yn y).name = "<init>")) && ((!yin y || decide (yr y = none)) && ((gl YST y).getD true || Nat.ble 1 (na y)))))) = true := by decide +kernel
theorem yst_rcv : (List.range 241).all (fun y => decide ((gl YST y).getD true = Nat.beq ((gl RCV y).getD 99) 99)) = true := by decide +kernel
end
section
/-! A SMALL MACHINE of whole numbers: what the walked methods do, as a function that computes. Ints and longs are whole numbers (kept in their range), references are numbers: 0 none, k + 1 the k-th cell that was made; and those of things outside: 0 the script, 1 a thing that nobody looks at, 10 + j the j-th text constant, 40 + j its bytes. -/
def w32 (x : Int) : Int := (x + 2147483648) % 4294967296 - 2147483648
def w64 (x : Int) : Int := (x + 9223372036854775808) % 18446744073709551616 - 9223372036854775808
def w16 (x : Int) : Int := (x + 32768) % 65536 - 32768
def iandI (x y : Int) : Int := (Int32.ofInt x &&& Int32.ofInt y).toInt
def iorI (x y : Int) : Int := (Int32.ofInt x ||| Int32.ofInt y).toInt
def ishlI (x y : Int) : Int := (Int32.ofInt x <<< (Int32.ofInt y &&& 31)).toInt
def ishrI (x y : Int) : Int := (Int32.ofInt x >>> (Int32.ofInt y &&& 31)).toInt
def iushrI (x y : Int) : Int := ((Int32.ofInt x).toUInt32 >>> ((Int32.ofInt y).toUInt32 &&& Int32.toUInt32 31)).toInt32.toInt
def lshlI (x y : Int) : Int := (Int64.ofInt x <<< ((Int32.ofInt y).toInt64 &&& 63)).toInt
def lorI (x y : Int) : Int := (Int64.ofInt x ||| Int64.ofInt y).toInt
def lcmpI (x y : Int) : Int := if x < y then -1 else if x = y then 0 else 1
abbrev AV : Type := Int ⊕ (Int ⊕ (Nat ⊕ Nat))
abbrev Mm : Type := (Nat → Nat → Int) × (Nat → Nat → Nat) × List (Nat × Nat)
abbrev Fr : Type := List (Option AV) × List AV × Mm
abbrev Xs : Type := Nat × (Nat → Int)
def sl {α : Type} : List α → Nat → α → List α
  | [], _, _ => []
  | _ :: l, 0, v => v :: l
  | a :: l, k + 1, v => a :: sl l k v
def up (V : Nat → Nat → Int) (a b : Nat) (x : Int) : Nat → Nat → Int := fun i j => if i = a then (if j = b then x else V i j) else V i j
def upG (V : Nat → Nat → Nat) (a b : Nat) (x : Nat) : Nat → Nat → Nat := fun i j => if i = a then (if j = b then x else V i j) else V i j
def zr (V : Nat → Nat → Int) (a : Nat) : Nat → Nat → Int := fun i j => if i = a then 0 else V i j
def zrG (V : Nat → Nat → Nat) (a : Nat) : Nat → Nat → Nat := fun i j => if i = a then 0 else V i j
def isL : AV → Bool
  | .inr (.inl _) => true
  | _ => false
def isLo : Option (Option AV) → Bool
  | some (some v) => isL v
  | _ => false
/-- a value of one word into place k: there is no long a place ahead -/
def st1 (L : List (Option AV)) (k : Nat) (v : AV) : Option (List (Option AV)) :=
  match k with
  | 0 => some (sl L 0 (some v))
  | j + 1 => match isLo (gl L j) with
    | true => none
    | false => some (sl L (j + 1) (some v))
def st2 (L : List (Option AV)) (k : Nat) (v : AV) : Option (List (Option AV)) :=
  match k with
  | 0 => some (sl (sl L 0 (some v)) 1 none)
  | j + 1 => match isLo (gl L j) with
    | true => none
    | false => some (sl (sl L (j + 1) (some v)) (j + 2) none)
def getf (c k a : Nat) (M : Mm) : Option AV :=
  match a with
  | 0 => none
  | id + 1 => match gl M.2.2 id with
    | none => none
    | some q => match Nat.beq q.1 c with
      | false => none
      | true => match fk c k with
        | none => none
        | some 3 => some (.inr (.inr (.inl (M.2.1 id k))))
        | some 2 => some (.inr (.inl (M.1 id k)))
        | some _ => some (.inl (M.1 id k))
def isB (x : Int) : Bool := x == 0 || x == 1
def putf (c k a : Nat) (v : AV) (M : Mm) : Option Mm :=
  match a with
  | 0 => none
  | id + 1 => match gl M.2.2 id with
    | none => none
    | some q => match Nat.beq q.1 c with
      | false => none
      | true => match fk c k, v with
        | some 3, .inr (.inr (.inl r)) => some (M.1, upG M.2.1 id k r, M.2.2)
        | some 2, .inr (.inl x) => some (up M.1 id k x, M.2.1, M.2.2)
        | some 1, .inl x => match isB x with
          | true => some (up M.1 id k x, M.2.1, M.2.2)
          | false => none
        | some 0, .inl x => some (up M.1 id k x, M.2.1, M.2.2)
        | _, _ => none
def alen (a : Nat) (M : Mm) : Option Int :=
  match a with
  | 0 => none
  | id + 1 => match gl M.2.2 id with
    | none => none
    | some q => if 100 ≤ q.1 then some (q.2 : Int) else none
def atK : ArrayType → Nat
  | .long => 101
  | .short => 102
  | .boolean => 103
  | .int => 100
  | _ => 0
def newO (c : Nat) (M : Mm) : Mm := (zr M.1 M.2.2.length, zrG M.2.1 M.2.2.length, M.2.2 ++ [(c, 0)])
def newA (k n : Nat) (M : Mm) : Mm := (zr M.1 M.2.2.length, zrG M.2.1 M.2.2.length, M.2.2 ++ [(k, n)])
/-- one instruction that goes on in its row -/
def op1 (X : Xs) (i : Instr) (L : List (Option AV)) (S : List AV) (M : Mm) : Option Fr :=
  match i with
  | .iconst v => some (L, .inl v :: S, M)
  | .jsr_w v => some (L, .inr (.inl v) :: S, M)
  | .ldc j => some (L, .inr (.inr (.inr (10 + j))) :: S, M)
  | .getstatic k => match k with
    | 0 => some (L, .inl 1 :: S, M)
    | _ => some (L, .inr (.inr (.inr 1)) :: S, M)
  | .iload k => match gl L k with
    | some (some (.inl x)) => some (L, .inl x :: S, M)
    | _ => none
  | .lload k => match gl L k with
    | some (some (.inr (.inl x))) => some (L, .inr (.inl x) :: S, M)
    | _ => none
  | .aload k => match gl L k with
    | some (some (.inr (.inr r))) => some (L, .inr (.inr r) :: S, M)
    | _ => none
  | .istore k => match S with
    | .inl x :: S => match st1 L k (.inl x) with
      | some L => some (L, S, M)
      | none => none
    | _ => none
  | .astore k => match S with
    | .inr (.inr r) :: S => match st1 L k (.inr (.inr r)) with
      | some L => some (L, S, M)
      | none => none
    | _ => none
  | .lstore k => match S with
    | .inr (.inl x) :: S => match st2 L k (.inr (.inl x)) with
      | some L => some (L, S, M)
      | none => none
    | _ => none
  | .iinc k n => match gl L k with
    | some (some (.inl x)) => match st1 L k (.inl (w32 (x + n))) with
      | some L => some (L, S, M)
      | none => none
    | _ => none
  | .iadd => match S with
    | .inl y :: .inl x :: S => some (L, .inl (w32 (x + y)) :: S, M)
    | _ => none
  | .isub => match S with
    | .inl y :: .inl x :: S => some (L, .inl (w32 (x - y)) :: S, M)
    | _ => none
  | .imul => match S with
    | .inl y :: .inl x :: S => some (L, .inl (w32 (x * y)) :: S, M)
    | _ => none
  | .ineg => match S with
    | .inl x :: S => some (L, .inl (w32 (-x)) :: S, M)
    | _ => none
  | .iand => match S with
    | .inl y :: .inl x :: S => some (L, .inl (iandI x y) :: S, M)
    | _ => none
  | .ior => match S with
    | .inl y :: .inl x :: S => some (L, .inl (iorI x y) :: S, M)
    | _ => none
  | .ishl => match S with
    | .inl y :: .inl x :: S => some (L, .inl (ishlI x y) :: S, M)
    | _ => none
  | .ishr => match S with
    | .inl y :: .inl x :: S => some (L, .inl (ishrI x y) :: S, M)
    | _ => none
  | .iushr => match S with
    | .inl y :: .inl x :: S => some (L, .inl (iushrI x y) :: S, M)
    | _ => none
  | .ladd => match S with
    | .inr (.inl y) :: .inr (.inl x) :: S => some (L, .inr (.inl (w64 (x + y))) :: S, M)
    | _ => none
  | .lsub => match S with
    | .inr (.inl y) :: .inr (.inl x) :: S => some (L, .inr (.inl (w64 (x - y))) :: S, M)
    | _ => none
  | .lmul => match S with
    | .inr (.inl y) :: .inr (.inl x) :: S => some (L, .inr (.inl (w64 (x * y))) :: S, M)
    | _ => none
  | .lneg => match S with
    | .inr (.inl x) :: S => some (L, .inr (.inl (w64 (-x))) :: S, M)
    | _ => none
  | .lshl => match S with
    | .inl y :: .inr (.inl x) :: S => some (L, .inr (.inl (lshlI x y)) :: S, M)
    | _ => none
  | .lor => match S with
    | .inr (.inl y) :: .inr (.inl x) :: S => some (L, .inr (.inl (lorI x y)) :: S, M)
    | _ => none
  | .lcmp => match S with
    | .inr (.inl y) :: .inr (.inl x) :: S => some (L, .inl (lcmpI x y) :: S, M)
    | _ => none
  | .i2l => match S with
    | .inl x :: S => some (L, .inr (.inl x) :: S, M)
    | _ => none
  | .l2i => match S with
    | .inr (.inl x) :: S => some (L, .inl (w32 x) :: S, M)
    | _ => none
  | .i2s => match S with
    | .inl x :: S => some (L, .inl (w16 x) :: S, M)
    | _ => none
  | .i2c => match S with
    | .inl x :: S => some (L, .inl (x % 65536) :: S, M)
    | _ => none
  | .dup => match S with
    | .inl x :: S => some (L, .inl x :: .inl x :: S, M)
    | .inr (.inr r) :: S => some (L, .inr (.inr r) :: .inr (.inr r) :: S, M)
    | _ => none
  | .dup2 => match S with
    | .inl y :: .inr (.inr x) :: S => some (L, .inl y :: .inr (.inr x) :: .inl y :: .inr (.inr x) :: S, M)
    | _ => none
  | .pop => match S with
    | .inl _ :: S => some (L, S, M)
    | .inr (.inr _) :: S => some (L, S, M)
    | _ => none
  | .pop2 => match S with
    | .inr (.inl _) :: S => some (L, S, M)
    | _ => none
  | .nop => match S with
    | [.inr (.inr (.inl (_ + 1)))] => some (L, [], M)
    | _ => none
  | .getfield r => match S with
    | .inr (.inr (.inl a)) :: S => match getf (r / 1000) (r % 1000) a M with
      | some v => some (L, v :: S, M)
      | none => none
    | _ => none
  | .putfield r => match S with
    | v :: .inr (.inr (.inl a)) :: S => match putf (r / 1000) (r % 1000) a v M with
      | some M => some (L, S, M)
      | none => none
    | _ => none
  | .instanceof k => match S with
    | .inr (.inr (.inr a)) :: S => match Nat.ble 10 a && Nat.blt a 23 with
      | true => match k with
        | 0 => some (L, .inr (.inr (.inr (a + 30))) :: S, M)
        | _ => some (L, .inl 0 :: S, M)
      | false => none
    | _ => none
  | .fadd => match S with
    | .inr (.inr (.inr 0)) :: S => some (L, .inl (X.1 : Int) :: S, M)
    | _ => none
  | .fsub => match S with
    | .inr (.inr (.inr a)) :: S => match Nat.ble 40 a with
      | true => match gl SBY (a - 40) with
        | some l => some (L, .inl (l.length : Int) :: S, M)
        | none => none
      | false => none
    | _ => none
  | .new c => match Nat.blt c 13 with
    | true => some (L, .inr (.inr (.inl (M.2.2.length + 1))) :: S, newO c M)
    | false => none
  | .newarray t => match S with
    | .inl n :: S => match Nat.ble 100 (atK t) && (decide (0 ≤ n) && decide (n ≤ 1000000)) with
      | true => some (L, .inr (.inr (.inl (M.2.2.length + 1))) :: S, newA (atK t) n.toNat M)
      | false => none
    | _ => none
  | _ => none
def runB (X : Xs) : List Instr → Fr → Option Fr
  | [], s => some s
  | i :: is, s => match op1 X i s.1 s.2.1 s.2.2 with
    | some s' => runB X is s'
    | none => none
def cnd : ClassFile.Cond → Int → Int → Bool
  | .eq, x, y => decide (x = y)
  | .ne, x, y => !decide (x = y)
  | .lt, x, y => decide (x < y)
  | .ge, x, y => decide (y ≤ x)
  | .gt, x, y => decide (y < x)
  | .le, x, y => decide (x ≤ y)
def luk : List (Int × Int) → List Nat → Nat → Int → Nat
  | (k, _) :: r, t :: ts, d, x => if x = k then t else luk r ts d x
  | _, _, d, _ => d
def aidx (k : Nat) (a : Nat) (i : Int) (M : Mm) : Bool := match a with
  | 0 => false
  | id + 1 => match gl M.2.2 id with
    | none => false
    | some q => Nat.beq q.1 k && (decide (0 ≤ i) && decide (i < (q.2 : Int)))
def catS : List AV → Nat
  | [] => 0
  | .inr (.inl _) :: S => 2 + catS S
  | _ :: S => 1 + catS S
def entL : List AV → Nat → List (Option AV)
  | _, 0 => []
  | [], n + 1 => none :: entL [] n
  | .inr (.inl x) :: vs, n + 2 => some (.inr (.inl x)) :: none :: entL vs n
  | v :: vs, n + 1 => some v :: entL vs n
def rcvOk (y : Nat) (args : List AV) (M : Mm) : Bool := match (gl RCV y).getD 99 with
  | 99 => true
  | c => match args with
    | .inr (.inr (.inl (id + 1))) :: _ => match gl M.2.2 id with
      | some q => Nat.beq q.1 c
      | none => false
    | .inr (.inr (.inr a)) :: _ => Nat.beq c 50 && (Nat.ble 10 a && Nat.blt a 23)
    | _ => false
def cpy (f g : Nat → Int) (sp dp n : Nat) : Nat → Int := fun k => if dp ≤ k ∧ k < dp + n then f (sp + (k - dp)) else g k
def upR (V : Nat → Nat → Int) (a : Nat) (f : Nat → Int) : Nat → Nat → Int := fun i j => if i = a then f j else V i j
abbrev Res : Type := Option (Mm × Option AV)
/-- how a block ends: 'rec' is what goes on -/
def trm (X : Xs) (rec : Nat → Nat → Nat → Fr → Res) (d y : Nat) (t : Instr) (tg : List Nat) (L : List (Option AV)) (S : List AV) (M : Mm) : Res :=
  match t with
  | .goto _ => rec d y (tb tg 0) (L, S, M)
  | .nop => rec d y (tb tg 0) (L, S, M)
  | .ifCond c _ => match S with
    | .inl x :: S => rec d y (if cnd c x 0 = true then tb tg 0 else tb tg 1) (L, S, M)
    | _ => none
  | .if_icmp c _ => match S with
    | .inl y1 :: .inl x :: S => rec d y (if cnd c x y1 = true then tb tg 0 else tb tg 1) (L, S, M)
    | _ => none
  | .tableswitch _ lo hi _ => match S with
    | .inl x :: S => rec d y (if x < lo ∨ hi < x then tb tg 0 else tb tg ((x - lo).toNat + 1)) (L, S, M)
    | _ => none
  | .lookupswitch _ ps => match S with
    | .inl x :: S => rec d y (luk ps.toList (tg.drop 1) (tb tg 0) x) (L, S, M)
    | _ => none
  | .ireturn => match S with
    | [.inl x] => some (M, some (.inl x))
    | _ => none
  | .freturn => match S with
    | [.inl x] => if isB x = true then some (M, some (.inl x)) else none
    | _ => none
  | .dreturn => match S with
    | [.inl x] => if 0 ≤ x ∧ x < 128 then some (M, some (.inl x)) else none
    | _ => none
  | .lreturn => match S with
    | [.inr (.inl x)] => some (M, some (.inr (.inl x)))
    | _ => none
  | .areturn => match S with
    | [.inr (.inr (.inl (r + 1)))] => some (M, some (.inr (.inr (.inl (r + 1)))))
    | _ => none
  | .return_ => match S with
    | [] => some (M, none)
    | _ => none
  | .iaload => match S with
    | .inl i :: .inr (.inr (.inl a)) :: S => if aidx 100 a i M = true then rec d y (tb tg 0) (L, .inl (M.1 (a - 1) i.toNat) :: S, M) else none
    | _ => none
  | .laload => match S with
    | .inl i :: .inr (.inr (.inl a)) :: S => if aidx 101 a i M = true then rec d y (tb tg 0) (L, .inr (.inl (M.1 (a - 1) i.toNat)) :: S, M) else none
    | _ => none
  | .saload => match S with
    | .inl i :: .inr (.inr (.inl a)) :: S => if aidx 102 a i M = true then rec d y (tb tg 0) (L, .inl (M.1 (a - 1) i.toNat) :: S, M) else none
    | _ => none
  | .baload => match S with
    | .inl i :: .inr (.inr (.inr a)) :: S => match gl (SBY.getD (a - 40) []) i.toNat with
      | some v => if 40 ≤ a ∧ 0 ≤ i then rec d y (tb tg 0) (L, .inl v :: S, M) else none
      | none => none
    | .inl i :: .inr (.inr (.inl a)) :: S => if aidx 103 a i M = true then rec d y (tb tg 0) (L, .inl (M.1 (a - 1) i.toNat) :: S, M) else none
    | _ => none
  | .faload => match S with
    | .inl i :: .inr (.inr (.inr 0)) :: S => if 0 ≤ i ∧ i < (X.1 : Int) then rec d y (tb tg 0) (L, .inl (X.2 i.toNat) :: S, M) else none
    | _ => none
  | .iastore => match S with
    | .inl v :: .inl i :: .inr (.inr (.inl a)) :: S => if aidx 100 a i M = true then rec d y (tb tg 0) (L, S, (up M.1 (a - 1) i.toNat v, M.2.1, M.2.2)) else none
    | _ => none
  | .lastore => match S with
    | .inr (.inl v) :: .inl i :: .inr (.inr (.inl a)) :: S => if aidx 101 a i M = true then rec d y (tb tg 0) (L, S, (up M.1 (a - 1) i.toNat v, M.2.1, M.2.2)) else none
    | _ => none
  | .sastore => match S with
    | .inl v :: .inl i :: .inr (.inr (.inl a)) :: S => if aidx 102 a i M = true then rec d y (tb tg 0) (L, S, (up M.1 (a - 1) i.toNat (w16 v), M.2.1, M.2.2)) else none
    | _ => none
  | .bastore => match S with
    | .inl v :: .inl i :: .inr (.inr (.inl a)) :: S => if aidx 103 a i M = true ∧ isB v = true then rec d y (tb tg 0) (L, S, (up M.1 (a - 1) i.toNat v, M.2.1, M.2.2)) else none
    | _ => none
  | .arraylength => match S with
    | .inr (.inr (.inl a)) :: S => match alen a M with
      | some v => rec d y (tb tg 0) (L, .inl v :: S, M)
      | none => none
    | _ => none
  | .idiv => match S with
    | .inl v :: .inl u :: S => if v = 0 then none else rec d y (tb tg 0) (L, .inl (w32 (u.tdiv v)) :: S, M)
    | _ => none
  | .irem => match S with
    | .inl v :: .inl u :: S => if v = 0 then none else rec d y (tb tg 0) (L, .inl (u.tmod v) :: S, M)
    | _ => none
  | .ldiv => match S with
    | .inr (.inl v) :: .inr (.inl u) :: S => if v = 0 then none else rec d y (tb tg 0) (L, .inr (.inl (w64 (u.tdiv v))) :: S, M)
    | _ => none
  | .invokedynamic zk => match zk with
    | 1 => match S with
      | .inl v :: .inl u :: S => if 1 ≤ d ∧ catS S ≤ 8 then rec d y (tb tg 0) (L, .inl (max u v) :: S, M) else none
      | _ => none
    | 2 => match S with
      | .inl v :: .inl u :: S => if 1 ≤ d ∧ catS S ≤ 8 then rec d y (tb tg 0) (L, .inl (min u v) :: S, M) else none
      | _ => none
    | 3 => match S with
      | .inr (.inl v) :: .inr (.inl u) :: S => if 1 ≤ d ∧ catS S ≤ 8 then rec d y (tb tg 0) (L, .inr (.inl (max u v)) :: S, M) else none
      | _ => none
    | 4 => match S with
      | .inr (.inl v) :: .inr (.inl u) :: S => if 1 ≤ d ∧ catS S ≤ 8 then rec d y (tb tg 0) (L, .inr (.inl (min u v)) :: S, M) else none
      | _ => none
    | 0 => match S with
      | .inl k :: .inl dp :: .inr (.inr (.inl q)) :: .inl sp :: .inr (.inr (.inl p)) :: S =>
        if 1 ≤ d ∧ catS S ≤ 8 ∧ p ≠ q ∧ 1 ≤ k ∧ 0 ≤ sp ∧ 0 ≤ dp ∧ aidx 100 p (sp + k - 1) M = true ∧ aidx 100 q (dp + k - 1) M = true then
          rec d y (tb tg 0) (L, S, (upR M.1 (q - 1) (cpy (M.1 (p - 1)) (M.1 (q - 1)) sp.toNat dp.toNat k.toNat), M.2.1, M.2.2)) else none
      | _ => none
    | _ => none
  | .invokevirtual y2 => match d with
    | 0 => none
    | d1 + 1 => if rcvOk y2 (S.take ((gl NARG y2).getD 0)).reverse M = true ∧ catS (S.drop ((gl NARG y2).getD 0)) ≤ 8 ∧ (gl NARG y2).getD 0 ≤ S.length ∧ catS (S.take ((gl NARG y2).getD 0)).reverse ≤ (gl MAXL y2).getD 0 then
      match rec d1 y2 0 (entL (S.take ((gl NARG y2).getD 0)).reverse ((gl MAXL y2).getD 0), [], M) with
        | some (M1, r) => rec d y (tb tg 0) (L, r.toList ++ S.drop ((gl NARG y2).getD 0), M1)
        | none => none
      else none
  | .invokestatic y2 => match d with
    | 0 => none
    | d1 + 1 => if rcvOk y2 (S.take ((gl NARG y2).getD 0)).reverse M = true ∧ catS (S.drop ((gl NARG y2).getD 0)) ≤ 8 ∧ (gl NARG y2).getD 0 ≤ S.length ∧ catS (S.take ((gl NARG y2).getD 0)).reverse ≤ (gl MAXL y2).getD 0 then
      match rec d1 y2 0 (entL (S.take ((gl NARG y2).getD 0)).reverse ((gl MAXL y2).getD 0), [], M) with
        | some (M1, r) => rec d y (tb tg 0) (L, r.toList ++ S.drop ((gl NARG y2).getD 0), M1)
        | none => none
      else none
  | .invokespecial y2 => match d with
    | 0 => none
    | d1 + 1 => if rcvOk y2 (S.take ((gl NARG y2).getD 0)).reverse M = true ∧ catS (S.drop ((gl NARG y2).getD 0)) ≤ 8 ∧ (gl NARG y2).getD 0 ≤ S.length ∧ catS (S.take ((gl NARG y2).getD 0)).reverse ≤ (gl MAXL y2).getD 0 then
      match rec d1 y2 0 (entL (S.take ((gl NARG y2).getD 0)).reverse ((gl MAXL y2).getD 0), [], M) with
        | some (M1, r) => rec d y (tb tg 0) (L, r.toList ++ S.drop ((gl NARG y2).getD 0), M1)
        | none => none
      else none
  | _ => none
def stp (X : Xs) (rec : Nat → Nat → Nat → Fr → Res) (d y b : Nat) (s : Fr) : Res :=
  match blkOf y b with
  | none => none
  | some q => match runB X q.1 s with
    | none => none
    | some u => trm X rec d y q.2.1 q.2.2 u.1 u.2.1 u.2.2
/-- the machine: so many turns, so many calls deep, a method, a block, locals, stack and memory -/
def run (X : Xs) : Nat → Nat → Nat → Nat → Fr → Res
  | 0, _, _, _, _ => none
  | n + 1, d, y, b, s => stp X (run X n) d y b s
end
section
/-! the small machine's rules: 'Ok' says that the machine comes to an end that Q holds of -/
theorem nn_ {α : Type} {r : α} {P : Prop} (h : (none : Option α) = some r) : P := by cases h
set_option maxRecDepth 20000 in
set_option maxHeartbeats 4000000 in
theorem trm_mono {X : Xs} {f g : Nat → Nat → Nat → Fr → Res} (hf : ∀ d y b s r, f d y b s = some r → g d y b s = some r) {d y : Nat} {t : Instr} {tg : List Nat} {L : List (Option AV)} {S : List AV} {M : Mm} {r : Mm × Option AV} (h : trm X f d y t tg L S M = some r) : trm X g d y t tg L S M = some r := by
  unfold trm at h ⊢
  split at h
  all_goals first
    | with_reducible exact hf _ _ _ _ _ h
    | with_reducible exact h
    | skip
  all_goals (split at h)
  all_goals first
    | with_reducible exact nn_ h
    | with_reducible exact hf _ _ _ _ _ h
    | with_reducible exact h
    | (rename_i hc; rw [if_pos hc]; with_reducible exact hf _ _ _ _ _ h)
    | (rename_i hc; rw [if_neg hc]; with_reducible exact hf _ _ _ _ _ h)
    | (rename_i hc; rw [if_pos hc]; with_reducible exact h)
    | (rename_i hc; rw [if_pos hc])
    | (rename_i heq; with_reducible (rw [hf _ _ _ _ _ heq]; exact hf _ _ _ _ _ h))
    | skip
  all_goals (split at h)
  all_goals first
    | with_reducible exact nn_ h
    | with_reducible exact hf _ _ _ _ _ h
    | with_reducible exact h
    | (rename_i hc; rw [if_pos hc]; with_reducible exact hf _ _ _ _ _ h)
    | (rename_i hc; rw [if_neg hc]; with_reducible exact hf _ _ _ _ _ h)
    | (rename_i hc; rw [if_pos hc]; with_reducible exact h)
    | (rename_i hc; rw [if_pos hc])
    | (rename_i heq; with_reducible (rw [hf _ _ _ _ _ heq]; exact hf _ _ _ _ _ h))
    | skip
  all_goals (split at h)
  all_goals first
    | with_reducible exact nn_ h
    | with_reducible exact hf _ _ _ _ _ h
    | with_reducible exact h
    | (rename_i hc; rw [if_pos hc]; with_reducible exact hf _ _ _ _ _ h)
    | (rename_i hc; rw [if_neg hc]; with_reducible exact hf _ _ _ _ _ h)
    | (rename_i hc; rw [if_pos hc]; with_reducible exact h)
    | (rename_i hc; rw [if_pos hc])
    | (rename_i heq; with_reducible (rw [hf _ _ _ _ _ heq]; exact hf _ _ _ _ _ h))
    | skip
  all_goals (split at h)
  all_goals first
    | with_reducible exact nn_ h
    | with_reducible exact hf _ _ _ _ _ h
    | with_reducible exact h
    | (rename_i hc; rw [if_pos hc]; with_reducible exact hf _ _ _ _ _ h)
    | (rename_i hc; rw [if_neg hc]; with_reducible exact hf _ _ _ _ _ h)
    | (rename_i hc; rw [if_pos hc]; with_reducible exact h)
    | (rename_i hc; rw [if_pos hc])
    | (rename_i heq; with_reducible (rw [hf _ _ _ _ _ heq]; exact hf _ _ _ _ _ h))
    | skip
theorem stp_mono {X : Xs} {f g : Nat → Nat → Nat → Fr → Res} (hf : ∀ d y b s r, f d y b s = some r → g d y b s = some r) {d y b : Nat} {s : Fr} {r : Mm × Option AV} (h : stp X f d y b s = some r) : stp X g d y b s = some r := by
  unfold stp at h ⊢
  split at h
  · cases h
  · split at h
    · cases h
    · exact trm_mono hf h
theorem run_mono1 (X : Xs) : ∀ (n d y b : Nat) (s : Fr) (r : Mm × Option AV), run X n d y b s = some r → run X (n + 1) d y b s = some r := by
  intro n
  induction n with
  | zero => intro d y b s r h; cases h
  | succ n ih => intro d y b s r h; exact stp_mono (fun d y b s r h => ih d y b s r h) h
theorem run_mono (X : Xs) {n k d y b : Nat} {s : Fr} {r : Mm × Option AV} (h : run X n d y b s = some r) : run X (n + k) d y b s = some r := by
  induction k with
  | zero => exact h
  | succ k ih => exact run_mono1 X _ _ _ _ _ _ ih
end
section
def Ok (X : Xs) (d y b : Nat) (s : Fr) (Q : Mm → Option AV → Prop) : Prop := ∃ (n : Nat) (M : Mm) (r : Option AV), run X n d y b s = some (M, r) ∧ Q M r
theorem Ok.imp {X : Xs} {d y b : Nat} {s : Fr} {Q Q2 : Mm → Option AV → Prop} (h : Ok X d y b s Q) (hQ : ∀ M r, Q M r → Q2 M r) : Ok X d y b s Q2 := by
  obtain ⟨n, M, r, h1, h2⟩ := h
  exact ⟨n, M, r, h1, hQ _ _ h2⟩
theorem Ok.at {X : Xs} {d y b : Nat} {s s2 : Fr} {Q : Mm → Option AV → Prop} (h : Ok X d y b s Q) (e : s2 = s) : Ok X d y b s2 Q := e ▸ h
theorem run_trm {X : Xs} {n d y b : Nat} {s : Fr} {ops : List Instr} {t : Instr} {tg : List Nat} {L : List (Option AV)} {S : List AV} {M : Mm} (hb : blkOf y b = some (ops, t, tg)) (hr : runB X ops s = some (L, S, M)) : run X (n + 1) d y b s = trm X (run X n) d y t tg L S M := by
  show stp X (run X n) d y b s = _
  unfold stp
  rw [hb]
  dsimp only
  rw [hr]
theorem Ok.of {X : Xs} {d y b : Nat} {s : Fr} {ops : List Instr} {t : Instr} {tg : List Nat} {L : List (Option AV)} {S : List AV} {M : Mm} {Q : Mm → Option AV → Prop} {d2 y2 b2 : Nat} {s2 : Fr} (hb : blkOf y b = some (ops, t, tg)) (hr : runB X ops s = some (L, S, M)) (ht : ∀ rec, trm X rec d y t tg L S M = rec d2 y2 b2 s2) (k : Ok X d2 y2 b2 s2 Q) : Ok X d y b s Q := by
  obtain ⟨n, M', r, h, hq⟩ := k
  exact ⟨n + 1, M', r, by rw [run_trm hb hr, ht]; exact h, hq⟩
theorem Ok.fin {X : Xs} {d y b : Nat} {s : Fr} {ops : List Instr} {t : Instr} {tg : List Nat} {L : List (Option AV)} {S : List AV} {M M2 : Mm} {v : Option AV} {Q : Mm → Option AV → Prop} (hb : blkOf y b = some (ops, t, tg)) (hr : runB X ops s = some (L, S, M)) (ht : ∀ rec, trm X rec d y t tg L S M = some (M2, v)) (k : Q M2 v) : Ok X d y b s Q :=
  ⟨1, M2, v, by rw [run_trm hb hr, ht], k⟩
theorem ok_goto {X : Xs} {d y b : Nat} {s : Fr} {ops : List Instr} {L : List (Option AV)} {S : List AV} {M : Mm} {Q : Mm → Option AV → Prop} {o : Int} {b1 : Nat} (hb : blkOf y b = some (ops, .goto o, [b1])) (hr : runB X ops s = some (L, S, M)) (k : Ok X d y b1 (L, S, M) Q) : Ok X d y b s Q := Ok.of hb hr (fun _ => rfl) k
theorem ok_thru {X : Xs} {d y b : Nat} {s : Fr} {ops : List Instr} {L : List (Option AV)} {S : List AV} {M : Mm} {Q : Mm → Option AV → Prop} {b1 : Nat} (hb : blkOf y b = some (ops, .nop, [b1])) (hr : runB X ops s = some (L, S, M)) (k : Ok X d y b1 (L, S, M) Q) : Ok X d y b s Q := Ok.of hb hr (fun _ => rfl) k
theorem ok_ifB {X : Xs} {d y b : Nat} {s : Fr} {ops : List Instr} {L : List (Option AV)} {S : List AV} {M : Mm} {Q : Mm → Option AV → Prop} {x : Int} {c : ClassFile.Cond} {o : Int} {b1 b2 : Nat} (hb : blkOf y b = some (ops, .ifCond c o, [b1, b2])) (hr : runB X ops s = some (L, .inl x :: S, M)) (k1 : cnd c x 0 = true → Ok X d y b1 (L, S, M) Q) (k2 : ¬ cnd c x 0 = true → Ok X d y b2 (L, S, M) Q) : Ok X d y b s Q := by
  by_cases h : cnd c x 0 = true
  · exact Ok.of hb hr (fun rec => by show rec d y (if cnd c x 0 = true then _ else _) _ = _; rw [if_pos h]; rfl) (k1 h)
  · exact Ok.of hb hr (fun rec => by show rec d y (if cnd c x 0 = true then _ else _) _ = _; rw [if_neg h]; rfl) (k2 h)
theorem ok_icB {X : Xs} {d y b : Nat} {s : Fr} {ops : List Instr} {L : List (Option AV)} {S : List AV} {M : Mm} {Q : Mm → Option AV → Prop} {x u : Int} {c : ClassFile.Cond} {o : Int} {b1 b2 : Nat} (hb : blkOf y b = some (ops, .if_icmp c o, [b1, b2])) (hr : runB X ops s = some (L, .inl u :: .inl x :: S, M)) (k1 : cnd c x u = true → Ok X d y b1 (L, S, M) Q) (k2 : ¬ cnd c x u = true → Ok X d y b2 (L, S, M) Q) : Ok X d y b s Q := by
  by_cases h : cnd c x u = true
  · exact Ok.of hb hr (fun rec => by show rec d y (if cnd c x u = true then _ else _) _ = _; rw [if_pos h]; rfl) (k1 h)
  · exact Ok.of hb hr (fun rec => by show rec d y (if cnd c x u = true then _ else _) _ = _; rw [if_neg h]; rfl) (k2 h)
theorem cn_if_eq1 {x u : Int} (h : cnd .eq x 0 = true) : x = 0 := by
  simp only [cnd, decide_eq_true_eq, Bool.not_eq_true', decide_eq_false_iff_not] at h; exact h
theorem cn_if_eq2 {x u : Int} (h : ¬ cnd .eq x 0 = true) : ¬ x = 0 := by
  simp only [cnd, decide_eq_true_eq, Bool.not_eq_true', decide_eq_false_iff_not] at h; omega
theorem cn_ic_eq1 {x u : Int} (h : cnd .eq x u = true) : x = u := by
  simp only [cnd, decide_eq_true_eq, Bool.not_eq_true', decide_eq_false_iff_not] at h; exact h
theorem cn_ic_eq2 {x u : Int} (h : ¬ cnd .eq x u = true) : ¬ x = u := by
  simp only [cnd, decide_eq_true_eq, Bool.not_eq_true', decide_eq_false_iff_not] at h; omega
theorem cn_if_ne1 {x u : Int} (h : cnd .ne x 0 = true) : ¬ x = 0 := by
  simp only [cnd, decide_eq_true_eq, Bool.not_eq_true', decide_eq_false_iff_not] at h; exact h
theorem cn_if_ne2 {x u : Int} (h : ¬ cnd .ne x 0 = true) : x = 0 := by
  simp only [cnd, decide_eq_true_eq, Bool.not_eq_true', decide_eq_false_iff_not] at h; omega
theorem cn_ic_ne1 {x u : Int} (h : cnd .ne x u = true) : ¬ x = u := by
  simp only [cnd, decide_eq_true_eq, Bool.not_eq_true', decide_eq_false_iff_not] at h; exact h
theorem cn_ic_ne2 {x u : Int} (h : ¬ cnd .ne x u = true) : x = u := by
  simp only [cnd, decide_eq_true_eq, Bool.not_eq_true', decide_eq_false_iff_not] at h; omega
theorem cn_if_lt1 {x u : Int} (h : cnd .lt x 0 = true) : x < 0 := by
  simp only [cnd, decide_eq_true_eq, Bool.not_eq_true', decide_eq_false_iff_not] at h; exact h
theorem cn_if_lt2 {x u : Int} (h : ¬ cnd .lt x 0 = true) : 0 ≤ x := by
  simp only [cnd, decide_eq_true_eq, Bool.not_eq_true', decide_eq_false_iff_not] at h; omega
theorem cn_ic_lt1 {x u : Int} (h : cnd .lt x u = true) : x < u := by
  simp only [cnd, decide_eq_true_eq, Bool.not_eq_true', decide_eq_false_iff_not] at h; exact h
theorem cn_ic_lt2 {x u : Int} (h : ¬ cnd .lt x u = true) : u ≤ x := by
  simp only [cnd, decide_eq_true_eq, Bool.not_eq_true', decide_eq_false_iff_not] at h; omega
theorem cn_if_ge1 {x u : Int} (h : cnd .ge x 0 = true) : 0 ≤ x := by
  simp only [cnd, decide_eq_true_eq, Bool.not_eq_true', decide_eq_false_iff_not] at h; exact h
theorem cn_if_ge2 {x u : Int} (h : ¬ cnd .ge x 0 = true) : x < 0 := by
  simp only [cnd, decide_eq_true_eq, Bool.not_eq_true', decide_eq_false_iff_not] at h; omega
theorem cn_ic_ge1 {x u : Int} (h : cnd .ge x u = true) : u ≤ x := by
  simp only [cnd, decide_eq_true_eq, Bool.not_eq_true', decide_eq_false_iff_not] at h; exact h
theorem cn_ic_ge2 {x u : Int} (h : ¬ cnd .ge x u = true) : x < u := by
  simp only [cnd, decide_eq_true_eq, Bool.not_eq_true', decide_eq_false_iff_not] at h; omega
theorem cn_if_gt1 {x u : Int} (h : cnd .gt x 0 = true) : 0 < x := by
  simp only [cnd, decide_eq_true_eq, Bool.not_eq_true', decide_eq_false_iff_not] at h; exact h
theorem cn_if_gt2 {x u : Int} (h : ¬ cnd .gt x 0 = true) : x ≤ 0 := by
  simp only [cnd, decide_eq_true_eq, Bool.not_eq_true', decide_eq_false_iff_not] at h; omega
theorem cn_ic_gt1 {x u : Int} (h : cnd .gt x u = true) : u < x := by
  simp only [cnd, decide_eq_true_eq, Bool.not_eq_true', decide_eq_false_iff_not] at h; exact h
theorem cn_ic_gt2 {x u : Int} (h : ¬ cnd .gt x u = true) : x ≤ u := by
  simp only [cnd, decide_eq_true_eq, Bool.not_eq_true', decide_eq_false_iff_not] at h; omega
theorem cn_if_le1 {x u : Int} (h : cnd .le x 0 = true) : x ≤ 0 := by
  simp only [cnd, decide_eq_true_eq, Bool.not_eq_true', decide_eq_false_iff_not] at h; exact h
theorem cn_if_le2 {x u : Int} (h : ¬ cnd .le x 0 = true) : 0 < x := by
  simp only [cnd, decide_eq_true_eq, Bool.not_eq_true', decide_eq_false_iff_not] at h; omega
theorem cn_ic_le1 {x u : Int} (h : cnd .le x u = true) : x ≤ u := by
  simp only [cnd, decide_eq_true_eq, Bool.not_eq_true', decide_eq_false_iff_not] at h; exact h
theorem cn_ic_le2 {x u : Int} (h : ¬ cnd .le x u = true) : u < x := by
  simp only [cnd, decide_eq_true_eq, Bool.not_eq_true', decide_eq_false_iff_not] at h; omega
theorem ok_if_eq {X : Xs} {d y b : Nat} {s : Fr} {ops : List Instr} {L : List (Option AV)} {S : List AV} {M : Mm} {Q : Mm → Option AV → Prop} {x : Int} {o : Int} {b1 b2 : Nat} (hb : blkOf y b = some (ops, .ifCond .eq o, [b1, b2])) (hr : runB X ops s = some (L, .inl x :: S, M)) (k1 : x = 0 → Ok X d y b1 (L, S, M) Q) (k2 : ¬ x = 0 → Ok X d y b2 (L, S, M) Q) : Ok X d y b s Q :=
  ok_ifB hb hr (fun h => k1 (cn_if_eq1 (u := 0) h)) (fun h => k2 (cn_if_eq2 (u := 0) h))
theorem ok_ic_eq {X : Xs} {d y b : Nat} {s : Fr} {ops : List Instr} {L : List (Option AV)} {S : List AV} {M : Mm} {Q : Mm → Option AV → Prop} {x u : Int} {o : Int} {b1 b2 : Nat} (hb : blkOf y b = some (ops, .if_icmp .eq o, [b1, b2])) (hr : runB X ops s = some (L, .inl u :: .inl x :: S, M)) (k1 : x = u → Ok X d y b1 (L, S, M) Q) (k2 : ¬ x = u → Ok X d y b2 (L, S, M) Q) : Ok X d y b s Q :=
  ok_icB hb hr (fun h => k1 (cn_ic_eq1 h)) (fun h => k2 (cn_ic_eq2 h))
theorem ok_if_ne {X : Xs} {d y b : Nat} {s : Fr} {ops : List Instr} {L : List (Option AV)} {S : List AV} {M : Mm} {Q : Mm → Option AV → Prop} {x : Int} {o : Int} {b1 b2 : Nat} (hb : blkOf y b = some (ops, .ifCond .ne o, [b1, b2])) (hr : runB X ops s = some (L, .inl x :: S, M)) (k1 : ¬ x = 0 → Ok X d y b1 (L, S, M) Q) (k2 : x = 0 → Ok X d y b2 (L, S, M) Q) : Ok X d y b s Q :=
  ok_ifB hb hr (fun h => k1 (cn_if_ne1 (u := 0) h)) (fun h => k2 (cn_if_ne2 (u := 0) h))
theorem ok_ic_ne {X : Xs} {d y b : Nat} {s : Fr} {ops : List Instr} {L : List (Option AV)} {S : List AV} {M : Mm} {Q : Mm → Option AV → Prop} {x u : Int} {o : Int} {b1 b2 : Nat} (hb : blkOf y b = some (ops, .if_icmp .ne o, [b1, b2])) (hr : runB X ops s = some (L, .inl u :: .inl x :: S, M)) (k1 : ¬ x = u → Ok X d y b1 (L, S, M) Q) (k2 : x = u → Ok X d y b2 (L, S, M) Q) : Ok X d y b s Q :=
  ok_icB hb hr (fun h => k1 (cn_ic_ne1 h)) (fun h => k2 (cn_ic_ne2 h))
theorem ok_if_lt {X : Xs} {d y b : Nat} {s : Fr} {ops : List Instr} {L : List (Option AV)} {S : List AV} {M : Mm} {Q : Mm → Option AV → Prop} {x : Int} {o : Int} {b1 b2 : Nat} (hb : blkOf y b = some (ops, .ifCond .lt o, [b1, b2])) (hr : runB X ops s = some (L, .inl x :: S, M)) (k1 : x < 0 → Ok X d y b1 (L, S, M) Q) (k2 : 0 ≤ x → Ok X d y b2 (L, S, M) Q) : Ok X d y b s Q :=
  ok_ifB hb hr (fun h => k1 (cn_if_lt1 (u := 0) h)) (fun h => k2 (cn_if_lt2 (u := 0) h))
theorem ok_ic_lt {X : Xs} {d y b : Nat} {s : Fr} {ops : List Instr} {L : List (Option AV)} {S : List AV} {M : Mm} {Q : Mm → Option AV → Prop} {x u : Int} {o : Int} {b1 b2 : Nat} (hb : blkOf y b = some (ops, .if_icmp .lt o, [b1, b2])) (hr : runB X ops s = some (L, .inl u :: .inl x :: S, M)) (k1 : x < u → Ok X d y b1 (L, S, M) Q) (k2 : u ≤ x → Ok X d y b2 (L, S, M) Q) : Ok X d y b s Q :=
  ok_icB hb hr (fun h => k1 (cn_ic_lt1 h)) (fun h => k2 (cn_ic_lt2 h))
theorem ok_if_ge {X : Xs} {d y b : Nat} {s : Fr} {ops : List Instr} {L : List (Option AV)} {S : List AV} {M : Mm} {Q : Mm → Option AV → Prop} {x : Int} {o : Int} {b1 b2 : Nat} (hb : blkOf y b = some (ops, .ifCond .ge o, [b1, b2])) (hr : runB X ops s = some (L, .inl x :: S, M)) (k1 : 0 ≤ x → Ok X d y b1 (L, S, M) Q) (k2 : x < 0 → Ok X d y b2 (L, S, M) Q) : Ok X d y b s Q :=
  ok_ifB hb hr (fun h => k1 (cn_if_ge1 (u := 0) h)) (fun h => k2 (cn_if_ge2 (u := 0) h))
theorem ok_ic_ge {X : Xs} {d y b : Nat} {s : Fr} {ops : List Instr} {L : List (Option AV)} {S : List AV} {M : Mm} {Q : Mm → Option AV → Prop} {x u : Int} {o : Int} {b1 b2 : Nat} (hb : blkOf y b = some (ops, .if_icmp .ge o, [b1, b2])) (hr : runB X ops s = some (L, .inl u :: .inl x :: S, M)) (k1 : u ≤ x → Ok X d y b1 (L, S, M) Q) (k2 : x < u → Ok X d y b2 (L, S, M) Q) : Ok X d y b s Q :=
  ok_icB hb hr (fun h => k1 (cn_ic_ge1 h)) (fun h => k2 (cn_ic_ge2 h))
theorem ok_if_gt {X : Xs} {d y b : Nat} {s : Fr} {ops : List Instr} {L : List (Option AV)} {S : List AV} {M : Mm} {Q : Mm → Option AV → Prop} {x : Int} {o : Int} {b1 b2 : Nat} (hb : blkOf y b = some (ops, .ifCond .gt o, [b1, b2])) (hr : runB X ops s = some (L, .inl x :: S, M)) (k1 : 0 < x → Ok X d y b1 (L, S, M) Q) (k2 : x ≤ 0 → Ok X d y b2 (L, S, M) Q) : Ok X d y b s Q :=
  ok_ifB hb hr (fun h => k1 (cn_if_gt1 (u := 0) h)) (fun h => k2 (cn_if_gt2 (u := 0) h))
theorem ok_ic_gt {X : Xs} {d y b : Nat} {s : Fr} {ops : List Instr} {L : List (Option AV)} {S : List AV} {M : Mm} {Q : Mm → Option AV → Prop} {x u : Int} {o : Int} {b1 b2 : Nat} (hb : blkOf y b = some (ops, .if_icmp .gt o, [b1, b2])) (hr : runB X ops s = some (L, .inl u :: .inl x :: S, M)) (k1 : u < x → Ok X d y b1 (L, S, M) Q) (k2 : x ≤ u → Ok X d y b2 (L, S, M) Q) : Ok X d y b s Q :=
  ok_icB hb hr (fun h => k1 (cn_ic_gt1 h)) (fun h => k2 (cn_ic_gt2 h))
theorem ok_if_le {X : Xs} {d y b : Nat} {s : Fr} {ops : List Instr} {L : List (Option AV)} {S : List AV} {M : Mm} {Q : Mm → Option AV → Prop} {x : Int} {o : Int} {b1 b2 : Nat} (hb : blkOf y b = some (ops, .ifCond .le o, [b1, b2])) (hr : runB X ops s = some (L, .inl x :: S, M)) (k1 : x ≤ 0 → Ok X d y b1 (L, S, M) Q) (k2 : 0 < x → Ok X d y b2 (L, S, M) Q) : Ok X d y b s Q :=
  ok_ifB hb hr (fun h => k1 (cn_if_le1 (u := 0) h)) (fun h => k2 (cn_if_le2 (u := 0) h))
theorem ok_ic_le {X : Xs} {d y b : Nat} {s : Fr} {ops : List Instr} {L : List (Option AV)} {S : List AV} {M : Mm} {Q : Mm → Option AV → Prop} {x u : Int} {o : Int} {b1 b2 : Nat} (hb : blkOf y b = some (ops, .if_icmp .le o, [b1, b2])) (hr : runB X ops s = some (L, .inl u :: .inl x :: S, M)) (k1 : x ≤ u → Ok X d y b1 (L, S, M) Q) (k2 : u < x → Ok X d y b2 (L, S, M) Q) : Ok X d y b s Q :=
  ok_icB hb hr (fun h => k1 (cn_ic_le1 h)) (fun h => k2 (cn_ic_le2 h))
theorem ok_ireturn {X : Xs} {d y b : Nat} {s : Fr} {ops : List Instr} {L : List (Option AV)} {M : Mm} {Q : Mm → Option AV → Prop} {x : Int} (hb : blkOf y b = some (ops, .ireturn, [])) (hr : runB X ops s = some (L, [.inl x], M)) (k : Q M (some (.inl x))) : Ok X d y b s Q := Ok.fin hb hr (fun _ => rfl) k
theorem ok_lreturn {X : Xs} {d y b : Nat} {s : Fr} {ops : List Instr} {L : List (Option AV)} {M : Mm} {Q : Mm → Option AV → Prop} {x : Int} (hb : blkOf y b = some (ops, .lreturn, [])) (hr : runB X ops s = some (L, [.inr (.inl x)], M)) (k : Q M (some (.inr (.inl x)))) : Ok X d y b s Q := Ok.fin hb hr (fun _ => rfl) k
theorem ok_areturn {X : Xs} {d y b : Nat} {s : Fr} {ops : List Instr} {L : List (Option AV)} {M : Mm} {Q : Mm → Option AV → Prop} {r : Nat} (hb : blkOf y b = some (ops, .areturn, [])) (hr : runB X ops s = some (L, [.inr (.inr (.inl (r + 1)))], M)) (k : Q M (some (.inr (.inr (.inl (r + 1)))))) : Ok X d y b s Q := Ok.fin hb hr (fun _ => rfl) k
theorem ok_return {X : Xs} {d y b : Nat} {s : Fr} {ops : List Instr} {L : List (Option AV)} {M : Mm} {Q : Mm → Option AV → Prop} (hb : blkOf y b = some (ops, .return_, [])) (hr : runB X ops s = some (L, [], M)) (k : Q M none) : Ok X d y b s Q := Ok.fin hb hr (fun _ => rfl) k
theorem isB_of {x : Int} (h : x = 0 ∨ x = 1) : isB x = true := by rcases h with rfl | rfl <;> rfl
theorem ok_zreturn {X : Xs} {d y b : Nat} {s : Fr} {ops : List Instr} {L : List (Option AV)} {M : Mm} {Q : Mm → Option AV → Prop} {x : Int} (hb : blkOf y b = some (ops, .freturn, [])) (hr : runB X ops s = some (L, [.inl x], M)) (h : x = 0 ∨ x = 1) (k : Q M (some (.inl x))) : Ok X d y b s Q := Ok.fin hb hr (fun _ => by show (if isB x = true then _ else _) = _; rw [if_pos (isB_of h)]) k
theorem ok_creturn {X : Xs} {d y b : Nat} {s : Fr} {ops : List Instr} {L : List (Option AV)} {M : Mm} {Q : Mm → Option AV → Prop} {x : Int} (hb : blkOf y b = some (ops, .dreturn, [])) (hr : runB X ops s = some (L, [.inl x], M)) (h : 0 ≤ x ∧ x < 128) (k : Q M (some (.inl x))) : Ok X d y b s Q := Ok.fin hb hr (fun _ => by show (if 0 ≤ x ∧ x < 128 then _ else _) = _; rw [if_pos h]) k
theorem aidx_of {k id n : Nat} {i : Int} {M : Mm} (hk : gl M.2.2 id = some (k, n)) (h0 : 0 ≤ i) (h1 : i < (n : Int)) : aidx k (id + 1) i M = true := by
  simp [aidx, hk, h0, h1]
theorem ok_iald {X : Xs} {d y b : Nat} {s : Fr} {ops : List Instr} {L : List (Option AV)} {S : List AV} {M : Mm} {Q : Mm → Option AV → Prop} {i : Int} {id n b1 : Nat} (hb : blkOf y b = some (ops, .iaload, [b1])) (hr : runB X ops s = some (L, .inl i :: .inr (.inr (.inl (id + 1))) :: S, M)) (hk : gl M.2.2 id = some (100, n)) (h0 : 0 ≤ i) (h1 : i < (n : Int)) (k : Ok X d y b1 (L, .inl (M.1 id i.toNat) :: S, M) Q) : Ok X d y b s Q :=
  Ok.of hb hr (fun _ => by show (if aidx 100 (id + 1) i M = true then _ else _) = _; rw [if_pos (aidx_of hk h0 h1)]; rfl) k
theorem ok_lald {X : Xs} {d y b : Nat} {s : Fr} {ops : List Instr} {L : List (Option AV)} {S : List AV} {M : Mm} {Q : Mm → Option AV → Prop} {i : Int} {id n b1 : Nat} (hb : blkOf y b = some (ops, .laload, [b1])) (hr : runB X ops s = some (L, .inl i :: .inr (.inr (.inl (id + 1))) :: S, M)) (hk : gl M.2.2 id = some (101, n)) (h0 : 0 ≤ i) (h1 : i < (n : Int)) (k : Ok X d y b1 (L, .inr (.inl (M.1 id i.toNat)) :: S, M) Q) : Ok X d y b s Q :=
  Ok.of hb hr (fun _ => by show (if aidx 101 (id + 1) i M = true then _ else _) = _; rw [if_pos (aidx_of hk h0 h1)]; rfl) k
theorem ok_sald {X : Xs} {d y b : Nat} {s : Fr} {ops : List Instr} {L : List (Option AV)} {S : List AV} {M : Mm} {Q : Mm → Option AV → Prop} {i : Int} {id n b1 : Nat} (hb : blkOf y b = some (ops, .saload, [b1])) (hr : runB X ops s = some (L, .inl i :: .inr (.inr (.inl (id + 1))) :: S, M)) (hk : gl M.2.2 id = some (102, n)) (h0 : 0 ≤ i) (h1 : i < (n : Int)) (k : Ok X d y b1 (L, .inl (M.1 id i.toNat) :: S, M) Q) : Ok X d y b s Q :=
  Ok.of hb hr (fun _ => by show (if aidx 102 (id + 1) i M = true then _ else _) = _; rw [if_pos (aidx_of hk h0 h1)]; rfl) k
theorem ok_zald {X : Xs} {d y b : Nat} {s : Fr} {ops : List Instr} {L : List (Option AV)} {S : List AV} {M : Mm} {Q : Mm → Option AV → Prop} {i : Int} {id n b1 : Nat} (hb : blkOf y b = some (ops, .baload, [b1])) (hr : runB X ops s = some (L, .inl i :: .inr (.inr (.inl (id + 1))) :: S, M)) (hk : gl M.2.2 id = some (103, n)) (h0 : 0 ≤ i) (h1 : i < (n : Int)) (k : Ok X d y b1 (L, .inl (M.1 id i.toNat) :: S, M) Q) : Ok X d y b s Q :=
  Ok.of hb hr (fun _ => by show (if aidx 103 (id + 1) i M = true then _ else _) = _; rw [if_pos (aidx_of hk h0 h1)]; rfl) k
theorem ok_iast {X : Xs} {d y b : Nat} {s : Fr} {ops : List Instr} {L : List (Option AV)} {S : List AV} {M : Mm} {Q : Mm → Option AV → Prop} {i v : Int} {id n b1 : Nat} (hb : blkOf y b = some (ops, .iastore, [b1])) (hr : runB X ops s = some (L, .inl v :: .inl i :: .inr (.inr (.inl (id + 1))) :: S, M)) (hk : gl M.2.2 id = some (100, n)) (h0 : 0 ≤ i) (h1 : i < (n : Int)) (k : Ok X d y b1 (L, S, (up M.1 id i.toNat v, M.2.1, M.2.2)) Q) : Ok X d y b s Q :=
  Ok.of hb hr (fun _ => by show (if aidx 100 (id + 1) i M = true then _ else _) = _; rw [if_pos (aidx_of hk h0 h1)]; rfl) k
theorem ok_last {X : Xs} {d y b : Nat} {s : Fr} {ops : List Instr} {L : List (Option AV)} {S : List AV} {M : Mm} {Q : Mm → Option AV → Prop} {i v : Int} {id n b1 : Nat} (hb : blkOf y b = some (ops, .lastore, [b1])) (hr : runB X ops s = some (L, .inr (.inl v) :: .inl i :: .inr (.inr (.inl (id + 1))) :: S, M)) (hk : gl M.2.2 id = some (101, n)) (h0 : 0 ≤ i) (h1 : i < (n : Int)) (k : Ok X d y b1 (L, S, (up M.1 id i.toNat v, M.2.1, M.2.2)) Q) : Ok X d y b s Q :=
  Ok.of hb hr (fun _ => by show (if aidx 101 (id + 1) i M = true then _ else _) = _; rw [if_pos (aidx_of hk h0 h1)]; rfl) k
theorem ok_sast {X : Xs} {d y b : Nat} {s : Fr} {ops : List Instr} {L : List (Option AV)} {S : List AV} {M : Mm} {Q : Mm → Option AV → Prop} {i v : Int} {id n b1 : Nat} (hb : blkOf y b = some (ops, .sastore, [b1])) (hr : runB X ops s = some (L, .inl v :: .inl i :: .inr (.inr (.inl (id + 1))) :: S, M)) (hk : gl M.2.2 id = some (102, n)) (h0 : 0 ≤ i) (h1 : i < (n : Int)) (k : Ok X d y b1 (L, S, (up M.1 id i.toNat (w16 v), M.2.1, M.2.2)) Q) : Ok X d y b s Q :=
  Ok.of hb hr (fun _ => by show (if aidx 102 (id + 1) i M = true then _ else _) = _; rw [if_pos (aidx_of hk h0 h1)]; rfl) k
theorem ok_zast {X : Xs} {d y b : Nat} {s : Fr} {ops : List Instr} {L : List (Option AV)} {S : List AV} {M : Mm} {Q : Mm → Option AV → Prop} {i v : Int} {id n b1 : Nat} (hb : blkOf y b = some (ops, .bastore, [b1])) (hr : runB X ops s = some (L, .inl v :: .inl i :: .inr (.inr (.inl (id + 1))) :: S, M)) (hk : gl M.2.2 id = some (103, n)) (h0 : 0 ≤ i) (h1 : i < (n : Int)) (hv : v = 0 ∨ v = 1) (k : Ok X d y b1 (L, S, (up M.1 id i.toNat v, M.2.1, M.2.2)) Q) : Ok X d y b s Q :=
  Ok.of hb hr (fun _ => by show (if aidx 103 (id + 1) i M = true ∧ isB v = true then _ else _) = _; rw [if_pos ⟨aidx_of hk h0 h1, isB_of hv⟩]; rfl) k
theorem ok_scr {X : Xs} {d y b : Nat} {s : Fr} {ops : List Instr} {L : List (Option AV)} {S : List AV} {M : Mm} {Q : Mm → Option AV → Prop} {i : Int} {b1 : Nat} (hb : blkOf y b = some (ops, .faload, [b1])) (hr : runB X ops s = some (L, .inl i :: .inr (.inr (.inr 0)) :: S, M)) (h0 : 0 ≤ i) (h1 : i < (X.1 : Int)) (k : Ok X d y b1 (L, .inl (X.2 i.toNat) :: S, M) Q) : Ok X d y b s Q :=
  Ok.of hb hr (fun _ => by show (if 0 ≤ i ∧ i < (X.1 : Int) then _ else _) = _; rw [if_pos ⟨h0, h1⟩]; rfl) k
theorem ok_idiv {X : Xs} {d y b : Nat} {s : Fr} {ops : List Instr} {L : List (Option AV)} {S : List AV} {M : Mm} {Q : Mm → Option AV → Prop} {u v : Int} {b1 : Nat} (hb : blkOf y b = some (ops, .idiv, [b1])) (hr : runB X ops s = some (L, .inl v :: .inl u :: S, M)) (h : v ≠ 0) (k : Ok X d y b1 (L, .inl (w32 (u.tdiv v)) :: S, M) Q) : Ok X d y b s Q :=
  Ok.of hb hr (fun _ => by show (if v = 0 then _ else _) = _; rw [if_neg h]; rfl) k
theorem ok_irem {X : Xs} {d y b : Nat} {s : Fr} {ops : List Instr} {L : List (Option AV)} {S : List AV} {M : Mm} {Q : Mm → Option AV → Prop} {u v : Int} {b1 : Nat} (hb : blkOf y b = some (ops, .irem, [b1])) (hr : runB X ops s = some (L, .inl v :: .inl u :: S, M)) (h : v ≠ 0) (k : Ok X d y b1 (L, .inl (u.tmod v) :: S, M) Q) : Ok X d y b s Q :=
  Ok.of hb hr (fun _ => by show (if v = 0 then _ else _) = _; rw [if_neg h]; rfl) k
theorem ok_ldiv {X : Xs} {d y b : Nat} {s : Fr} {ops : List Instr} {L : List (Option AV)} {S : List AV} {M : Mm} {Q : Mm → Option AV → Prop} {u v : Int} {b1 : Nat} (hb : blkOf y b = some (ops, .ldiv, [b1])) (hr : runB X ops s = some (L, .inr (.inl v) :: .inr (.inl u) :: S, M)) (h : v ≠ 0) (k : Ok X d y b1 (L, .inr (.inl (w64 (u.tdiv v))) :: S, M) Q) : Ok X d y b s Q :=
  Ok.of hb hr (fun _ => by show (if v = 0 then _ else _) = _; rw [if_neg h]; rfl) k
theorem ok_sw {X : Xs} {d y b : Nat} {s : Fr} {ops : List Instr} {L : List (Option AV)} {S : List AV} {M : Mm} {Q : Mm → Option AV → Prop} {x o lo hi : Int} {os : Array Int} {b0 b1 : Nat} {bs : List Nat} (hb : blkOf y b = some (ops, .tableswitch o lo hi os, b0 :: bs)) (hr : runB X ops s = some (L, .inl x :: S, M)) (hx : (if x < lo ∨ hi < x then b0 else tb bs (x - lo).toNat) = b1) (k : Ok X d y b1 (L, S, M) Q) : Ok X d y b s Q :=
  Ok.of hb hr (fun rec => by subst hx; show rec d y (if x < lo ∨ hi < x then _ else _) _ = _; split <;> rfl) k
theorem ok_lsw {X : Xs} {d y b : Nat} {s : Fr} {ops : List Instr} {L : List (Option AV)} {S : List AV} {M : Mm} {Q : Mm → Option AV → Prop} {x o : Int} {ps : Array (Int × Int)} {b0 b1 : Nat} {bs : List Nat} (hb : blkOf y b = some (ops, .lookupswitch o ps, b0 :: bs)) (hr : runB X ops s = some (L, .inl x :: S, M)) (hx : luk ps.toList bs b0 x = b1) (k : Ok X d y b1 (L, S, M) Q) : Ok X d y b s Q :=
  Ok.of hb hr (fun rec => by subst hx; rfl) k
/-- a call: the contract of what is called, and how it goes on -/
theorem ok_callA {X : Xs} {d y b : Nat} {s : Fr} {ops : List Instr} {L : List (Option AV)} {S : List AV} {M : Mm} {Q : Mm → Option AV → Prop} {args rest : List AV} {y2 b1 ml : Nat} {t : Instr} {d1 : Nat} {Q1 : Mm → Option AV → Prop} (hd : d = d1 + 1) (hb : blkOf y b = some (ops, t, [b1])) (hr : runB X ops s = some (L, S, M)) (ht : t = .invokevirtual y2 ∨ t = .invokestatic y2 ∨ t = .invokespecial y2) (hS : (S.take ((gl NARG y2).getD 0)).reverse = args) (hR : S.drop ((gl NARG y2).getD 0) = rest) (hl : (gl NARG y2).getD 0 ≤ S.length) (hm : (gl MAXL y2).getD 0 = ml) (hc : rcvOk y2 args M = true) (hw : catS rest ≤ 8) (hcat : catS args ≤ ml) (h1 : Ok X d1 y2 0 (entL args ml, [], M) Q1) (k : ∀ M1 r, Q1 M1 r → Ok X d y b1 (L, r.toList ++ rest, M1) Q) : Ok X d y b s Q := by
  subst hd; subst hS; subst hR; subst hm
  obtain ⟨n1, M1, r1, e1, q1⟩ := h1
  obtain ⟨n2, M2, r2, e2, q2⟩ := k M1 r1 q1
  refine ⟨n1 + n2 + 1, M2, r2, ?_, q2⟩
  rw [run_trm hb hr]
  have f1 := run_mono X (k := n2) e1
  have f2 := run_mono X (k := n1) e2
  rw [Nat.add_comm] at f2
  have key : (if rcvOk y2 (S.take ((gl NARG y2).getD 0)).reverse M = true ∧ catS (S.drop ((gl NARG y2).getD 0)) ≤ 8 ∧ (gl NARG y2).getD 0 ≤ S.length ∧ catS (S.take ((gl NARG y2).getD 0)).reverse ≤ (gl MAXL y2).getD 0 then
      (match run X (n1 + n2) d1 y2 0 (entL (S.take ((gl NARG y2).getD 0)).reverse ((gl MAXL y2).getD 0), [], M) with
        | some (M1, r) => run X (n1 + n2) (d1 + 1) y (tb [b1] 0) (L, r.toList ++ S.drop ((gl NARG y2).getD 0), M1)
        | none => none)
      else none) = some (M2, r2) := by
    rw [if_pos ⟨hc, hw, hl, hcat⟩, f1]
    exact f2
  rcases ht with rfl | rfl | rfl
  · exact key
  · exact key
  · exact key
theorem alen_of {id k n : Nat} {M : Mm} (hk : gl M.2.2 id = some (k, n)) (h : 100 ≤ k) : alen (id + 1) M = some (n : Int) := by
  simp [alen, hk, h]
theorem ok_alen {X : Xs} {d y b : Nat} {s : Fr} {ops : List Instr} {L : List (Option AV)} {S : List AV} {M : Mm} {Q : Mm → Option AV → Prop} {id n b1 : Nat} (hb : blkOf y b = some (ops, .arraylength, [b1])) (hr : runB X ops s = some (L, .inr (.inr (.inl (id + 1))) :: S, M)) (hk : gl M.2.2 id = some (100, n)) (k : Ok X d y b1 (L, .inl (n : Int) :: S, M) Q) : Ok X d y b s Q :=
  Ok.of hb hr (fun rec => by show (match alen (id + 1) M with | some v => rec d y (tb [b1] 0) (L, .inl v :: S, M) | none => none) = _; rw [alen_of hk (by decide)]; rfl) k
theorem ok_mmax {X : Xs} {d y b : Nat} {s : Fr} {ops : List Instr} {L : List (Option AV)} {S : List AV} {M : Mm} {Q : Mm → Option AV → Prop} {u v : Int} {b1 d1 : Nat} (hd : d = d1 + 1) (hb : blkOf y b = some (ops, .invokedynamic 1, [b1])) (hr : runB X ops s = some (L, .inl v :: .inl u :: S, M)) (hw : catS S ≤ 8) (k : Ok X d y b1 (L, .inl (max u v) :: S, M) Q) : Ok X d y b s Q :=
  Ok.of hb hr (fun rec => by show (if 1 ≤ d ∧ catS S ≤ 8 then _ else _) = _; rw [if_pos ⟨by omega, hw⟩]; rfl) k
theorem ok_mmin {X : Xs} {d y b : Nat} {s : Fr} {ops : List Instr} {L : List (Option AV)} {S : List AV} {M : Mm} {Q : Mm → Option AV → Prop} {u v : Int} {b1 d1 : Nat} (hd : d = d1 + 1) (hb : blkOf y b = some (ops, .invokedynamic 2, [b1])) (hr : runB X ops s = some (L, .inl v :: .inl u :: S, M)) (hw : catS S ≤ 8) (k : Ok X d y b1 (L, .inl (min u v) :: S, M) Q) : Ok X d y b s Q :=
  Ok.of hb hr (fun rec => by show (if 1 ≤ d ∧ catS S ≤ 8 then _ else _) = _; rw [if_pos ⟨by omega, hw⟩]; rfl) k
theorem ok_lmax {X : Xs} {d y b : Nat} {s : Fr} {ops : List Instr} {L : List (Option AV)} {S : List AV} {M : Mm} {Q : Mm → Option AV → Prop} {u v : Int} {b1 d1 : Nat} (hd : d = d1 + 1) (hb : blkOf y b = some (ops, .invokedynamic 3, [b1])) (hr : runB X ops s = some (L, .inr (.inl v) :: .inr (.inl u) :: S, M)) (hw : catS S ≤ 8) (k : Ok X d y b1 (L, .inr (.inl (max u v)) :: S, M) Q) : Ok X d y b s Q :=
  Ok.of hb hr (fun rec => by show (if 1 ≤ d ∧ catS S ≤ 8 then _ else _) = _; rw [if_pos ⟨by omega, hw⟩]; rfl) k
theorem ok_lmin {X : Xs} {d y b : Nat} {s : Fr} {ops : List Instr} {L : List (Option AV)} {S : List AV} {M : Mm} {Q : Mm → Option AV → Prop} {u v : Int} {b1 d1 : Nat} (hd : d = d1 + 1) (hb : blkOf y b = some (ops, .invokedynamic 4, [b1])) (hr : runB X ops s = some (L, .inr (.inl v) :: .inr (.inl u) :: S, M)) (hw : catS S ≤ 8) (k : Ok X d y b1 (L, .inr (.inl (min u v)) :: S, M) Q) : Ok X d y b s Q :=
  Ok.of hb hr (fun rec => by show (if 1 ≤ d ∧ catS S ≤ 8 then _ else _) = _; rw [if_pos ⟨by omega, hw⟩]; rfl) k
end
section
/-! which cell is which: the cells as the two constructors lay them, and how the walks name the memory (printed by wip/tools) -/
def K0 : List (Nat × Nat) := [(11, 0), (7, 0), (100, 12), (100, 12), (100, 12), (100, 732), (100, 3), (100, 3), (100, 36), (100, 36), (5, 0), (100, 3), (100, 3), (100, 3), (100, 3), (10, 0), (9, 0), (100, 400), (2, 0), (100, 40), (100, 40), (100, 40), (100, 40), (100, 40), (100, 12960), (6, 0), (9, 0), (100, 100), (3, 0), (100, 576), (100, 64), (0, 0), (100, 36), (100, 36), (100, 36), (100, 180), (100, 21636), (1, 0), (100, 3), (100, 3), (100, 3), (100, 3), (100, 16), (100, 16), (100, 16), (100, 36), (4, 0), (100, 6), (100, 36), (8, 0), (100, 6), (100, 6), (100, 3), (100, 3), (100, 3), (100, 6), (100, 108), (100, 36), (100, 36), (100, 3), (100, 3), (100, 21), (12, 0), (100, 12), (100, 12), (100, 3), (100, 3), (100, 732), (100, 12), (100, 36), (100, 36), (100, 3), (100, 3), (100, 3), (100, 3), (100, 6), (100, 6), (100, 3), (100, 3), (100, 3), (100, 400), (100, 80), (100, 80), (100, 80), (100, 80), (100, 80), (100, 16), (100, 16), (100, 16), (100, 16), (100, 16), (100, 3), (100, 3), (100, 3), (100, 36), (100, 36), (100, 36), (100, 36), (100, 36), (100, 17400), (100, 17400), (100, 17400), (100, 17400), (100, 17400), (100, 17400), (100, 17400), (100, 17400), (103, 17400), (100, 17400), (102, 21636), (100, 5), (100, 5), (100, 108), (100, 108), (100, 36), (100, 36), (100, 36), (100, 6), (100, 256), (100, 256), (100, 128), (101, 128), (100, 36)]
def GT (r o : Nat) : List (List Nat) := [[2, 11, 16, 17, 19, 26, 29, 32, 38, 47, 50, 59, 60, 61, 62, 0, 0, 0], [3, 4, 5, 6, 7, 8, 9, 10, 0, 0, 0, 0, 0, 0, 0, 0], [], [], [], [], [], [], [], [], [12, 13, 14, 15, 0, 0, 0], [], [], [], [], [0, 0, 0, 0, 0, 0, 0, 0, 0], [18, 0, 0, 0, 0, 0, 0, 0], [], [20, 21, 22, 23, 24, 25, 0, 0, 0, 0], [], [], [], [], [], [], [27, 0, 0, 0, 0], [28, 0, 0, 0, 0, 0, 0, 0], [], [r + 1, o + 1, 0, 0], [], [], [33, 34, 35, 36, 37, 2, 16], [], [], [], [], [], [11, 19, 29, 2, 0, 0, 0, 39, 40, 41, 42, 43, 44, 45, 46], [], [], [], [], [], [], [], [], [48, 49, 0, 2, 16, 38, 32, 0, 0, 0, 0, 0, 0, 0, 0, 0], [], [], [51, 52, 53, 54, 55, 56, 57, 58, 2, 32, 0, 0], [], [], [], [], [], [], [], [], [], [], [], [], [0, 64, 65, 0, 0, 0, 0, 0, 0, 66, 67, 68, 69, 0, 0, 70, 71, 0, 72, 73, 74, 75, 0, 0, 0, 0, 0, 0, 0, 0, 0, 0, 0, 0, 76, 77, 78, 79, 80, 81, 0, 0, 0, 0, 0, 0, 0, 0, 0, 0, 0, 0, 82, 83, 84, 85, 86, 0, 87, 88, 89, 90, 91, 0, 92, 93, 94, 95, 96, 97, 98, 99, 0, 0, 0, 0, 0, 0, 0, 0, 0, 100, 101, 102, 103, 104, 105, 106, 107, 108, 109, 0, 0, 0, 0, 0, 110, 111, 112, 113, 114, 115, 116, 117, 118, 0, 119, 120, 0, 0, 0, 0, 121, 122, 123], [], [], [], [], [], [], [], [], [], [], [], [], [], [], [], [], [], [], [], [], [], [], [], [], [], [], [], [], [], [], [], [], [], [], [], [], [], [], [], [], [], [], [], [], [], [], [], [], [], [], [], [], [], [], [], [], [], [], [], []]
def G0 (r o : Nat) : Nat → Nat → Nat := fun i k => match gl (GT r o) i with
  | none => 0
  | some l => match gl l k with
    | none => 0
    | some v => v
/-- the memory: numbers V; where the two rows of loads lie now, and the cells that were made behind the first -/
abbrev mm (V : Nat → Nat → Int) (h : Nat × Nat × List (Nat × Nat)) : Mm := (V, G0 h.1 h.2.1, K0 ++ h.2.2)
abbrev HP : Type := Nat × Nat × List (Nat × Nat)
def atV (V : Nat → Nat → Int) (id n : Nat) (i : Int) : Int := if 0 ≤ i ∧ i < (n : Int) then V id i.toNat else 0
def setV (V : Nat → Nat → Int) (id n : Nat) (i x : Int) : Nat → Nat → Int := if 0 ≤ i ∧ i < (n : Int) then up V id i.toNat x else V
def isFromV (v lo hi : Int) : Int := if lo ≤ v ∧ v ≤ hi then 1 else 0
def cutV (v d : Int) : Int := if d = 0 then 0 else w32 (v.tdiv d)
set_option maxRecDepth 20000 in
set_option maxHeartbeats 4000000 in
theorem s_Br_at {X : Xs} {d : Nat} {V : Nat → Nat → Int} {h : Nat × Nat × List (Nat × Nat)} {id n : Nat} {i : Int} (hk : gl (K0 ++ h.2.2) id = some (100, n)) : Ok X (d + 1) 21 0 ([some (.inr (.inr (.inl (id + 1)))), some (.inl i)], [], mm V h) (fun M r => M = mm V h ∧ r = some (.inl (atV V id n i))) := by
  let QQ : Mm → Option AV → Prop := fun M r => M = mm V h ∧ r = some (.inl (atV V id n i))
  show Ok X (d + 1) 21 0 ([some (.inr (.inr (.inl (id + 1)))), some (.inl i)], [], mm V h) QQ
  refine ok_if_lt (x := i) (L := [some (.inr (.inr (.inl (id + 1)))), some (.inl i)]) (S := []) (M := mm V h) rfl rfl (fun c1 => ?_) (fun c1 => ?_)
  ·
    refine ok_thru (L := [some (.inr (.inr (.inl (id + 1)))), some (.inl i)]) (S := [.inl 0]) (M := mm V h) rfl rfl ?_
    refine ok_ireturn (L := [some (.inr (.inr (.inl (id + 1)))), some (.inl i)]) (M := mm V h) (x := 0) rfl rfl  ?_
    refine ⟨rfl, congrArg (fun z => some (Sum.inl z)) ?_⟩
    unfold atV
    rw [if_neg (by omega)]
  ·
    refine ok_alen (id := id) (n := n) (L := [some (.inr (.inr (.inl (id + 1)))), some (.inl i)]) (S := [.inl i]) (M := mm V h) rfl rfl hk ?_
    refine ok_ic_ge (x := i) (u := (n : Int)) (L := [some (.inr (.inr (.inl (id + 1)))), some (.inl i)]) (S := []) (M := mm V h) rfl rfl (fun c2 => ?_) (fun c2 => ?_)
    ·
      refine ok_thru (L := [some (.inr (.inr (.inl (id + 1)))), some (.inl i)]) (S := [.inl 0]) (M := mm V h) rfl rfl ?_
      refine ok_ireturn (L := [some (.inr (.inr (.inl (id + 1)))), some (.inl i)]) (M := mm V h) (x := 0) rfl rfl  ?_
      refine ⟨rfl, congrArg (fun z => some (Sum.inl z)) ?_⟩
      unfold atV
      rw [if_neg (by omega)]
    ·
      refine ok_iald (i := i) (id := id) (n := n) (L := [some (.inr (.inr (.inl (id + 1)))), some (.inl i)]) (S := []) (M := mm V h) rfl rfl hk ?_ ?_ ?_
      · omega
      · omega
      refine ok_goto (L := [some (.inr (.inr (.inl (id + 1)))), some (.inl i)]) (S := [.inl (V id i.toNat)]) (M := mm V h) rfl rfl ?_
      refine ok_ireturn (L := [some (.inr (.inr (.inl (id + 1)))), some (.inl i)]) (M := mm V h) (x := V id i.toNat) rfl rfl  ?_
      refine ⟨rfl, congrArg (fun z => some (Sum.inl z)) ?_⟩
      unfold atV
      rw [if_pos (by omega)]
set_option maxRecDepth 20000 in
set_option maxHeartbeats 4000000 in
theorem s_Br_set {X : Xs} {d : Nat} {V : Nat → Nat → Int} {h : Nat × Nat × List (Nat × Nat)} {id n : Nat} {i x : Int} (hk : gl (K0 ++ h.2.2) id = some (100, n)) : Ok X (d + 1) 9 0 ([some (.inr (.inr (.inl (id + 1)))), some (.inl i), some (.inl x)], [], mm V h) (fun M r => M = mm (setV V id n i x) h ∧ r = none) := by
  let QQ : Mm → Option AV → Prop := fun M r => M = mm (setV V id n i x) h ∧ r = none
  show Ok X (d + 1) 9 0 ([some (.inr (.inr (.inl (id + 1)))), some (.inl i), some (.inl x)], [], mm V h) QQ
  refine ok_if_lt (x := i) (L := [some (.inr (.inr (.inl (id + 1)))), some (.inl i), some (.inl x)]) (S := []) (M := mm V h) rfl rfl (fun c1 => ?_) (fun c1 => ?_)
  ·
    refine ok_return (L := [some (.inr (.inr (.inl (id + 1)))), some (.inl i), some (.inl x)]) (M := mm V h) rfl rfl  ?_
    refine ⟨?_, rfl⟩
    unfold setV
    rw [if_neg (by omega)]
  ·
    refine ok_alen (id := id) (n := n) (L := [some (.inr (.inr (.inl (id + 1)))), some (.inl i), some (.inl x)]) (S := [.inl i]) (M := mm V h) rfl rfl hk ?_
    refine ok_ic_ge (x := i) (u := (n : Int)) (L := [some (.inr (.inr (.inl (id + 1)))), some (.inl i), some (.inl x)]) (S := []) (M := mm V h) rfl rfl (fun c2 => ?_) (fun c2 => ?_)
    ·
      refine ok_return (L := [some (.inr (.inr (.inl (id + 1)))), some (.inl i), some (.inl x)]) (M := mm V h) rfl rfl  ?_
      refine ⟨?_, rfl⟩
      unfold setV
      rw [if_neg (by omega)]
    ·
      refine ok_iast (i := i) (v := x) (id := id) (n := n) (L := [some (.inr (.inr (.inl (id + 1)))), some (.inl i), some (.inl x)]) (S := []) (M := mm V h) rfl rfl hk ?_ ?_ ?_
      · omega
      · omega
      refine ok_return (L := [some (.inr (.inr (.inl (id + 1)))), some (.inl i), some (.inl x)]) (M := mm (up V id i.toNat x) h) rfl rfl  ?_
      refine ⟨?_, rfl⟩
      unfold setV
      rw [if_pos (by omega)]
set_option maxRecDepth 20000 in
set_option maxHeartbeats 4000000 in
theorem s_Br_isFrom {X : Xs} {d : Nat} {V : Nat → Nat → Int} {h : Nat × Nat × List (Nat × Nat)} {v lo hi : Int} : Ok X (d + 1) 16 0 ([some (.inl v), some (.inl lo), some (.inl hi)], [], mm V h) (fun M r => M = mm V h ∧ r = some (.inl (isFromV v lo hi))) := by
  let QQ : Mm → Option AV → Prop := fun M r => M = mm V h ∧ r = some (.inl (isFromV v lo hi))
  show Ok X (d + 1) 16 0 ([some (.inl v), some (.inl lo), some (.inl hi)], [], mm V h) QQ
  refine ok_ic_lt (x := v) (u := lo) (L := [some (.inl v), some (.inl lo), some (.inl hi)]) (S := []) (M := mm V h) rfl rfl (fun c1 => ?_) (fun c1 => ?_)
  ·
    refine ok_thru (L := [some (.inl v), some (.inl lo), some (.inl hi)]) (S := [.inl 0]) (M := mm V h) rfl rfl ?_
    refine ok_zreturn (L := [some (.inl v), some (.inl lo), some (.inl hi)]) (M := mm V h) (x := 0) rfl rfl (by first | omega | (show (0:Int) ≤ 0 ∧ (0:Int) < 128; omega) | (left; rfl) | (right; rfl) | assumption) ?_
    refine ⟨rfl, congrArg (fun z => some (Sum.inl z)) ?_⟩
    unfold isFromV
    rw [if_neg (by omega)]
  ·
    refine ok_ic_gt (x := v) (u := hi) (L := [some (.inl v), some (.inl lo), some (.inl hi)]) (S := []) (M := mm V h) rfl rfl (fun c2 => ?_) (fun c2 => ?_)
    ·
      refine ok_thru (L := [some (.inl v), some (.inl lo), some (.inl hi)]) (S := [.inl 0]) (M := mm V h) rfl rfl ?_
      refine ok_zreturn (L := [some (.inl v), some (.inl lo), some (.inl hi)]) (M := mm V h) (x := 0) rfl rfl (by first | omega | (show (0:Int) ≤ 0 ∧ (0:Int) < 128; omega) | (left; rfl) | (right; rfl) | assumption) ?_
      refine ⟨rfl, congrArg (fun z => some (Sum.inl z)) ?_⟩
      unfold isFromV
      rw [if_neg (by omega)]
    ·
      refine ok_goto (L := [some (.inl v), some (.inl lo), some (.inl hi)]) (S := [.inl 1]) (M := mm V h) rfl rfl ?_
      refine ok_zreturn (L := [some (.inl v), some (.inl lo), some (.inl hi)]) (M := mm V h) (x := 1) rfl rfl (by first | omega | (show (0:Int) ≤ 0 ∧ (0:Int) < 128; omega) | (left; rfl) | (right; rfl) | assumption) ?_
      refine ⟨rfl, congrArg (fun z => some (Sum.inl z)) ?_⟩
      unfold isFromV
      rw [if_pos (by omega)]
set_option maxRecDepth 20000 in
set_option maxHeartbeats 4000000 in
theorem s_Br_cut {X : Xs} {d : Nat} {V : Nat → Nat → Int} {h : Nat × Nat × List (Nat × Nat)} {v q : Int} : Ok X (d + 1) 28 0 ([some (.inl v), some (.inl q)], [], mm V h) (fun M r => M = mm V h ∧ r = some (.inl (cutV v q))) := by
  let QQ : Mm → Option AV → Prop := fun M r => M = mm V h ∧ r = some (.inl (cutV v q))
  show Ok X (d + 1) 28 0 ([some (.inl v), some (.inl q)], [], mm V h) QQ
  refine ok_if_ne (x := q) (L := [some (.inl v), some (.inl q)]) (S := []) (M := mm V h) rfl rfl (fun c1 => ?_) (fun c1 => ?_)
  ·
    refine ok_idiv (u := v) (v := q) (L := [some (.inl v), some (.inl q)]) (S := []) (M := mm V h) rfl rfl ?_ ?_
    · omega
    refine ok_ireturn (L := [some (.inl v), some (.inl q)]) (M := mm V h) (x := w32 (v.tdiv q)) rfl rfl  ?_
    refine ⟨rfl, congrArg (fun z => some (Sum.inl z)) ?_⟩
    unfold cutV
    rw [if_neg (by omega)]
  ·
    refine ok_goto (L := [some (.inl v), some (.inl q)]) (S := [.inl 0]) (M := mm V h) rfl rfl ?_
    refine ok_ireturn (L := [some (.inl v), some (.inl q)]) (M := mm V h) (x := 0) rfl rfl  ?_
    refine ⟨rfl, congrArg (fun z => some (Sum.inl z)) ?_⟩
    unfold cutV
    rw [if_pos (by omega)]
end
section
/-! whole numbers and the machine's ints and longs -/
def inI (x : Int) : Prop := -2147483648 ≤ x ∧ x < 2147483648
def inJ (x : Int) : Prop := -9223372036854775808 ≤ x ∧ x < 9223372036854775808
theorem w32_in (x : Int) : inI (w32 x) := by unfold inI w32; omega
theorem w64_in (x : Int) : inJ (w64 x) := by unfold inJ w64; omega
theorem w16_in (x : Int) : inI (w16 x) := by unfold inI w16; omega
theorem w32_bmod (x : Int) : w32 x = x.bmod 4294967296 := by
  unfold w32 Int.bmod; simp only; split <;> omega
theorem w64_bmod (x : Int) : w64 x = x.bmod 18446744073709551616 := by
  unfold w64 Int.bmod; simp only; split <;> omega
theorem w16_bmod (x : Int) : w16 x = x.bmod 65536 := by
  unfold w16 Int.bmod; simp only; split <;> omega
theorem i_toInt {x : Int} (h : inI x) : (Int32.ofInt x).toInt = x := Int32.toInt_ofInt_of_le h.1 h.2
theorem j_toInt {x : Int} (h : inJ x) : (Int64.ofInt x).toInt = x := by
  rw [Int64.toInt_ofInt]
  show x.bmod 18446744073709551616 = x
  rw [← w64_bmod]; obtain ⟨h1, h2⟩ := h; unfold w64; omega
theorem i_in (x : Int32) : inI x.toInt := ⟨x.le_toInt, x.toInt_lt⟩
theorem j_in (x : Int64) : inJ x.toInt := ⟨x.le_toInt, x.toInt_lt⟩
theorem i_w32 (x : Int) : Int32.ofInt (w32 x) = Int32.ofInt x := by
  apply Int32.toInt_inj.mp
  rw [i_toInt (w32_in x), Int32.toInt_ofInt, w32_bmod]
theorem j_w64 (x : Int) : Int64.ofInt (w64 x) = Int64.ofInt x := by
  apply Int64.toInt_inj.mp
  rw [j_toInt (w64_in x), Int64.toInt_ofInt, w64_bmod]
theorem i_lt {x y : Int} (hx : inI x) (hy : inI y) : Int32.ofInt x < Int32.ofInt y ↔ x < y := by
  rw [Int32.lt_iff_toInt_lt, i_toInt hx, i_toInt hy]
theorem i_le {x y : Int} (hx : inI x) (hy : inI y) : Int32.ofInt x ≤ Int32.ofInt y ↔ x ≤ y := by
  rw [Int32.le_iff_toInt_le, i_toInt hx, i_toInt hy]
theorem i_eq {x y : Int} (hx : inI x) (hy : inI y) : Int32.ofInt x = Int32.ofInt y ↔ x = y :=
  ⟨fun h => by rw [← i_toInt hx, ← i_toInt hy, h], fun h => by rw [h]⟩
theorem j_lt {x y : Int} (hx : inJ x) (hy : inJ y) : Int64.ofInt x < Int64.ofInt y ↔ x < y := by
  rw [Int64.lt_iff_toInt_lt, j_toInt hx, j_toInt hy]
theorem j_eq {x y : Int} (hx : inJ x) (hy : inJ y) : Int64.ofInt x = Int64.ofInt y ↔ x = y :=
  ⟨fun h => by rw [← j_toInt hx, ← j_toInt hy, h], fun h => by rw [h]⟩
theorem in0 : inI 0 := by unfold inI; omega
theorem i_0 : (0 : Int32) = Int32.ofInt 0 := rfl
theorem i_ofNat (n : Nat) : Int32.ofNat n = Int32.ofInt (n : Int) := Int32.ofInt_eq_ofNat.symm
theorem tdiv_in {x y : Int} (hx : inI x) : -2147483648 ≤ x.tdiv y ∧ x.tdiv y ≤ 2147483648 := by
  have h : (x.tdiv y).natAbs ≤ x.natAbs := by rw [Int.natAbs_tdiv]; exact Nat.div_le_self _ _
  obtain ⟨h1, h2⟩ := hx
  omega
theorem i_div {x y : Int} (hx : inI x) (hy : inI y) : Int32.ofInt x / Int32.ofInt y = Int32.ofInt (w32 (x.tdiv y)) := by
  apply Int32.toInt_inj.mp
  rw [Int32.toInt_div, i_toInt hx, i_toInt hy, i_toInt (w32_in _), w32_bmod]
theorem j_div {x y : Int} (hx : inJ x) (hy : inJ y) : Int64.ofInt x / Int64.ofInt y = Int64.ofInt (w64 (x.tdiv y)) := by
  apply Int64.toInt_inj.mp
  rw [Int64.toInt_div, j_toInt hx, j_toInt hy, j_toInt (w64_in _), w64_bmod]
theorem i_rem {x y : Int} (hx : inI x) (hy : inI y) : Int32.ofInt x - Int32.ofInt x / Int32.ofInt y * Int32.ofInt y = Int32.ofInt (x.tmod y) := by
  rw [i_div hx hy, i_w32, ← Int32.ofInt_mul, ← Int32.ofInt_sub]
  congr 1
  rw [Int.tmod_def, Int.mul_comm]
theorem tmod_in {x y : Int} (hx : inI x) : inI (x.tmod y) := by
  have h : (x.tmod y).natAbs ≤ x.natAbs := by rw [Int.natAbs_tmod]; exact Nat.mod_le _ _
  have h2 : 0 ≤ x → 0 ≤ x.tmod y := fun h => Int.tmod_nonneg _ h
  obtain ⟨h1, h3⟩ := hx
  refine ⟨by omega, ?_⟩
  rcases (show x < 0 ∨ 0 ≤ x by omega) with q | q
  · have : x.tmod y ≤ 0 := by
      have := Int.tmod_nonneg y (a := -x) (by omega)
      rw [Int.neg_tmod] at this; omega
    omega
  · omega
theorem i_i16 (x : Int) : (Int32.ofInt x).toInt16.toInt32 = Int32.ofInt (w16 x) := by
  apply Int32.toInt_inj.mp
  rw [i_toInt (w16_in x), Int32.toInt16_ofInt, Int16.toInt_toInt32, Int16.toInt_ofInt, w16_bmod]
theorem i_c16 {x : Int} : ((Int32.ofInt x).toUInt32 % 65536).toInt32 = Int32.ofInt (x % 65536) := by
  have e := pk_char (Int32.ofInt x)
  rw [e]
  show Int32.ofNat _ = _
  rw [i_ofNat]
  congr 1
  have h1 : (Int32.ofInt x).toBitVec.toNat = (x % 4294967296).toNat := by
    show (BitVec.ofInt 32 x).toNat = _
    rw [BitVec.toNat_ofInt]; rfl
  rw [h1]
  omega
theorem i_toJ {x : Int} (h : inI x) : (Int32.ofInt x).toInt64 = Int64.ofInt x := by
  apply Int64.toInt_inj.mp
  rw [Int32.toInt_toInt64, i_toInt h, j_toInt ⟨by have := h.1; omega, by have := h.2; omega⟩]
theorem j_toI (x : Int) : (Int64.ofInt x).toInt32 = Int32.ofInt (w32 x) := by
  rw [Int64.toInt32_ofInt, i_w32]
theorem i_cl {x : Int} (h : inI x) : (Int32.ofInt x).toNatClampNeg = x.toNat := Int32.toNatClampNeg_ofInt_of_le h.1 h.2
theorem vpin {x : Int} {n : Nat} (h : inI x) (h0 : 0 ≤ x) (h1 : x < (n : Int)) : vp_in (Int32.ofInt x) n := by
  rw [vp_in_iff, i_toInt h]; exact ⟨h0, h1⟩
theorem i_cmp {x y : Int} (hx : inJ x) (hy : inJ y) : lg_cmp (Int64.ofInt x) (Int64.ofInt y) = Int32.ofInt (lcmpI x y) := by
  have h1 : (Int64.ofInt x > Int64.ofInt y) ↔ y < x := j_lt hy hx
  have h2 := j_eq hx hy
  unfold lg_cmp lcmpI
  by_cases a : y < x
  · rw [if_pos (h1.mpr a), if_neg (by omega), if_neg (by omega)]; rfl
  · rw [if_neg (fun q => a (h1.mp q))]
    by_cases b : x = y
    · rw [if_pos (h2.mpr b), if_neg (by omega), if_pos b]; rfl
    · rw [if_neg (fun q => b (h2.mp q)), if_pos (by omega)]; rfl
end
section
/-! what the small machine's state is in the real one: its cells lie from the base on, one behind another, as they were made -/
/-- base, addresses of what lies outside, the kinds' numbers and slots, the kinds of rows (0 ints, 1 longs, 2 shorts, 3 booleans) -/
abbrev GP : Type := Nat × (Nat → Nat) × (Nat → ClassId) × (Nat → Nat → Nat) × (Nat → ClassId)
abbrev gD (g : GP) : va_G := (g.2.2.1, g.2.2.2.1)
abbrev gA (g : GP) : Nat → ClassId := g.2.2.2.2
def rv (g : GP) : Nat → Value
  | 0 => .null
  | k + 1 => .ref (g.1 + k)
/-- what lies outside: the value of 1 is nobody's business, it may be null -/
def xv (g : GP) (k : Nat) : Value := if k = 1 ∧ g.2.1 2 = 0 then .null else .ref (g.2.1 k)
theorem xv_ref (g : GP) {k : Nat} (h : k ≠ 1) : xv g k = .ref (g.2.1 k) := if_neg (fun z => h z.1)
theorem xv_or (g : GP) (k : Nat) : xv g k = .null ∨ ∃ t, xv g k = .ref t := by
  unfold xv
  split
  · exact Or.inl rfl
  · exact Or.inr ⟨_, rfl⟩
def vv (g : GP) : AV → Value
  | .inl x => .int (Int32.ofInt x)
  | .inr (.inl x) => .long (Int64.ofInt x)
  | .inr (.inr (.inl r)) => rv g r
  | .inr (.inr (.inr k)) => xv g k
def fv (g : GP) (M : Mm) (id k : Nat) (kd : Nat) : Value := match kd with
  | 3 => rv g (M.2.1 id k)
  | 2 => .long (Int64.ofInt (M.1 id k))
  | _ => .int (Int32.ofInt (M.1 id k))
def fvs (g : GP) (M : Mm) (id : Nat) : Nat → List Nat → List Value
  | _, [] => []
  | k, kd :: l => fv g M id k kd :: fvs g M id (k + 1) l
def ent (g : GP) (M : Mm) (id : Nat) (q : Nat × Nat) : va_E :=
  if q.1 < 100 then .inr (q.1, fvs g M id 0 ((gl FDL q.1).getD []))
  else if q.1 = 101 then .inl (gA g 1, q.2, .inr (.inl (fun i => Int64.ofInt (M.1 id i))))
  else .inl (gA g (q.1 - 100), q.2, .inl (fun i => Int32.ofInt (M.1 id i)))
def wl (g : GP) (M : Mm) : Nat → List (Nat × Nat) → va_W
  | _, [] => []
  | i, q :: l => (g.1 + i, ent g M i q) :: wl g M (i + 1) l
def wld (g : GP) (M : Mm) : va_W := wl g M 0 M.2.2
theorem gl_lt {α : Type} {l : List α} {k : Nat} {a : α} (h : gl l k = some a) : k < l.length := by
  induction l generalizing k with
  | nil => cases h
  | cons b l ih =>
    cases k with
    | zero => exact Nat.zero_lt_succ _
    | succ k => exact Nat.succ_lt_succ (ih h)
theorem gl_get {α : Type} (l : List α) (k : Nat) : gl l k = l[k]? := by
  induction l generalizing k with
  | nil => rfl
  | cons b l ih =>
    cases k with
    | zero => rfl
    | succ k => exact ih k
theorem sl_set {α : Type} (l : List α) (k : Nat) (v : α) : sl l k v = l.set k v := by
  induction l generalizing k with
  | nil => rfl
  | cons b l ih =>
    cases k with
    | zero => rfl
    | succ k => show b :: sl l k v = b :: l.set k v; rw [ih]
theorem wl_get (g : GP) (M : Mm) (l : List (Nat × Nat)) : ∀ (i k : Nat), (wl g M i l)[k]? = (gl l k).map (fun q => (g.1 + (i + k), ent g M (i + k) q)) := by
  induction l with
  | nil => intro i k; rfl
  | cons q l ih =>
    intro i k
    cases k with
    | zero => rfl
    | succ k =>
      show (wl g M (i + 1) l)[k]? = _
      rw [ih, Nat.add_right_comm i 1 k]
      rfl
theorem wld_get (g : GP) (M : Mm) (k : Nat) : (wld g M)[k]? = (gl M.2.2 k).map (fun q => (g.1 + k, ent g M k q)) := by
  unfold wld
  rw [wl_get, Nat.zero_add]
theorem wld_at {g : GP} {M : Mm} {id : Nat} {q : Nat × Nat} (h : gl M.2.2 id = some q) : (wld g M)[id]? = some (g.1 + id, ent g M id q) := by
  rw [wld_get, h]; rfl
theorem fvs_get (g : GP) (M : Mm) (id : Nat) (l : List Nat) : ∀ (k j : Nat), (fvs g M id k l)[j]? = (gl l j).map (fv g M id (k + j)) := by
  induction l with
  | nil => intro k j; rfl
  | cons q l ih =>
    intro k j
    cases j with
    | zero => rfl
    | succ j =>
      show (fvs g M id (k + 1) l)[j]? = _
      rw [ih, Nat.add_right_comm k 1 j]
      rfl
theorem fvs_len (g : GP) (M : Mm) (id : Nat) (l : List Nat) : ∀ k, (fvs g M id k l).length = l.length := by
  induction l with
  | nil => intro k; rfl
  | cons q l ih => intro k; show (fvs g M id (k + 1) l).length + 1 = _; rw [ih]; rfl
theorem fvs_congr (g : GP) {M M2 : Mm} {id : Nat} (hV : ∀ k, M2.1 id k = M.1 id k) (hG : ∀ k, M2.2.1 id k = M.2.1 id k) (l : List Nat) : ∀ k, fvs g M2 id k l = fvs g M id k l := by
  induction l with
  | nil => intro k; rfl
  | cons q l ih =>
    intro k
    show fv g M2 id k q :: fvs g M2 id (k + 1) l = fv g M id k q :: fvs g M id (k + 1) l
    rw [ih]
    congr 1
    unfold fv
    rw [hV, hG]
theorem ent_congr (g : GP) {M M2 : Mm} {id : Nat} (q : Nat × Nat) (hV : ∀ k, M2.1 id k = M.1 id k) (hG : ∀ k, M2.2.1 id k = M.2.1 id k) : ent g M2 id q = ent g M id q := by
  unfold ent
  rw [fvs_congr g hV hG]
  simp only [hV]
theorem wld_set {g : GP} {M M2 : Mm} {id : Nat} {q : Nat × Nat} (hq : gl M.2.2 id = some q) (hK : M2.2.2 = M.2.2) (hV : ∀ i k, i ≠ id → M2.1 i k = M.1 i k) (hG : ∀ i k, i ≠ id → M2.2.1 i k = M.2.1 i k) : wld g M2 = (wld g M).set id (g.1 + id, ent g M2 id q) := by
  apply List.ext_getElem?
  intro k
  rw [wld_get, hK, List.getElem?_set]
  by_cases h : id = k
  · subst h
    have hl : id < (wld g M).length := by
      have := wld_at (g := g) hq
      exact (List.getElem?_eq_some_iff.mp this).1
    rw [if_pos rfl, if_pos hl, hq]; rfl
  · rw [if_neg h, wld_get]
    cases gl M.2.2 k with
    | none => rfl
    | some p => show some (g.1 + k, ent g M2 k p) = some (g.1 + k, ent g M k p); rw [ent_congr g p (fun j => hV k j (fun e => h e.symm)) (fun j => hG k j (fun e => h e.symm))]
theorem gl_app {α : Type} (l : List α) (a : α) (k : Nat) : gl (l ++ [a]) k = if k = l.length then some a else gl l k := by
  rw [gl_get, gl_get, List.getElem?_append]
  by_cases h : k < l.length
  · rw [if_pos h, if_neg (by omega)]
  · rw [if_neg h]
    by_cases h2 : k = l.length
    · rw [if_pos h2, h2, Nat.sub_self]; rfl
    · rw [if_neg h2, List.getElem?_eq_none (by simp; omega), List.getElem?_eq_none (by omega)]
theorem wl_app (g : GP) (M : Mm) (l : List (Nat × Nat)) (q : Nat × Nat) : ∀ i, wl g M i (l ++ [q]) = wl g M i l ++ [(g.1 + (i + l.length), ent g M (i + l.length) q)] := by
  induction l with
  | nil => intro i; rfl
  | cons p l ih =>
    intro i
    show (g.1 + i, ent g M i p) :: wl g M (i + 1) (l ++ [q]) = _
    rw [ih]
    show _ = (g.1 + i, ent g M i p) :: (wl g M (i + 1) l ++ _)
    rw [List.length_cons, Nat.add_right_comm i 1 l.length]
    rfl
theorem wl_congr (g : GP) {M M2 : Mm} (l : List (Nat × Nat)) : ∀ i, (∀ j k, i ≤ j → j < i + l.length → M2.1 j k = M.1 j k) → (∀ j k, i ≤ j → j < i + l.length → M2.2.1 j k = M.2.1 j k) → wl g M2 i l = wl g M i l := by
  induction l with
  | nil => intro i _ _; rfl
  | cons p l ih =>
    intro i hV hG
    show (g.1 + i, ent g M2 i p) :: wl g M2 (i + 1) l = (g.1 + i, ent g M i p) :: wl g M (i + 1) l
    rw [ent_congr g p (fun k => hV i k (Nat.le_refl _) (by simp)) (fun k => hG i k (Nat.le_refl _) (by simp)), ih (i + 1) (fun j k h1 h2 => hV j k (by omega) (by simp; omega)) (fun j k h1 h2 => hG j k (by omega) (by simp; omega))]
theorem wld_push {g : GP} {M M2 : Mm} {q : Nat × Nat} (hK : M2.2.2 = M.2.2 ++ [q]) (hV : ∀ i k, i < M.2.2.length → M2.1 i k = M.1 i k) (hG : ∀ i k, i < M.2.2.length → M2.2.1 i k = M.2.1 i k) : wld g M2 = wld g M ++ [(g.1 + M.2.2.length, ent g M2 M.2.2.length q)] := by
  unfold wld
  rw [hK, wl_app, Nat.zero_add, wl_congr g M.2.2 0 (fun j k _ h => hV j k (by omega)) (fun j k _ h => hG j k (by omega))]
/-- the numbers are in their ranges, the kinds are known -/
def wfV : AV → Prop
  | .inl x => inI x
  | .inr (.inl x) => inJ x
  | _ => True
def cellL (q : Nat × Nat) (k : Nat) : Prop := q.1 = 101 ∨ (q.1 < 100 ∧ fk q.1 k = some 2)
def wfM (M : Mm) : Prop := ∀ (id : Nat) (q : Nat × Nat), gl M.2.2 id = some q → ((q.1 < 13 ∨ (100 ≤ q.1 ∧ q.1 ≤ 103)) ∧ q.2 ≤ 1000000) ∧ ∀ k, (cellL q k → inJ (M.1 id k)) ∧ (¬ cellL q k → inI (M.1 id k))
def wfS (S : List AV) : Prop := ∀ v ∈ S, wfV v
def wfL (L : List (Option AV)) : Prop := ∀ (i : Nat) (v : AV), gl L i = some (some v) → wfV v
theorem wfS_c {v : AV} {S : List AV} (h : wfS (v :: S)) : wfV v ∧ wfS S := ⟨h v List.mem_cons_self, fun w hw => h w (List.mem_cons_of_mem _ hw)⟩
theorem wfS_i {v : AV} {S : List AV} (h1 : wfV v) (h2 : wfS S) : wfS (v :: S) := fun w hw => by
  rcases List.mem_cons.mp hw with rfl | hw
  · exact h1
  · exact h2 w hw
/-- the locals -/
def lrel (g : GP) (L : List (Option AV)) (ls : Array Slot) : Prop := ls.size = L.length ∧ lv_wf ls ∧ ∀ (i : Nat) (v : AV), gl L i = some (some v) → ls[i]? = some (.val (vv g v))
def enL (g : GP) : Nat → List (Option AV) → List (Nat × Value)
  | _, [] => []
  | i, none :: l => enL g (i + 1) l
  | i, some v :: l => (i, vv g v) :: enL g (i + 1) l
theorem enL_mem (g : GP) (L : List (Option AV)) : ∀ (i : Nat) (q : Nat × Value), q ∈ enL g i L ↔ ∃ (k : Nat) (v : AV), gl L k = some (some v) ∧ q = (i + k, vv g v) := by
  induction L with
  | nil => intro i q; constructor
           · intro h; cases h
           · rintro ⟨k, v, h, -⟩; cases h
  | cons a L ih =>
    intro i q
    cases a with
    | none =>
      show q ∈ enL g (i + 1) L ↔ _
      rw [ih]
      constructor
      · rintro ⟨k, v, h, rfl⟩; exact ⟨k + 1, v, h, by rw [Nat.add_right_comm]; rfl⟩
      · rintro ⟨k, v, h, rfl⟩
        cases k with
        | zero => cases h
        | succ k => exact ⟨k, v, h, by rw [Nat.add_right_comm]; rfl⟩
    | some w =>
      show q ∈ (i, vv g w) :: enL g (i + 1) L ↔ _
      rw [List.mem_cons, ih]
      constructor
      · rintro (rfl | ⟨k, v, h, rfl⟩)
        · exact ⟨0, w, rfl, rfl⟩
        · exact ⟨k + 1, v, h, by rw [Nat.add_right_comm]; rfl⟩
      · rintro ⟨k, v, h, rfl⟩
        cases k with
        | zero => left; cases h; rfl
        | succ k => right; exact ⟨k, v, h, by rw [Nat.add_right_comm]; rfl⟩
theorem lrel_has {g : GP} {L : List (Option AV)} {ls : Array Slot} (h : lrel g L ls) : lv_has ls L.length (enL g 0 L) := by
  refine ⟨h.1, h.2.1, fun q hq => ?_⟩
  obtain ⟨k, v, h1, rfl⟩ := (enL_mem g L 0 q).mp hq
  rw [Nat.zero_add]
  exact h.2.2 k v h1
theorem vv_cat (g : GP) (v : AV) : (vv g v).category = if isL v then 2 else 1 := by
  rcases v with x | x | r | k
  · rfl
  · rfl
  · cases r <;> rfl
  · show (xv g k).category = 1
    rcases xv_or g k with h | ⟨t, h⟩ <;> rw [h] <;> rfl
theorem st1_rel {g : GP} {L L2 : List (Option AV)} {k : Nat} {v : AV} (h : st1 L k v = some L2) (hv : isL v = false) {ls2 : Array Slot} (hl : lv_has ls2 L.length ((k, vv g v) :: (enL g 0 L).filter (fun q => !(q.1 == k) && !(q.1 + 1 == k && q.2.category == 2)))) (hk : k < L.length) : lrel g L2 ls2 := by
  have e : L2 = sl L k (some v) ∧ ∀ w, gl L (k - 1) = some (some w) → isL w = true → k = 0 := by
    cases k with
    | zero => cases h; exact ⟨rfl, fun _ _ _ => rfl⟩
    | succ j =>
      unfold st1 at h
      dsimp only at h
      cases hj : isLo (gl L j) with
      | true => rw [hj] at h; cases h
      | false =>
        rw [hj] at h; cases h
        refine ⟨rfl, fun w h1 h2 => ?_⟩
        rw [Nat.add_sub_cancel] at h1
        rw [h1] at hj
        have : isL w = false := hj
        rw [h2] at this; cases this
  obtain ⟨rfl, hlong⟩ := e
  refine ⟨by rw [hl.1, sl_set, List.length_set], hl.2.1, fun i w hi => ?_⟩
  rw [sl_set, gl_get, List.getElem?_set] at hi
  by_cases hik : k = i
  · subst hik
    rw [if_pos rfl, if_pos hk] at hi
    cases hi
    exact hl.2.2 _ List.mem_cons_self
  · rw [if_neg hik, ← gl_get] at hi
    refine hl.2.2 (i, vv g w) (List.mem_cons_of_mem _ (List.mem_filter.mpr ⟨(enL_mem g L 0 _).mpr ⟨i, w, hi, by rw [Nat.zero_add]⟩, ?_⟩))
    have h1 : (i == k) = false := by simp; omega
    have h2 : (i + 1 == k && (vv g w).category == 2) = false := by
      by_cases h3 : i + 1 = k
      · subst h3
        rw [Nat.add_sub_cancel] at hlong
        have : isL w = false := by
          cases hw : isL w with
          | false => rfl
          | true => exact absurd (hlong w hi hw) (by omega)
        rw [vv_cat, this]; simp
      · have : (i + 1 == k) = false := by simp; omega
        rw [this]; rfl
    simp [h1, h2]
theorem st2_rel {g : GP} {L L2 : List (Option AV)} {k : Nat} {v : AV} (h : st2 L k v = some L2) {ls2 : Array Slot} (hl : lv_has ls2 L.length ((k, vv g v) :: (enL g 0 L).filter (fun q => !(q.1 == k) && (!(q.1 == k + 1) && !(q.1 + 1 == k && q.2.category == 2))))) (hk : k + 1 < L.length) : lrel g L2 ls2 := by
  have e : L2 = sl (sl L k (some v)) (k + 1) none ∧ ∀ w, gl L (k - 1) = some (some w) → isL w = true → k = 0 := by
    cases k with
    | zero => cases h; exact ⟨rfl, fun _ _ _ => rfl⟩
    | succ j =>
      unfold st2 at h
      dsimp only at h
      cases hj : isLo (gl L j) with
      | true => rw [hj] at h; cases h
      | false =>
        rw [hj] at h; cases h
        refine ⟨rfl, fun w h1 h2 => ?_⟩
        rw [Nat.add_sub_cancel] at h1
        rw [h1] at hj
        have : isL w = false := hj
        rw [h2] at this; cases this
  obtain ⟨rfl, hlong⟩ := e
  refine ⟨by rw [hl.1, sl_set, sl_set, List.length_set, List.length_set], hl.2.1, fun i w hi => ?_⟩
  rw [sl_set, sl_set, gl_get, List.getElem?_set] at hi
  by_cases hik1 : k + 1 = i
  · rw [if_pos hik1] at hi
    split at hi <;> cases hi
  · rw [if_neg hik1, List.getElem?_set] at hi
    by_cases hik : k = i
    · subst hik
      rw [if_pos rfl, if_pos (by omega)] at hi
      cases hi
      exact hl.2.2 _ List.mem_cons_self
    · rw [if_neg hik, ← gl_get] at hi
      refine hl.2.2 (i, vv g w) (List.mem_cons_of_mem _ (List.mem_filter.mpr ⟨(enL_mem g L 0 _).mpr ⟨i, w, hi, by rw [Nat.zero_add]⟩, ?_⟩))
      have h1 : (i == k) = false := by simp; omega
      have h1b : (i == k + 1) = false := by simp; omega
      have h2 : (i + 1 == k && (vv g w).category == 2) = false := by
        by_cases h3 : i + 1 = k
        · subst h3
          rw [Nat.add_sub_cancel] at hlong
          have : isL w = false := by
            cases hw : isL w with
            | false => rfl
            | true => exact absurd (hlong w hi hw) (by omega)
          rw [vv_cat, this]; simp
        · have : (i + 1 == k) = false := by simp; omega
          rw [this]; rfl
      simp [h1, h1b, h2]
end
section
/-! each instruction of a row, in the real machine -/
abbrev Afn (g : GP) : Nat → Prop := fun q => g.1 ≤ q
abbrev gtys (g : GP) : List (ClassId × FieldType) := [(gA g 0, .int), (gA g 1, .long), (gA g 2, .short), (gA g 3, .boolean)]
def ksz : List (Nat × Nat) → Nat
  | [] => 0
  | q :: l => (if q.1 < 100 then (cT q.1).2.2 else q.2) + ksz l
theorem ksz_app (l : List (Nat × Nat)) (q : Nat × Nat) : ksz (l ++ [q]) = ksz l + (if q.1 < 100 then (cT q.1).2.2 else q.2) := by
  induction l with
  | nil => simp [ksz]
  | cons p l ih => simp only [List.cons_append, ksz, ih]; omega
/-- what stands outside at a method's start: classes, links of nest mates, text constants, two statics, the script -/
def EXT (g : GP) (X : Xs) (U : State) (H : Heap) : Prop :=
  va_K (gD g) vwCl (gtys g) U ∧ (∀ q ∈ MLL, q.2.2.2.1 ≠ 0 → va_Nw (.methodLinkNest (cn q.1) q.2.1 (yn q.2.2.1) "BlackRoad") U) ∧ (∀ q ∈ STL, ∃ tx, vk_R (cn q.1) q.2.1 tx (g.2.1 (10 + q.2.2)) U) ∧
  vk_S 13 (SBY.map List.length) (SBY.map (List.map Int32.ofInt)) (fun j => g.2.1 (10 + j)) (fun j => g.2.1 (40 + j)) (Afn g) U H ∧
  va_Z "java/lang/String" "COMPACT_STRINGS" "Z" (.int 1) (Afn g) U H ∧ va_Z "jdk/internal/util/Preconditions" "SIOOBE_FORMATTER" "Ljava/util/function/BiFunction;" (xv g 1) (Afn g) U H ∧
  va_X (g.2.1 0) X.1 (fun i => Int32.ofInt (X.2 i)) U H ∧ g.2.1 0 < H.size ∧ g.2.1 0 < g.1
def XOK (X : Xs) : Prop := X.1 ≤ 3072 ∧ ∀ i, inI (X.2 i)
def CTX (g : GP) (X : Xs) (y : Nat) (p : Program) (s : State) (m : MethodId) (args : Array Value) (meth : Method) (c : Code) : Prop :=
  p.tables.exec = Jvm.exec ∧ c.code = yc y ∧ c.maxLocals = ml y ∧ s.vm.findClass (cn (yo y)) = some m.cls ∧ (∀ w ∈ gT, w.before args s = true) ∧ (yin y = true → meth.name = "<init>") ∧ EXT g X s s.heap ∧ g.1 ≤ s.heap.size ∧ XOK X
/-- the heap and the counts, at a point of a method that began with k0 cells of z0 fields -/
def INV (g : GP) (s : State) (k0 z0 : Nat) (M : Mm) (H : Heap) (locs : List Loc) (cells slots : Nat) : Prop :=
  va_P (gD g) vwCl (wld g M) H ∧ va_D (Afn g) (wld g M) ∧ va_S (Afn g) s.heap H locs ∧ wfM M ∧ s.heap.size = g.1 + k0 ∧ cells + k0 = M.2.2.length ∧ slots + z0 = ksz M.2.2
section OPS
variable {p : Program} {l : Launch} {e : Env} {R : Room} {s : State} {m : MethodId} {args : Array Value} {below : List Frame} {meth : Method} {c : Code} {H : Heap} {locs : List Loc} {cells slots : Nat} {Q : State → Prop} {g : GP} {X : Xs} {y k0 z0 : Nat} {pc : Nat} {ls : Array Slot} {L : List (Option AV)} {S : List AV} {M : Mm}
theorem inv_size (I : INV g s k0 z0 M H locs cells slots) (h : H.size ≤ s.heap.size + cells) : H.size = g.1 + M.2.2.length := by
  obtain ⟨hP, -, hS, -, h1, h2, -⟩ := I
  have h3 := hS.1
  cases hn : M.2.2.length with
  | zero => omega
  | succ n =>
    have hq : gl M.2.2 n = some (M.2.2[n]'(by omega)) := by rw [gl_get, List.getElem?_eq_getElem]
    have := (hP n _ (wld_at (g := g) hq)).lt
    dsimp only at this
    omega
theorem W_size {gg : JFrame} (h : H.size ≤ s.heap.size + cells → W p l e R s m args below meth c H locs cells slots Q gg) : W p l e R s m args below meth c H locs cells slots Q gg := fun T hT X => h (by
  have h1 := X.same.2.2.1
  have h2 : (T.setVm s.vm).heap = H := hT
  rw [h2] at h1
  exact h1) T hT X
theorem o_const {i : Instr} {len : Nat} {v : Int} (C : CTX g X y p s m args meth c) (hd : decode (yc y) pc = .ok (i, len)) (hl : len = lenOf i) (hok : opOk (yo y) (yin y) (ml y) (.iconst v) i = true) {rest : List Value}
    (kk : W p l e R s m args below meth c H locs cells slots Q (F0 m (pc + len) ls (.int (Int32.ofInt v) :: rest))) : W p l e R s m args below meth c H locs cells slots Q (F0 m pc ls rest) := by
  obtain ⟨hx, hb, hml, hown, hts, -⟩ := C
  subst hl
  unfold opOk at hok
  dsimp only at hok
  rw [Bool.and_eq_true] at hok
  obtain ⟨-, hok⟩ := hok
  split at hok
  · exact lv_iconst hx hb hd (of_decide_eq_true hok) kk
  · exact lv_bipush hx hb hd (of_decide_eq_true hok) kk
  · exact lv_sipush hx hb hd (of_decide_eq_true hok) kk
  · exact lv_ldc hx hb hown (hts _ (conT_w (of_decide_eq_true hok))) hd kk
  · exact lv_ldcw hx hb hown (hts _ (conT_w (of_decide_eq_true hok))) hd kk
  · cases hok
theorem o_lconst {i : Instr} {len : Nat} {v : Int} (C : CTX g X y p s m args meth c) (hd : decode (yc y) pc = .ok (i, len)) (hl : len = lenOf i) (hok : opOk (yo y) (yin y) (ml y) (.jsr_w v) i = true) {rest : List Value}
    (kk : W p l e R s m args below meth c H locs cells slots Q (F0 m (pc + len) ls (.long (Int64.ofInt v) :: rest))) : W p l e R s m args below meth c H locs cells slots Q (F0 m pc ls rest) := by
  obtain ⟨hx, hb, hml, hown, hts, -⟩ := C
  subst hl
  unfold opOk at hok
  dsimp only at hok
  rw [Bool.and_eq_true] at hok
  obtain ⟨-, hok⟩ := hok
  split at hok
  · exact lv_lconst hx hb hd (of_decide_eq_true hok) kk
  · exact lv_ldc2 hx hb hown (hts _ (conLT_w (of_decide_eq_true hok))) hd kk
  · cases hok
theorem o_ldcS {i : Instr} {len : Nat} {j : Nat} (C : CTX g X y p s m args meth c) (hd : decode (yc y) pc = .ok (i, len)) (hl : len = lenOf i) (hok : opOk (yo y) (yin y) (ml y) (.ldc j) i = true) {rest : List Value}
    (kk : W p l e R s m args below meth c H locs cells slots Q (F0 m (pc + len) ls (xv g (10 + j) :: rest))) : W p l e R s m args below meth c H locs cells slots Q (F0 m pc ls rest) := by
  obtain ⟨hx, hb, hml, hown, hts, -, hE, -⟩ := C
  subst hl
  unfold opOk at hok
  dsimp only at hok
  split at hok
  · rw [Bool.and_eq_true] at hok
    obtain ⟨tx, h1⟩ := hE.2.2.1 _ (strT_w (of_decide_eq_true hok.1))
    rw [xv_ref g (by omega)] at kk
    exact va_ldcS hx hb hown h1 hd kk
  · cases hok
theorem o_iload {i : Instr} {len k : Nat} {x : Int} (C : CTX g X y p s m args meth c) (hd : decode (yc y) pc = .ok (i, len)) (hl : len = lenOf i) (hok : opOk (yo y) (yin y) (ml y) (.iload k) i = true) {rest : List Value}
    (hv : ls[k]? = some (.val (.int (Int32.ofInt x)))) (kk : W p l e R s m args below meth c H locs cells slots Q (F0 m (pc + len) ls (.int (Int32.ofInt x) :: rest))) : W p l e R s m args below meth c H locs cells slots Q (F0 m pc ls rest) := by
  obtain ⟨hx, hb, -⟩ := C
  subst hl
  unfold opOk at hok
  dsimp only at hok
  split at hok
  · have := Nat.eq_of_beq_eq_true hok; subst this; exact lv_iload hx hb hd hv kk
  · have := Nat.eq_of_beq_eq_true hok; subst this; exact lv_iload_n hx hb hd rfl hv kk
  · cases hok
theorem o_lload {i : Instr} {len k : Nat} {x : Int} (C : CTX g X y p s m args meth c) (hd : decode (yc y) pc = .ok (i, len)) (hl : len = lenOf i) (hok : opOk (yo y) (yin y) (ml y) (.lload k) i = true) {rest : List Value}
    (hv : ls[k]? = some (.val (.long (Int64.ofInt x)))) (kk : W p l e R s m args below meth c H locs cells slots Q (F0 m (pc + len) ls (.long (Int64.ofInt x) :: rest))) : W p l e R s m args below meth c H locs cells slots Q (F0 m pc ls rest) := by
  obtain ⟨hx, hb, -⟩ := C
  subst hl
  unfold opOk at hok
  dsimp only at hok
  split at hok
  · have := Nat.eq_of_beq_eq_true hok; subst this; exact lv_lload hx hb hd hv kk
  · have := Nat.eq_of_beq_eq_true hok; subst this; exact lv_lload_n hx hb hd rfl hv kk
  · cases hok
theorem o_aload {i : Instr} {len k : Nat} {v : Value} (C : CTX g X y p s m args meth c) (hd : decode (yc y) pc = .ok (i, len)) (hl : len = lenOf i) (hok : opOk (yo y) (yin y) (ml y) (.aload k) i = true) {rest : List Value} (hr : v = .null ∨ ∃ a, v = .ref a)
    (hv : ls[k]? = some (.val v)) (kk : W p l e R s m args below meth c H locs cells slots Q (F0 m (pc + len) ls (v :: rest))) : W p l e R s m args below meth c H locs cells slots Q (F0 m pc ls rest) := by
  obtain ⟨hx, hb, -⟩ := C
  subst hl
  unfold opOk at hok
  dsimp only at hok
  split at hok
  · have := Nat.eq_of_beq_eq_true hok; subst this
    rcases hr with rfl | ⟨a, rfl⟩
    · exact lv_aloadN hx hb hd hv kk
    · exact lv_aload hx hb hd hv kk
  · have := Nat.eq_of_beq_eq_true hok; subst this
    rcases hr with rfl | ⟨a, rfl⟩
    · exact lv_aload_nN hx hb hd rfl hv kk
    · exact lv_aload_n hx hb hd rfl hv kk
  · cases hok
theorem o_istore {i : Instr} {len k : Nat} {x : Int} {L2 : List (Option AV)} (C : CTX g X y p s m args meth c) (hd : decode (yc y) pc = .ok (i, len)) (hl : len = lenOf i) (hok : opOk (yo y) (yin y) (ml y) (.istore k) i = true) {rest : List Value}
    (hr : lrel g L ls) (hL : L.length = ml y) (h : st1 L k (.inl x) = some L2) (kk : ∀ ls2, lrel g L2 ls2 → W p l e R s m args below meth c H locs cells slots Q (F0 m (pc + len) ls2 rest)) : W p l e R s m args below meth c H locs cells slots Q (F0 m pc ls (.int (Int32.ofInt x) :: rest)) := by
  obtain ⟨hx, hb, -⟩ := C
  subst hl
  unfold opOk at hok
  dsimp only at hok
  rw [Bool.and_eq_true] at hok
  obtain ⟨hlt, hok⟩ := hok
  have hlt : k < L.length := by rw [hL]; exact Nat.le_of_ble_eq_true hlt
  split at hok
  · have := Nat.eq_of_beq_eq_true hok; subst this
    exact lv_istore hx hb hd (lrel_has hr) hlt rfl (fun ls2 h2 => kk ls2 (st1_rel (v := .inl x) h rfl h2 hlt))
  · have := Nat.eq_of_beq_eq_true hok; subst this
    exact lv_istore_n hx hb hd rfl (lrel_has hr) hlt rfl (fun ls2 h2 => kk ls2 (st1_rel (v := .inl x) h rfl h2 hlt))
  · cases hok
theorem o_lstore {i : Instr} {len k : Nat} {x : Int} {L2 : List (Option AV)} (C : CTX g X y p s m args meth c) (hd : decode (yc y) pc = .ok (i, len)) (hl : len = lenOf i) (hok : opOk (yo y) (yin y) (ml y) (.lstore k) i = true) {rest : List Value}
    (hr : lrel g L ls) (hL : L.length = ml y) (h : st2 L k (.inr (.inl x)) = some L2) (kk : ∀ ls2, lrel g L2 ls2 → W p l e R s m args below meth c H locs cells slots Q (F0 m (pc + len) ls2 rest)) : W p l e R s m args below meth c H locs cells slots Q (F0 m pc ls (.long (Int64.ofInt x) :: rest)) := by
  obtain ⟨hx, hb, -⟩ := C
  subst hl
  unfold opOk at hok
  dsimp only at hok
  rw [Bool.and_eq_true] at hok
  obtain ⟨hlt, hok⟩ := hok
  have hlt : k + 1 < L.length := by rw [hL]; exact Nat.le_of_ble_eq_true hlt
  split at hok
  · have := Nat.eq_of_beq_eq_true hok; subst this
    exact lv_lstore hx hb hd (lrel_has hr) hlt rfl (fun ls2 h2 => kk ls2 (st2_rel (v := .inr (.inl x)) h h2 hlt))
  · have := Nat.eq_of_beq_eq_true hok; subst this
    exact lv_lstore_n hx hb hd rfl (lrel_has hr) hlt rfl (fun ls2 h2 => kk ls2 (st2_rel (v := .inr (.inl x)) h h2 hlt))
  · cases hok
theorem o_astore {i : Instr} {len k : Nat} {r : Nat ⊕ Nat} {L2 : List (Option AV)} (C : CTX g X y p s m args meth c) (hd : decode (yc y) pc = .ok (i, len)) (hl : len = lenOf i) (hok : opOk (yo y) (yin y) (ml y) (.astore k) i = true) {rest : List Value}
    (hr : lrel g L ls) (hL : L.length = ml y) (h : st1 L k (.inr (.inr r)) = some L2) (kk : ∀ ls2, lrel g L2 ls2 → W p l e R s m args below meth c H locs cells slots Q (F0 m (pc + len) ls2 rest)) : W p l e R s m args below meth c H locs cells slots Q (F0 m pc ls (vv g (.inr (.inr r)) :: rest)) := by
  obtain ⟨hx, hb, -⟩ := C
  subst hl
  unfold opOk at hok
  dsimp only at hok
  rw [Bool.and_eq_true] at hok
  obtain ⟨hlt, hok⟩ := hok
  have hlt : k < L.length := by rw [hL]; exact Nat.le_of_ble_eq_true hlt
  have hv : vv g (.inr (.inr r)) = .null ∨ ∃ a, vv g (.inr (.inr r)) = .ref a := by
    rcases r with r | r
    · cases r with
      | zero => exact Or.inl rfl
      | succ r => exact Or.inr ⟨_, rfl⟩
    · exact xv_or g r
  have hk := fun (ls2 : Array Slot) (h2 : lv_has ls2 L.length ((k, vv g (.inr (.inr r))) :: (enL g 0 L).filter (fun q => !(q.1 == k) && !(q.1 + 1 == k && q.2.category == 2)))) => kk ls2 (st1_rel h rfl h2 hlt)
  split at hok
  · have := Nat.eq_of_beq_eq_true hok; subst this
    rcases hv with hv | ⟨a, hv⟩
    · rw [hv] at hk ⊢; exact lv_astoreN hx hb hd (lrel_has hr) hlt rfl hk
    · rw [hv] at hk ⊢; exact lv_astore hx hb hd (lrel_has hr) hlt rfl hk
  · have := Nat.eq_of_beq_eq_true hok; subst this
    rcases hv with hv | ⟨a, hv⟩
    · rw [hv] at hk ⊢; exact lv_astore_nN hx hb hd rfl (lrel_has hr) hlt rfl hk
    · rw [hv] at hk ⊢; exact lv_astore_n hx hb hd rfl (lrel_has hr) hlt rfl hk
  · cases hok
theorem o_iinc {i : Instr} {len k : Nat} {n x : Int} {L2 : List (Option AV)} (C : CTX g X y p s m args meth c) (hd : decode (yc y) pc = .ok (i, len)) (hl : len = lenOf i) (hok : opOk (yo y) (yin y) (ml y) (.iinc k n) i = true) {rest : List Value}
    (hr : lrel g L ls) (hL : L.length = ml y) (hv : gl L k = some (some (.inl x))) (h : st1 L k (.inl (w32 (x + n))) = some L2) (kk : ∀ ls2, lrel g L2 ls2 → W p l e R s m args below meth c H locs cells slots Q (F0 m (pc + len) ls2 rest)) : W p l e R s m args below meth c H locs cells slots Q (F0 m pc ls rest) := by
  obtain ⟨hx, hb, -⟩ := C
  subst hl
  unfold opOk at hok
  dsimp only at hok
  rw [Bool.and_eq_true] at hok
  obtain ⟨hlt, hok⟩ := hok
  have hlt : k < L.length := by rw [hL]; exact Nat.le_of_ble_eq_true hlt
  split at hok
  · rw [Bool.and_eq_true] at hok
    have e1 := Nat.eq_of_beq_eq_true hok.1
    have e2 := of_decide_eq_true hok.2
    subst e1; subst e2
    obtain ⟨kx, hkx⟩ := List.getElem?_of_mem ((enL_mem g L 0 _).mpr ⟨k, .inl x, hv, rfl⟩)
    rw [Nat.zero_add] at hkx
    exact lv_iinc hx hb hd (lrel_has hr) hkx (v := Int32.ofInt (w32 (x + n))) (by rw [i_w32, Int32.ofInt_add]) hlt rfl (fun ls2 h2 => kk ls2 (st1_rel (v := .inl (w32 (x + n))) h rfl h2 hlt))
  · cases hok
end OPS
end
section
/-! each instruction of a row, in the real machine: fields, made things, and all of them together -/
theorem kind_x {kd : Nat} {t : FieldType} (h : kindOk (some kd) t = true) : (kd = 0 ∧ t = .int) ∨ (kd = 1 ∧ t = .boolean) ∨ (kd = 2 ∧ t = .long) ∨ (kd = 3 ∧ ((∃ n, t = .object n) ∨ ∃ u, t = .array u)) := by
  unfold kindOk at h
  split at h
  · next z => cases z; exact Or.inl ⟨rfl, rfl⟩
  · next z => cases z; exact Or.inr (Or.inl ⟨rfl, rfl⟩)
  · next z => cases z; exact Or.inr (Or.inr (Or.inl ⟨rfl, rfl⟩))
  · next z => cases z; exact Or.inr (Or.inr (Or.inr ⟨rfl, Or.inl ⟨_, rfl⟩⟩))
  · next z => cases z; exact Or.inr (Or.inr (Or.inr ⟨rfl, Or.inr ⟨_, rfl⟩⟩))
  · cases h
theorem fk_eq (c k : Nat) : fk c k = gl ((gl FDL c).getD []) k := by
  unfold fk
  cases gl FDL c <;> rfl
theorem fvs_set {g : GP} {M M2 : Mm} {id k : Nat} {kd : Nat} (l : List Nat) (hV : ∀ j, j ≠ k → M2.1 id j = M.1 id j) (hG : ∀ j, j ≠ k → M2.2.1 id j = M.2.1 id j) (hk : gl l k = some kd) : fvs g M2 id 0 l = (fvs g M id 0 l).set k (fv g M2 id k kd) := by
  apply List.ext_getElem?
  intro j
  rw [fvs_get, List.getElem?_set, Nat.zero_add]
  by_cases h : k = j
  · subst h
    rw [if_pos rfl, if_pos (by rw [fvs_len]; exact gl_lt hk), hk]; rfl
  · rw [if_neg h, fvs_get, Nat.zero_add]
    cases gl l j with
    | none => rfl
    | some z =>
      show some _ = some _
      unfold fv
      rw [hV j (fun e => h e.symm), hG j (fun e => h e.symm)]
theorem ent_obj {g : GP} {M : Mm} {id : Nat} {q : Nat × Nat} (h : q.1 < 100) : ent g M id q = .inr (q.1, fvs g M id 0 ((gl FDL q.1).getD [])) := by unfold ent; rw [if_pos h]
theorem ent_int {g : GP} {M : Mm} {id n : Nat} : ent g M id (100, n) = .inl (gA g 0, n, .inl (fun i => Int32.ofInt (M.1 id i))) := rfl
theorem ent_long {g : GP} {M : Mm} {id n : Nat} : ent g M id (101, n) = .inl (gA g 1, n, .inr (.inl (fun i => Int64.ofInt (M.1 id i)))) := rfl
theorem ent_short {g : GP} {M : Mm} {id n : Nat} : ent g M id (102, n) = .inl (gA g 2, n, .inl (fun i => Int32.ofInt (M.1 id i))) := rfl
theorem ent_bool {g : GP} {M : Mm} {id n : Nat} : ent g M id (103, n) = .inl (gA g 3, n, .inl (fun i => Int32.ofInt (M.1 id i))) := rfl
theorem gl_none_of {α : Type} {l : List α} {k : Nat} (h : l.length ≤ k) : gl l k = none := by rw [gl_get]; exact List.getElem?_eq_none h
theorem wfM_up {M : Mm} {id k : Nat} {x : Int} {q : Nat × Nat} (hw : wfM M) (hq : gl M.2.2 id = some q) (h : (cellL q k → inJ x) ∧ (¬ cellL q k → inI x)) : wfM (up M.1 id k x, M.2.1, M.2.2) := by
  intro i r hr
  refine ⟨(hw i r hr).1, fun j => ?_⟩
  show (cellL r j → inJ (up M.1 id k x i j)) ∧ (¬ cellL r j → inI (up M.1 id k x i j))
  unfold up
  by_cases e1 : i = id
  · subst e1
    have hr2 : gl M.2.2 i = some r := hr
    rw [hq] at hr2; cases hr2
    rw [if_pos rfl]
    by_cases e2 : j = k
    · subst e2; rw [if_pos rfl]; exact h
    · rw [if_neg e2]; exact (hw i q hq).2 j
  · rw [if_neg e1]; exact (hw i r hr).2 j
section OPS
variable {p : Program} {l : Launch} {e : Env} {R : Room} {s : State} {m : MethodId} {args : Array Value} {below : List Frame} {meth : Method} {c : Code} {H : Heap} {locs : List Loc} {cells slots : Nat} {Q : State → Prop} {g : GP} {X : Xs} {y k0 z0 : Nat} {pc : Nat} {ls : Array Slot} {L : List (Option AV)} {S : List AV} {M : Mm}
theorem o_getf {i : Instr} {len r a : Nat} {v : AV} (C : CTX g X y p s m args meth c) (hd : decode (yc y) pc = .ok (i, len)) (hl : len = lenOf i) (hok : opOk (yo y) (yin y) (ml y) (.getfield r) i = true) {rest : List Value} (I : INV g s k0 z0 M H locs cells slots)
    (h : getf (r / 1000) (r % 1000) a M = some v) (kk : wfV v → W p l e R s m args below meth c H locs cells slots Q (F0 m (pc + len) ls (vv g v :: rest))) : W p l e R s m args below meth c H locs cells slots Q (F0 m pc ls (vv g (.inr (.inr (.inl a))) :: rest)) := by
  obtain ⟨hx, hb, -, hown, hts, -, hE, -⟩ := C
  obtain ⟨hP, hD, hS, hw, -⟩ := I
  subst hl
  unfold opOk at hok
  dsimp only at hok
  generalize r / 1000 = cc at *
  generalize r % 1000 = k at *
  split at hok
  · next idx =>
    rw [Bool.and_eq_true, Bool.and_eq_true] at hok
    obtain ⟨h1, h2, h3⟩ := hok
    have hc : cc < 13 := Nat.le_of_ble_eq_true h2
    have hk : k < (cT cc).2.2 := Nat.le_of_ble_eq_true h3
    unfold getf at h
    split at h
    · cases h
    · next id =>
      cases hq : gl M.2.2 id with
      | none => rw [hq] at h; cases h
      | some q =>
        rw [hq] at h
        dsimp only at h
        cases hqc : Nat.beq q.1 cc with
        | false => rw [hqc] at h; cases h
        | true =>
          rw [hqc] at h
          dsimp only at h
          have e0 := Nat.eq_of_beq_eq_true hqc
          have hent := ent_obj (g := g) (M := M) (id := id) (q := q) (by omega)
          have hat := wld_at (g := g) hq
          rw [hent, e0] at hat
          obtain ⟨-, -, hdecl⟩ := knd_ok hc hk
          cases hf : fk cc k with
          | none => rw [hf] at h; cases h
          | some kd =>
            rw [hf] at h
            try dsimp only at h
            have hfs : (fvs g M id 0 ((gl FDL cc).getD []))[k]? = some (fv g M id k kd) := by
              rw [fvs_get, ← fk_eq, hf, Nat.zero_add]; rfl
            have hcl : cellL q k ↔ kd = 2 := by
              unfold cellL; rw [e0, hf]
              constructor
              · rintro (z | z)
                · omega
                · exact Option.some.inj z.2
              · rintro rfl; exact Or.inr ⟨by omega, rfl⟩
            have hv : vv g v = fv g M id k kd ∧ wfV v := by
              have hwk := (hw id q hq).2 k
              split at h
              · cases h
              · next z => cases z; cases h; exact ⟨rfl, trivial⟩
              · next z => cases z; cases h; exact ⟨rfl, hwk.1 (hcl.mpr rfl)⟩
              · next z1 z2 z => cases z; cases h; exact ⟨by unfold fv; split <;> first | rfl | (exfalso; first | exact z1 rfl | exact z2 rfl), hwk.2 (fun z => by have := hcl.mp z; subst this; first | exact z1 rfl | exact z2 rfl)⟩
            have kk2 := kk hv.2
            rw [hv.1] at kk2
            exact va_get hx hb hts (lay_w hc) hown hE.1 hP id hat (cls_hc cc hc) k hk (hts _ (fldT_w (of_decide_eq_true h1))) (fun x hx => by rw [← hdecl]; exact hx) hfs hd kk2
  · cases hok
theorem o_putf {i : Instr} {len r a : Nat} {v : AV} {M2 : Mm} (C : CTX g X y p s m args meth c) (hd : decode (yc y) pc = .ok (i, len)) (hl : len = lenOf i) (hok : opOk (yo y) (yin y) (ml y) (.putfield r) i = true) {rest : List Value} (I : INV g s k0 z0 M H locs cells slots) (hvw : wfV v)
    (h : putf (r / 1000) (r % 1000) a v M = some M2) (kk : ∀ H2 locs2, INV g s k0 z0 M2 H2 locs2 cells slots → W p l e R s m args below meth c H2 locs2 cells slots Q (F0 m (pc + len) ls rest)) : W p l e R s m args below meth c H locs cells slots Q (F0 m pc ls (vv g v :: vv g (.inr (.inr (.inl a))) :: rest)) := by
  obtain ⟨hx, hb, -, hown, hts, hini, hE, -⟩ := C
  obtain ⟨hP, hD, hS, hw, hn0, hn1, hn2⟩ := I
  subst hl
  unfold opOk at hok
  dsimp only at hok
  generalize r / 1000 = cc at *
  generalize r % 1000 = k at *
  split at hok
  · next idx =>
    rw [Bool.and_eq_true, Bool.and_eq_true, Bool.and_eq_true] at hok
    obtain ⟨h1, ⟨h2, h3⟩, h4⟩ := hok
    have hc : cc < 13 := Nat.le_of_ble_eq_true h2
    have hk : k < (cT cc).2.2 := Nat.le_of_ble_eq_true h3
    unfold putf at h
    split at h
    · cases h
    · next id =>
      cases hq : gl M.2.2 id with
      | none => rw [hq] at h; cases h
      | some q =>
        rw [hq] at h
        dsimp only at h
        cases hqc : Nat.beq q.1 cc with
        | false => rw [hqc] at h; cases h
        | true =>
          rw [hqc] at h
          dsimp only at h
          have e0 := Nat.eq_of_beq_eq_true hqc
          have hent := fun M => ent_obj (g := g) (M := M) (id := id) (q := q) (by omega)
          have hat := wld_at (g := g) hq
          rw [hent, e0] at hat
          obtain ⟨hlen, hkind, hdecl⟩ := knd_ok hc hk
          have key : ∃ kd, fk cc k = some kd ∧ M2.2.2 = M.2.2 ∧ (∀ i j, (i ≠ id ∨ j ≠ k) → M2.1 i j = M.1 i j ∧ M2.2.1 i j = M.2.1 i j) ∧ vv g v = fv g M2 id k kd ∧ wfM M2 ∧ narrow (tyf cc k) (vv g v) = vv g v ∧ fits (tyf cc k) (vv g v) = true := by
            have hcl : ∀ kd, fk cc k = some kd → (cellL q k ↔ kd = 2) := by
              intro kd hf
              unfold cellL; rw [e0, hf]
              constructor
              · rintro (z | z)
                · omega
                · exact Option.some.inj z.2
              · rintro rfl; exact Or.inr ⟨by omega, rfl⟩
            have hup : ∀ x : Int, up M.1 id k x id k = x := fun x => by unfold up; rw [if_pos rfl, if_pos rfl]
            have hupn : ∀ (x : Int) (i j : Nat), (i ≠ id ∨ j ≠ k) → up M.1 id k x i j = M.1 i j := fun x i j hij => by
              unfold up
              by_cases e1 : i = id
              · rw [if_pos e1]
                by_cases e2 : j = k
                · exact (hij.elim (fun z => z e1) (fun z => z e2)).elim
                · rw [if_neg e2]
              · rw [if_neg e1]
            have hupG : ∀ (x : Nat) (i j : Nat), (i ≠ id ∨ j ≠ k) → upG M.2.1 id k x i j = M.2.1 i j := fun x i j hij => by
              unfold upG
              by_cases e1 : i = id
              · rw [if_pos e1]
                by_cases e2 : j = k
                · exact (hij.elim (fun z => z e1) (fun z => z e2)).elim
                · rw [if_neg e2]
              · rw [if_neg e1]
            split at h
            · next hf =>
              cases h
              refine ⟨3, hf, rfl, fun i j hij => ⟨rfl, hupG _ i j hij⟩, ?_, ?_, ?_⟩
              · show rv g _ = rv g (upG M.2.1 id k _ id k)
                unfold upG; rw [if_pos rfl, if_pos rfl]
              · exact fun i r hr => hw i r hr
              · rw [hf] at hkind
                next r => cases ht : tyf cc k with
                  | object n => cases r <;> exact ⟨rfl, rfl⟩
                  | array t => cases r <;> exact ⟨rfl, rfl⟩
                  | _ => rw [ht] at hkind; cases hkind
            · next x hf =>
              cases h
              refine ⟨2, hf, rfl, fun i j hij => ⟨hupn x i j hij, rfl⟩, ?_, wfM_up hw hq ⟨fun _ => hvw, fun z => absurd ((hcl 2 hf).mpr rfl) z⟩, ?_⟩
              · show Value.long _ = Value.long (Int64.ofInt (up M.1 id k x id k)); rw [hup]
              · rw [hf] at hkind
                cases ht : tyf cc k <;> rw [ht] at hkind <;> first | (cases hkind; done) | exact ⟨rfl, rfl⟩
            · next x hf =>
              cases hb2 : isB x with
              | false => rw [hb2] at h; cases h
              | true =>
                rw [hb2] at h; cases h
                refine ⟨1, hf, rfl, fun i j hij => ⟨hupn x i j hij, rfl⟩, ?_, wfM_up hw hq ⟨fun z => by have := (hcl 1 hf).mp z; omega, fun _ => hvw⟩, ?_⟩
                · show Value.int _ = Value.int (Int32.ofInt (up M.1 id k x id k)); rw [hup]
                · rw [hf] at hkind
                  have hx01 : x = 0 ∨ x = 1 := by
                    unfold isB at hb2
                    rw [Bool.or_eq_true] at hb2
                    exact hb2.imp (fun z => eq_of_beq z) (fun z => eq_of_beq z)
                  cases ht : tyf cc k <;> rw [ht] at hkind <;> first | (cases hkind; done) | (rcases hx01 with rfl | rfl <;> exact ⟨rfl, rfl⟩)
            · next x hf =>
              cases h
              refine ⟨0, hf, rfl, fun i j hij => ⟨hupn x i j hij, rfl⟩, ?_, wfM_up hw hq ⟨fun z => by have := (hcl 0 hf).mp z; omega, fun _ => hvw⟩, ?_⟩
              · show Value.int _ = Value.int (Int32.ofInt (up M.1 id k x id k)); rw [hup]
              · rw [hf] at hkind
                cases ht : tyf cc k <;> rw [ht] at hkind <;> first | (cases hkind; done) | exact ⟨rfl, rfl⟩
            · cases h
          obtain ⟨kd, hf, hK2, hoth, hv, hw2, hnar, hfit⟩ := key
          have hset : wld g M2 = (wld g M).set id (g.1 + id, .inr (cc, (fvs g M id 0 ((gl FDL cc).getD [])).set k (vv g v))) := by
            rw [wld_set (g := g) (M := M) (M2 := M2) hq hK2 (fun i j hi => (hoth i j (Or.inl hi)).1) (fun i j hi => (hoth i j (Or.inl hi)).2), hent, e0, hv]
            rw [fvs_set (g := g) (M := M) (M2 := M2) (id := id) (k := k) (kd := kd) _ (fun j hj => (hoth id j (Or.inr hj)).1) (fun j hj => (hoth id j (Or.inr hj)).2) (by rw [← fk_eq]; exact hf)]
          have kk2 : ∀ (H1 : Heap) (locs1 : List Loc), va_P (gD g) vwCl ((wld g M).set id (g.1 + id, .inr (cc, (fvs g M id 0 ((gl FDL cc).getD [])).set k (vv g v)))) H1 → va_D (Afn g) ((wld g M).set id (g.1 + id, .inr (cc, (fvs g M id 0 ((gl FDL cc).getD [])).set k (vv g v)))) → va_S (Afn g) s.heap H1 locs1 → W p l e R s m args below meth c H1 locs1 cells slots Q (F0 m (pc + 3) ls rest) := by
            intro H1 locs1 a1 a2 a3
            rw [← hset] at a1 a2
            exact kk H1 locs1 ⟨a1, a2, a3, hw2, hn0, by rw [hK2]; exact hn1, by rw [hK2]; exact hn2⟩
          have hkl : k < (fvs g M id 0 ((gl FDL cc).getD [])).length := by rw [fvs_len, hlen]; exact hk
          cases hfin : ((cT cc).2.1 k).2.2.2 with
          | false => exact va_put hx hb hts (lay_w hc) (tyf cc) (tyf_ok cc hc) (nmf_ok cc hc) hown hE.1 hP hD hS id hat (cls_hc cc hc) k hk (hts _ (fldT_w (of_decide_eq_true h1))) (fun x hx => by rw [← hdecl]; exact hx) hfin (tyf_ok cc hc k hk) hnar hfit hkl hd kk2
          | true =>
            rw [hfin] at h4
            have h4' : (yin y && Nat.beq cc (yo y)) = true := h4
            rw [Bool.and_eq_true] at h4'
            exact va_putF hx hb hts (lay_w hc) (tyf cc) (tyf_ok cc hc) (nmf_ok cc hc) hown hE.1 hP hD hS id hat (cls_hc cc hc) k hk (hts _ (fldT_w (of_decide_eq_true h1))) (fun x hx => by rw [← hdecl]; exact hx) hfin (hini h4'.1) (by rw [hdecl, Nat.eq_of_beq_eq_true h4'.2]) (tyf_ok cc hc k hk) hnar hfit hkl hd kk2
  · cases hok
theorem wfM_new {M : Mm} (hw : wfM M) (q : Nat × Nat) (hq : (q.1 < 13 ∨ (100 ≤ q.1 ∧ q.1 ≤ 103)) ∧ q.2 ≤ 1000000) : wfM (zr M.1 M.2.2.length, zrG M.2.1 M.2.2.length, M.2.2 ++ [q]) := by
  intro id r hr
  have hr' : gl (M.2.2 ++ [q]) id = some r := hr
  rw [gl_app] at hr'
  by_cases h : id = M.2.2.length
  · rw [if_pos h] at hr'; cases hr'
    refine ⟨hq, fun k => ?_⟩
    show (_ → inJ (zr M.1 M.2.2.length id k)) ∧ (_ → inI (zr M.1 M.2.2.length id k))
    unfold zr; rw [if_pos h]
    exact ⟨fun _ => by unfold inJ; omega, fun _ => in0⟩
  · rw [if_neg h] at hr'
    refine ⟨(hw id r hr').1, fun k => ?_⟩
    show (_ → inJ (zr M.1 M.2.2.length id k)) ∧ (_ → inI (zr M.1 M.2.2.length id k))
    unfold zr; rw [if_neg h]
    exact (hw id r hr').2 k
theorem wld_new {g : GP} {M : Mm} (q : Nat × Nat) : wld g (zr M.1 M.2.2.length, zrG M.2.1 M.2.2.length, M.2.2 ++ [q]) = wld g M ++ [(g.1 + M.2.2.length, ent g (zr M.1 M.2.2.length, zrG M.2.1 M.2.2.length, M.2.2 ++ [q]) M.2.2.length q)] :=
  wld_push rfl (fun i k h => by show zr _ _ i k = _; unfold zr; rw [if_neg (by omega)]) (fun i k h => by show zrG _ _ i k = _; unfold zrG; rw [if_neg (by omega)])
theorem o_new {i : Instr} {len cc : Nat} (C : CTX g X y p s m args meth c) (hd : decode (yc y) pc = .ok (i, len)) (hl : len = lenOf i) (hok : opOk (yo y) (yin y) (ml y) (.new cc) i = true) (hc : cc < 13) {rest : List Value} (I : INV g s k0 z0 M H locs cells slots)
    (hr1 : (newO cc M).2.2.length ≤ k0 + R.cells) (hr2 : ksz (newO cc M).2.2 ≤ z0 + R.slots)
    (kk : ∀ H2, INV g s k0 z0 (newO cc M) H2 locs (cells + 1) (slots + (cT cc).2.2) → W p l e R s m args below meth c H2 locs (cells + 1) (slots + (cT cc).2.2) Q (F0 m (pc + len) ls (.ref (g.1 + M.2.2.length) :: rest))) : W p l e R s m args below meth c H locs cells slots Q (F0 m pc ls rest) := by
  obtain ⟨hx, hb, -, hown, hts, -, hE, hA0, -⟩ := C
  refine W_size (fun hsz => ?_)
  have hH := inv_size I hsz
  obtain ⟨hP, hD, hS, hw, hn0, hn1, hn2⟩ := I
  subst hl
  unfold opOk at hok
  dsimp only at hok
  split at hok
  · obtain ⟨hin1, hin2, hcn⟩ := clp_w hc
    have hcl := hts _ (clsT_w (of_decide_eq_true hok))
    rw [hcn] at hcl
    have hlen : (newO cc M).2.2.length = M.2.2.length + 1 := by show (M.2.2 ++ [(cc, 0)]).length = _; simp
    have hks : ksz (newO cc M).2.2 = ksz M.2.2 + (cT cc).2.2 := by show ksz (M.2.2 ++ [(cc, 0)]) = _; rw [ksz_app, if_pos (show cc < 100 by omega)]
    have hKn := hE.1.1 cc _ (cls_hc cc hc)
    refine W.newcK hx hb hown hcl (hts _ hin1) (hts _ hin2) rfl hd (by omega) (by omega) hKn.2.1 rfl fun H1 kC hkC e1 z1 o1 => ?_
    have hk : ∀ (k : Nat) (x : Nat × va_E), (wld g M)[k]? = some x → H1[x.1]? = H[x.1]? := fun k x hx => o1 x.1 ((hP k x hx).lt)
    rw [hH] at e1 z1 o1 ⊢
    refine kk H1 ⟨?_, ?_, ⟨Nat.le_trans hS.1 (by omega), fun x h1 h2 => (o1 x (by have := hS.1; omega)).trans (hS.2.1 x h1 h2), hS.2.2⟩, wfM_new hw _ ⟨Or.inl hc, Nat.zero_le _⟩, hn0, by omega, by omega⟩
    · unfold newO
      rw [wld_new]
      refine (hP.kept hk).app (fun k x hx => ?_)
      have hz : k < 1 := (List.getElem?_eq_some_iff.mp hx).1
      rw [show k = 0 by omega] at hx
      cases hx
      rw [ent_obj (show cc < 100 by omega)]
      refine ⟨_, cls_hc cc hc, (u_born (tyf cc) hts (lay_w hc) hKn hkC e1 (tyf_ok cc hc)).to (fun j hj => ?_)⟩
      obtain ⟨-, hkind, -⟩ := knd_ok hc hj
      have hv : (fvs g (newO cc M) M.2.2.length 0 ((gl FDL cc).getD []))[j]? = (fk cc j).map (fv g (newO cc M) M.2.2.length j) := by
        rw [fvs_get, ← fk_eq, Nat.zero_add]
      have hv2 : vp_V (fvs g (newO cc M) M.2.2.length 0 ((gl FDL cc).getD [])) j = ((fk cc j).map (fv g (newO cc M) M.2.2.length j)).getD .null := by
        unfold vp_V
        rw [List.getD_eq_getElem?_getD, hv]
      refine Eq.trans ?_ hv2.symm
      have z1 : (newO cc M).1 M.2.2.length j = 0 := by show zr _ _ _ _ = _; unfold zr; rw [if_pos rfl]
      have z2 : (newO cc M).2.1 M.2.2.length j = 0 := by show zrG _ _ _ _ = _; unfold zrG; rw [if_pos rfl]
      cases hf : fk cc j with
      | none => rw [hf] at hkind; cases hkind
      | some kd =>
        rw [hf] at hkind
        show defaultValue (tyf cc j) = fv g (newO cc M) M.2.2.length j kd
        rcases kind_x hkind with ⟨rfl, ht⟩ | ⟨rfl, ht⟩ | ⟨rfl, ht⟩ | ⟨rfl, ⟨n9, ht⟩ | ⟨n9, ht⟩⟩
        · rw [ht]; show Value.int 0 = Value.int (Int32.ofInt ((newO cc M).1 M.2.2.length j)); rw [z1]; rfl
        · rw [ht]; show Value.int 0 = Value.int (Int32.ofInt ((newO cc M).1 M.2.2.length j)); rw [z1]; rfl
        · rw [ht]; show Value.long 0 = Value.long (Int64.ofInt ((newO cc M).1 M.2.2.length j)); rw [z1]; rfl
        · rw [ht]; show Value.null = rv g ((newO cc M).2.1 M.2.2.length j); rw [z2]; rfl
        · rw [ht]; show Value.null = rv g ((newO cc M).2.1 M.2.2.length j); rw [z2]; rfl
    · unfold newO
      rw [wld_new]
      exact hD.push hP hH.symm (by show g.1 ≤ g.1 + _; omega)
  · cases hok
end OPS
end
section
/-! rows that are made, what lies outside, and all instructions together -/
section OPS
variable {p : Program} {l : Launch} {e : Env} {R : Room} {s : State} {m : MethodId} {args : Array Value} {below : List Frame} {meth : Method} {c : Code} {H : Heap} {locs : List Loc} {cells slots : Nat} {Q : State → Prop} {g : GP} {X : Xs} {y k0 z0 : Nat} {pc : Nat} {ls : Array Slot} {L : List (Option AV)} {S : List AV} {M : Mm}
theorem arr_w : Cond.arrayClass .int ∈ gT ∧ Cond.arrayClass .long ∈ gT ∧ Cond.arrayClass .short ∈ gT ∧ Cond.arrayClass .boolean ∈ gT :=
  ⟨in_gT (at_tb (i := 101) (by decide +kernel)) rfl, in_gT (at_tb (i := 1592) (by decide +kernel)) rfl, in_gT (at_tb (i := 1591) (by decide +kernel)) rfl, in_gT (at_tb (i := 1590) (by decide +kernel)) rfl⟩
theorem o_newa0 {atype : ArrayType} {ty : FieldType} {ka : Nat} (C : CTX g X y p s m args meth c) (hd : decode (yc y) pc = .ok (.newarray atype, 2)) (hty : newarray.typeOf atype = ty) (hka : atK atype = ka) (hk1 : 100 ≤ ka) (hk2 : ka ≤ 103) (hw0 : Cond.arrayClass ty ∈ gT) {rest : List Value} (I : INV g s k0 z0 M H locs cells slots) {n : Int} (h0 : 0 ≤ n) (h1 : n ≤ 1000000)
    (hcell : ∀ cA : ClassId, s.vm.findClass ("[" ++ ty.toString) = some cA → ∀ (V : Nat → Nat → Int) (G : Nat → Nat → Nat) (K : List (Nat × Nat)), (∀ k, V M.2.2.length k = 0) → ∃ x, ent g (V, G, K) M.2.2.length (ka, n.toNat) = .inl x ∧ vp_cell x.1 x.2 = arrV cA n.toNat (fun _ => defaultValue ty)) (hb8 : componentBytes ty ≤ 8)
    (hr1 : (newA ka n.toNat M).2.2.length ≤ k0 + R.cells) (hr2 : ksz (newA ka n.toNat M).2.2 ≤ z0 + R.slots)
    (kk : ∀ H2, INV g s k0 z0 (newA ka n.toNat M) H2 locs (cells + 1) (slots + n.toNat) → W p l e R s m args below meth c H2 locs (cells + 1) (slots + n.toNat) Q (F0 m (pc + 2) ls (.ref (g.1 + M.2.2.length) :: rest))) : W p l e R s m args below meth c H locs cells slots Q (F0 m pc ls (.int (Int32.ofInt n) :: rest)) := by
  obtain ⟨hx, hb, -, hown, hts, -, hE, hA0, -⟩ := C
  refine W_size (fun hsz => ?_)
  have hH := inv_size I hsz
  obtain ⟨hP, hD, hS, hw, hn0, hn1, hn2⟩ := I
  have hin : inI n := ⟨by omega, by omega⟩
  have hlen : (newA ka n.toNat M).2.2.length = M.2.2.length + 1 := by show (M.2.2 ++ [(ka, n.toNat)]).length = _; simp
  have hks : ksz (newA ka n.toNat M).2.2 = ksz M.2.2 + n.toNat := by show ksz (M.2.2 ++ [(ka, n.toNat)]) = _; rw [ksz_app, if_neg (show ¬ ka < 100 by omega)]
  subst hty
  refine va_newaK hx hb (hts _ hw0) rfl hd rfl (by rw [show (0 : Int32) = Int32.ofInt 0 from rfl, i_lt hin in0]; omega) (i_cl hin) (by
    have h2 : n.toNat ≤ 1000000 := by omega
    exact Nat.le_trans (Nat.mul_le_mul h2 hb8) (by decide)) (by omega) (by omega) rfl fun H1 cA e1 z1 o1 hAr hNm => ?_
  have hk : ∀ (k : Nat) (x : Nat × va_E), (wld g M)[k]? = some x → H1[x.1]? = H[x.1]? := fun k x hx => o1 x.1 ((hP k x hx).lt)
  rw [hH] at e1 z1 o1 ⊢
  refine kk H1 ⟨?_, ?_, ⟨Nat.le_trans hS.1 (by omega), fun x h1 h2 => (o1 x (by have := hS.1; omega)).trans (hS.2.1 x h1 h2), hS.2.2⟩, wfM_new hw _ ⟨Or.inr ⟨hk1, hk2⟩, by show n.toNat ≤ 1000000; omega⟩, hn0, by omega, by omega⟩
  · unfold newA
    rw [wld_new]
    refine (hP.kept hk).app (fun k x hx => ?_)
    have hz : k < 1 := (List.getElem?_eq_some_iff.mp hx).1
    rw [show k = 0 by omega] at hx
    cases hx
    obtain ⟨x, e2, e3⟩ := hcell cA hNm (zr M.1 M.2.2.length) (zrG M.2.1 M.2.2.length) (M.2.2 ++ [(ka, n.toNat)]) (fun k => by unfold zr; rw [if_pos rfl])
    rw [e2]
    show H1[g.1 + M.2.2.length]? = some (vp_cell x.1 x.2)
    rw [e3]
    exact e1
  · unfold newA
    rw [wld_new]
    exact hD.push hP hH.symm (by show g.1 ≤ g.1 + _; omega)
theorem o_newa {i : Instr} {len : Nat} {t : ArrayType} (C : CTX g X y p s m args meth c) (hd : decode (yc y) pc = .ok (i, len)) (hl : len = lenOf i) (hok : opOk (yo y) (yin y) (ml y) (.newarray t) i = true) (ht : 100 ≤ atK t) {rest : List Value} (I : INV g s k0 z0 M H locs cells slots) {n : Int} (h0 : 0 ≤ n) (h1 : n ≤ 1000000)
    (hr1 : (newA (atK t) n.toNat M).2.2.length ≤ k0 + R.cells) (hr2 : ksz (newA (atK t) n.toNat M).2.2 ≤ z0 + R.slots)
    (kk : ∀ H2, INV g s k0 z0 (newA (atK t) n.toNat M) H2 locs (cells + 1) (slots + n.toNat) → W p l e R s m args below meth c H2 locs (cells + 1) (slots + n.toNat) Q (F0 m (pc + len) ls (.ref (g.1 + M.2.2.length) :: rest))) : W p l e R s m args below meth c H locs cells slots Q (F0 m pc ls (.int (Int32.ofInt n) :: rest)) := by
  have hE := C.2.2.2.2.2.2.1
  subst hl
  unfold opOk at hok
  dsimp only at hok
  split at hok
  · next t2 =>
    have e1 := of_decide_eq_true hok
    subst e1
    have hK := hE.1.2
    have r0 := (hK 0 _ rfl).2
    have r1 := (hK 1 _ rfl).2
    have r2 := (hK 2 _ rfl).2
    have r3 := (hK 3 _ rfl).2
    have zI : Int32.ofInt 0 = 0 := rfl
    have zJ : Int64.ofInt 0 = 0 := rfl
    cases t with
    | int =>
      refine o_newa0 (ty := .int) (ka := 100) C hd rfl rfl (by decide) (by decide) arr_w.1 I h0 h1 (fun cA hc V G K hV => ?_) (by decide) hr1 hr2 kk
      have : cA = gA g 0 := Option.some.inj (hc.symm.trans r0)
      subst this
      refine ⟨_, ent_int, ?_⟩
      show arrV _ _ (fun j => .int (Int32.ofInt (V _ j))) = _
      simp only [hV, zI]; rfl
    | long =>
      refine o_newa0 (ty := .long) (ka := 101) C hd rfl rfl (by decide) (by decide) arr_w.2.1 I h0 h1 (fun cA hc V G K hV => ?_) (by decide) hr1 hr2 kk
      have : cA = gA g 1 := Option.some.inj (hc.symm.trans r1)
      subst this
      refine ⟨_, ent_long, ?_⟩
      show arrV _ _ (fun j => .long (Int64.ofInt (V _ j))) = _
      simp only [hV, zJ]; rfl
    | short =>
      refine o_newa0 (ty := .short) (ka := 102) C hd rfl rfl (by decide) (by decide) arr_w.2.2.1 I h0 h1 (fun cA hc V G K hV => ?_) (by decide) hr1 hr2 kk
      have : cA = gA g 2 := Option.some.inj (hc.symm.trans r2)
      subst this
      refine ⟨_, ent_short, ?_⟩
      show arrV _ _ (fun j => .int (Int32.ofInt (V _ j))) = _
      simp only [hV, zI]; rfl
    | boolean =>
      refine o_newa0 (ty := .boolean) (ka := 103) C hd rfl rfl (by decide) (by decide) arr_w.2.2.2 I h0 h1 (fun cA hc V G K hV => ?_) (by decide) hr1 hr2 kk
      have : cA = gA g 3 := Option.some.inj (hc.symm.trans r3)
      subst this
      refine ⟨_, ent_bool, ?_⟩
      show arrV _ _ (fun j => .int (Int32.ofInt (V _ j))) = _
      simp only [hV, zI]; rfl
    | _ => exact absurd ht (by decide)
  · cases hok
theorem str_w : Cond.fieldLink "java/lang/String" 9 "java/lang/String" "value" "[B" ∈ gT ∧ Cond.fieldLink "java/lang/String" 15 "java/lang/String" "coder" "B" ∈ gT ∧ Cond.fieldLink "java/lang/String" 38 "java/lang/String" "COMPACT_STRINGS" "Z" ∈ gT ∧ Cond.fieldLink "java/lang/String" 1053 "jdk/internal/util/Preconditions" "SIOOBE_FORMATTER" "Ljava/util/function/BiFunction;" ∈ gT :=
  ⟨in_gT (at_tb (i := 1961) (by decide +kernel)) rfl, in_gT (at_tb (i := 1962) (by decide +kernel)) rfl, in_gT (at_tb (i := 772) (by decide +kernel)) rfl, in_gT (at_tb (i := 788) (by decide +kernel)) rfl⟩
theorem cn16 : cn 16 = "java/lang/String" := by decide +kernel
theorem o_gets {i : Instr} {len k : Nat} (C : CTX g X y p s m args meth c) (hd : decode (yc y) pc = .ok (i, len)) (hl : len = lenOf i) (hok : opOk (yo y) (yin y) (ml y) (.getstatic k) i = true) {rest : List Value} (hS : va_S (Afn g) s.heap H locs)
    (kk : W p l e R s m args below meth c H locs cells slots Q (F0 m (pc + len) ls ((if k = 0 then .int 1 else xv g 1) :: rest))) : W p l e R s m args below meth c H locs cells slots Q (F0 m pc ls rest) := by
  obtain ⟨hx, hb, -, hown, hts, -, hE, hA0, -⟩ := C
  subst hl
  unfold opOk at hok
  dsimp only at hok
  split at hok
  · rw [Bool.and_eq_true, Bool.or_eq_true] at hok
    obtain ⟨e0, hok⟩ := hok
    have e0 := Nat.eq_of_beq_eq_true e0
    rw [e0, cn16] at hown
    rcases hok with h | h
    · obtain ⟨e1, e2⟩ := beq2 h
      subst e1; subst e2
      exact va_gets hx hb hE.2.2.2.2.1 hS hown (hts _ str_w.2.2.1) (fun _ h => h) hd kk
    · obtain ⟨e1, e2⟩ := beq2 h
      subst e1; subst e2
      exact va_gets hx hb hE.2.2.2.2.2.1 hS hown (hts _ str_w.2.2.2) (fun _ h => h) hd kk
  · cases hok
theorem o_strf {i : Instr} {len k j : Nat} (C : CTX g X y p s m args meth c) (hd : decode (yc y) pc = .ok (i, len)) (hl : len = lenOf i) (hok : opOk (yo y) (yin y) (ml y) (.instanceof k) i = true) (hj : j < 13) {rest : List Value} (hS : va_S (Afn g) s.heap H locs)
    (kk : W p l e R s m args below meth c H locs cells slots Q (F0 m (pc + len) ls ((if k = 0 then xv g (40 + j) else .int 0) :: rest))) : W p l e R s m args below meth c H locs cells slots Q (F0 m pc ls (xv g (10 + j) :: rest)) := by
  obtain ⟨hx, hb, -, hown, hts, -, hE, hA0, -⟩ := C
  rw [xv_ref g (by omega)]
  rw [xv_ref g (show 40 + j ≠ 1 by omega)] at kk
  obtain ⟨-, hco, hva, -⟩ := hE.2.2.2.1.1 j hj
  subst hl
  unfold opOk at hok
  dsimp only at hok
  split at hok
  · rw [Bool.and_eq_true, Bool.or_eq_true] at hok
    obtain ⟨e0, hok⟩ := hok
    have e0 := Nat.eq_of_beq_eq_true e0
    rw [e0, cn16] at hown
    rcases hok with h | h
    · obtain ⟨e1, e2⟩ := beq2 h
      subst e1; subst e2
      exact vk_getf hx hb hva hS hown (hts _ str_w.1) (fun _ h => h) hd kk
    · obtain ⟨e1, e2⟩ := beq2 h
      subst e1; subst e2
      exact vk_getf hx hb hco hS hown (hts _ str_w.2.1) (fun _ h => h) hd kk
  · cases hok
theorem sby_all : ∀ j, j < 13 → ∃ l, gl SBY j = some l ∧ (SBY.map List.length).getD j 0 = l.length ∧ (SBY.map (List.map Int32.ofInt)).getD j [] = l.map Int32.ofInt ∧ l.length < 100 ∧ l.all (fun v => decide (0 ≤ v) && decide (v < 128)) = true := by
  intro j h
  have h2 : j = 0 ∨ j = 1 ∨ j = 2 ∨ j = 3 ∨ j = 4 ∨ j = 5 ∨ j = 6 ∨ j = 7 ∨ j = 8 ∨ j = 9 ∨ j = 10 ∨ j = 11 ∨ j = 12 := by omega
  rcases h2 with rfl | rfl | rfl | rfl | rfl | rfl | rfl | rfl | rfl | rfl | rfl | rfl | rfl <;> exact ⟨_, rfl, rfl, rfl, by decide, by decide⟩
theorem sby_lt {j : Nat} {l : List Int} (h : gl SBY j = some l) : j < 13 := gl_lt h
theorem o_alenS {j : Nat} {l2 : List Int} (C : CTX g X y p s m args meth c) (hd : decode (yc y) pc = .ok (.arraylength, 1)) (hj : gl SBY j = some l2) {rest : List Value} (hS : va_S (Afn g) s.heap H locs)
    (kk : W p l e R s m args below meth c H locs cells slots Q (F0 m (pc + 1) ls (.int (Int32.ofInt l2.length) :: rest))) : W p l e R s m args below meth c H locs cells slots Q (F0 m pc ls (xv g (40 + j) :: rest)) := by
  obtain ⟨hx, hb, -, hown, hts, -, hE, hA0, -⟩ := C
  rw [xv_ref g (by omega)]
  obtain ⟨-, -, -, hT⟩ := hE.2.2.2.1.1 j (sby_lt hj)
  obtain ⟨l3, e1, e2, -, -⟩ := sby_all j (sby_lt hj)
  rw [hj] at e1; cases e1
  exact va_tlen hx hb hT hS (v := Int32.ofInt l2.length) (by rw [e2, i_ofNat]) hd kk
theorem o_alenX (C : CTX g X y p s m args meth c) (hd : decode (yc y) pc = .ok (.arraylength, 1)) {rest : List Value} (hS : va_S (Afn g) s.heap H locs)
    (kk : W p l e R s m args below meth c H locs cells slots Q (F0 m (pc + 1) ls (.int (Int32.ofInt X.1) :: rest))) : W p l e R s m args below meth c H locs cells slots Q (F0 m pc ls (xv g 0 :: rest)) := by
  obtain ⟨hx, hb, -, hown, hts, -, hE, hA0, -⟩ := C
  have hXX := hE.2.2.2.2.2.2
  refine va_slen hx hb hXX.1 hXX.2.1 (Nat.not_le.mpr hXX.2.2) hS hd ?_
  rw [i_ofNat]; exact kk
theorem o_obj {i : Instr} {len : Nat} {k : Nat} (C : CTX g X y p s m args meth c) (hd : decode (yc y) pc = .ok (i, len)) (hl : len = lenOf i) (hok : opOk (yo y) (yin y) (ml y) .nop i = true) (hs : ls.size = ml y) (rf : 1 ≤ R.frames) (rl : 64 ≤ R.locals)
    (kk : W p l e R s m args below meth c H locs cells slots Q (F0 m (pc + len) ls [])) : W p l e R s m args below meth c H locs cells slots Q (F0 m pc ls [.ref (g.1 + k)]) := by
  obtain ⟨hx, hb, hml, hown, hts, -, hE, hA0, -⟩ := C
  subst hl
  unfold opOk at hok
  dsimp only at hok
  split at hok
  · exact W.objInit hx hb hown (hts _ (objT_w hok)) (hts _ (in_gT (at_tb (i := 27) (by decide +kernel)) rfl)) (hts _ (in_gT (at_tb (i := 28) (by decide +kernel)) rfl)) rfl (by show ls.size = _; rw [hs, hml]) rfl hd rf (by show 2 * 0 + 0 + 12 ≤ _; omega) kk
  · cases hok
theorem plain_i {r i : Instr} (h : (plain r && decide (r = i)) = true) : i = r := by
  rw [Bool.and_eq_true] at h
  exact (of_decide_eq_true h.2).symm
set_option maxHeartbeats 4000000 in
theorem op_snd {r i : Instr} {len : Nat} {L2 : List (Option AV)} {S2 : List AV} {M2 : Mm} (C : CTX g X y p s m args meth c) (hd : decode (yc y) pc = .ok (i, len)) (hl : len = lenOf i) (hok : opOk (yo y) (yin y) (ml y) r i = true) (h : op1 X r L S M = some (L2, S2, M2)) (hr : lrel g L ls) (hL : L.length = ml y) (wL : wfL L) (wS : wfS S) (I : INV g s k0 z0 M H locs cells slots) (rc : M2.2.2.length ≤ k0 + R.cells) (rs : ksz M2.2.2 ≤ z0 + R.slots) (rf : 1 ≤ R.frames) (rl : 64 ≤ R.locals)
    (kk : ∀ ls2 H2 locs2 cells2 slots2, lrel g L2 ls2 → L2.length = L.length → wfL L2 → wfS S2 → INV g s k0 z0 M2 H2 locs2 cells2 slots2 → W p l e R s m args below meth c H2 locs2 cells2 slots2 Q (F0 m (pc + len) ls2 (S2.map (vv g)))) :
    W p l e R s m args below meth c H locs cells slots Q (F0 m pc ls (S.map (vv g))) := by
  have hx := C.1
  have hb := C.2.1
  have stL : ∀ {k : Nat} {v : AV} {L3 : List (Option AV)}, st1 L k v = some L3 → wfV v → L3.length = L.length ∧ wfL L3 := by
    intro k v L3 h3 hv
    have e3 : L3 = sl L k (some v) := by
      cases k with
      | zero => cases h3; rfl
      | succ j =>
        unfold st1 at h3
        dsimp only at h3
        cases hj : isLo (gl L j) with
        | true => rw [hj] at h3; cases h3
        | false => rw [hj] at h3; cases h3; rfl
    subst e3
    refine ⟨by rw [sl_set, List.length_set], fun j w hw => ?_⟩
    rw [sl_set, gl_get, List.getElem?_set] at hw
    by_cases hjk : k = j
    · rw [if_pos hjk] at hw
      split at hw
      · cases hw; exact hv
      · cases hw
    · rw [if_neg hjk, ← gl_get] at hw; exact wL j w hw
  have stL2 : ∀ {k : Nat} {v : AV} {L3 : List (Option AV)}, st2 L k v = some L3 → wfV v → L3.length = L.length ∧ wfL L3 := by
    intro k v L3 h3 hv
    have e3 : L3 = sl (sl L k (some v)) (k + 1) none := by
      cases k with
      | zero => cases h3; rfl
      | succ j =>
        unfold st2 at h3
        dsimp only at h3
        cases hj : isLo (gl L j) with
        | true => rw [hj] at h3; cases h3
        | false => rw [hj] at h3; cases h3; rfl
    subst e3
    refine ⟨by rw [sl_set, sl_set, List.length_set, List.length_set], fun j w hw => ?_⟩
    rw [sl_set, sl_set, gl_get, List.getElem?_set] at hw
    by_cases hj2 : k + 1 = j
    · rw [if_pos hj2] at hw
      split at hw <;> cases hw
    · rw [if_neg hj2, List.getElem?_set] at hw
      by_cases hjk : k = j
      · rw [if_pos hjk] at hw
        split at hw
        · cases hw; exact hv
        · cases hw
      · rw [if_neg hjk, ← gl_get] at hw; exact wL j w hw
  unfold op1 at h
  split at h
  · rename_i v9
    cases h
    have hv : inI v9 := by
      unfold opOk at hok
      dsimp only at hok
      rw [Bool.and_eq_true] at hok
      have := hok.1
      unfold inIb at this
      rw [Bool.and_eq_true] at this
      exact ⟨of_decide_eq_true this.1, of_decide_eq_true this.2⟩
    exact o_const C hd hl hok (kk _ _ _ _ _ hr rfl wL (wfS_i hv wS) I)
  · rename_i v9
    cases h
    have hv : inJ v9 := by
      unfold opOk at hok
      dsimp only at hok
      rw [Bool.and_eq_true] at hok
      have := hok.1
      unfold inJb at this
      rw [Bool.and_eq_true] at this
      exact ⟨of_decide_eq_true this.1, of_decide_eq_true this.2⟩
    exact o_lconst C hd hl hok (kk _ _ _ _ _ hr rfl wL (wfS_i hv wS) I)
  · cases h
    exact o_ldcS C hd hl hok (kk _ _ _ _ _ hr rfl wL (wfS_i trivial wS) I)
  · split at h
    · cases h
      exact o_gets C hd hl hok I.2.2.1 (kk _ _ _ _ _ hr rfl wL (wfS_i (by show inI 1; unfold inI; omega) wS) I)
    · next hk0 =>
      cases h
      refine o_gets C hd hl hok I.2.2.1 ?_
      rw [if_neg (by intro q; exact hk0 q)]
      exact kk _ _ _ _ _ hr rfl wL (wfS_i trivial wS) I
  · split at h
    · next hg =>
      cases h
      exact o_iload C hd hl hok (hr.2.2 _ _ hg) (kk _ _ _ _ _ hr rfl wL (wfS_i (wL _ _ hg) wS) I)
    · cases h
  · split at h
    · next hg =>
      cases h
      exact o_lload C hd hl hok (hr.2.2 _ _ hg) (kk _ _ _ _ _ hr rfl wL (wfS_i (wL _ _ hg) wS) I)
    · cases h
  · split at h
    · next r hg =>
      cases h
      refine o_aload C hd hl hok (v := vv g (.inr (.inr r))) ?_ (hr.2.2 _ _ hg) (kk _ _ _ _ _ hr rfl wL (wfS_i (wL _ _ hg) wS) I)
      rcases r with r | r
      · cases r with
        | zero => exact Or.inl rfl
        | succ r => exact Or.inr ⟨_, rfl⟩
      · exact xv_or g _
    · cases h
  · split at h
    · split at h
      · next hs =>
        cases h
        have w2 := wfS_c wS
        have e3 := stL hs w2.1
        exact o_istore C hd hl hok hr hL hs (fun ls2 h2 => kk _ _ _ _ _ h2 e3.1 e3.2 w2.2 I)
      · cases h
    · cases h
  · split at h
    · split at h
      · next hs =>
        cases h
        have w2 := wfS_c wS
        have e3 := stL hs w2.1
        exact o_astore C hd hl hok hr hL hs (fun ls2 h2 => kk _ _ _ _ _ h2 e3.1 e3.2 w2.2 I)
      · cases h
    · cases h
  · split at h
    · split at h
      · next hs =>
        cases h
        have w2 := wfS_c wS
        have e3 := stL2 hs w2.1
        exact o_lstore C hd hl hok hr hL hs (fun ls2 h2 => kk _ _ _ _ _ h2 e3.1 e3.2 w2.2 I)
      · cases h
    · cases h
  · split at h
    · next hg =>
      split at h
      · next hs =>
        cases h
        have e3 := stL hs (w32_in _)
        exact o_iinc C hd hl hok hr hL hg hs (fun ls2 h2 => kk _ _ _ _ _ h2 e3.1 e3.2 wS I)
      · cases h
    · cases h
  · have hi := plain_i (show (plain .iadd && decide (Instr.iadd = i)) = true from hok)
    subst hi; subst hl
    split at h
    · cases h
      have w1 := wfS_c wS
      have w2 := wfS_c w1.2
      refine lv_iadd hx hb hd ?_
      have kk2 := kk _ _ _ _ _ hr rfl wL (wfS_i (w32_in _) w2.2) I
      rw [← Int32.ofInt_add, ← i_w32]; exact kk2
    · cases h
  · have hi := plain_i (show (plain .isub && decide (Instr.isub = i)) = true from hok)
    subst hi; subst hl
    split at h
    · cases h
      have w1 := wfS_c wS
      have w2 := wfS_c w1.2
      refine lv_isub hx hb hd ?_
      have kk2 := kk _ _ _ _ _ hr rfl wL (wfS_i (w32_in _) w2.2) I
      rw [← Int32.ofInt_sub, ← i_w32]; exact kk2
    · cases h
  · have hi := plain_i (show (plain .imul && decide (Instr.imul = i)) = true from hok)
    subst hi; subst hl
    split at h
    · cases h
      have w1 := wfS_c wS
      have w2 := wfS_c w1.2
      refine lv_imul hx hb hd ?_
      have kk2 := kk _ _ _ _ _ hr rfl wL (wfS_i (w32_in _) w2.2) I
      rw [← Int32.ofInt_mul, ← i_w32]; exact kk2
    · cases h
  · have hi := plain_i (show (plain .ineg && decide (Instr.ineg = i)) = true from hok)
    subst hi; subst hl
    split at h
    · cases h
      have w1 := wfS_c wS
      refine lv_ineg hx hb hd ?_
      have kk2 := kk _ _ _ _ _ hr rfl wL (wfS_i (w32_in _) w1.2) I
      rw [← Int32.ofInt_neg, ← i_w32]; exact kk2
    · cases h
  · have hi := plain_i (show (plain .iand && decide (Instr.iand = i)) = true from hok)
    subst hi; subst hl
    split at h
    · cases h
      have w1 := wfS_c wS
      have w2 := wfS_c w1.2
      refine lv_iand hx hb hd ?_
      have kk2 := kk _ _ _ _ _ hr rfl wL (wfS_i (i_in _) w2.2) I
      rw [← Int32.ofInt_toInt (_ &&& _)]; exact kk2
    · cases h
  · have hi := plain_i (show (plain .ior && decide (Instr.ior = i)) = true from hok)
    subst hi; subst hl
    split at h
    · cases h
      have w1 := wfS_c wS
      have w2 := wfS_c w1.2
      refine lv_ior hx hb hd ?_
      have kk2 := kk _ _ _ _ _ hr rfl wL (wfS_i (i_in _) w2.2) I
      rw [← Int32.ofInt_toInt (_ ||| _)]; exact kk2
    · cases h
  · have hi := plain_i (show (plain .ishl && decide (Instr.ishl = i)) = true from hok)
    subst hi; subst hl
    split at h
    · cases h
      have w1 := wfS_c wS
      have w2 := wfS_c w1.2
      refine lv_ishl hx hb hd ?_
      have kk2 := kk _ _ _ _ _ hr rfl wL (wfS_i (i_in _) w2.2) I
      rw [← Int32.ofInt_toInt (_ <<< _)]; exact kk2
    · cases h
  · have hi := plain_i (show (plain .ishr && decide (Instr.ishr = i)) = true from hok)
    subst hi; subst hl
    split at h
    · cases h
      have w1 := wfS_c wS
      have w2 := wfS_c w1.2
      refine lv_ishr hx hb hd ?_
      have kk2 := kk _ _ _ _ _ hr rfl wL (wfS_i (i_in _) w2.2) I
      rw [← Int32.ofInt_toInt (_ >>> _)]; exact kk2
    · cases h
  · have hi := plain_i (show (plain .iushr && decide (Instr.iushr = i)) = true from hok)
    subst hi; subst hl
    split at h
    · cases h
      have w1 := wfS_c wS
      have w2 := wfS_c w1.2
      refine lv_iushr hx hb hd rfl ?_
      have kk2 := kk _ _ _ _ _ hr rfl wL (wfS_i (i_in _) w2.2) I
      rw [← Int32.ofInt_toInt (UInt32.toInt32 _)]; exact kk2
    · cases h
  · have hi := plain_i (show (plain .ladd && decide (Instr.ladd = i)) = true from hok)
    subst hi; subst hl
    split at h
    · cases h
      have w1 := wfS_c wS
      have w2 := wfS_c w1.2
      refine lv_ladd hx hb hd ?_
      have kk2 := kk _ _ _ _ _ hr rfl wL (wfS_i (w64_in _) w2.2) I
      rw [← Int64.ofInt_add, ← j_w64]; exact kk2
    · cases h
  · have hi := plain_i (show (plain .lsub && decide (Instr.lsub = i)) = true from hok)
    subst hi; subst hl
    split at h
    · cases h
      have w1 := wfS_c wS
      have w2 := wfS_c w1.2
      refine lv_lsub hx hb hd ?_
      have kk2 := kk _ _ _ _ _ hr rfl wL (wfS_i (w64_in _) w2.2) I
      rw [← Int64.ofInt_sub, ← j_w64]; exact kk2
    · cases h
  · have hi := plain_i (show (plain .lmul && decide (Instr.lmul = i)) = true from hok)
    subst hi; subst hl
    split at h
    · cases h
      have w1 := wfS_c wS
      have w2 := wfS_c w1.2
      refine lv_lmul hx hb hd ?_
      have kk2 := kk _ _ _ _ _ hr rfl wL (wfS_i (w64_in _) w2.2) I
      rw [← Int64.ofInt_mul, ← j_w64]; exact kk2
    · cases h
  · have hi := plain_i (show (plain .lneg && decide (Instr.lneg = i)) = true from hok)
    subst hi; subst hl
    split at h
    · cases h
      have w1 := wfS_c wS
      refine lv_lneg hx hb hd ?_
      have kk2 := kk _ _ _ _ _ hr rfl wL (wfS_i (w64_in _) w1.2) I
      rw [← Int64.ofInt_neg, ← j_w64]; exact kk2
    · cases h
  · have hi := plain_i (show (plain .lshl && decide (Instr.lshl = i)) = true from hok)
    subst hi; subst hl
    split at h
    · cases h
      have w1 := wfS_c wS
      have w2 := wfS_c w1.2
      refine lv_lshl hx hb hd rfl ?_
      have kk2 := kk _ _ _ _ _ hr rfl wL (wfS_i (j_in _) w2.2) I
      rw [← Int64.ofInt_toInt (_ <<< _)]; exact kk2
    · cases h
  · have hi := plain_i (show (plain .lor && decide (Instr.lor = i)) = true from hok)
    subst hi; subst hl
    split at h
    · cases h
      have w1 := wfS_c wS
      have w2 := wfS_c w1.2
      refine lv_lor hx hb hd ?_
      have kk2 := kk _ _ _ _ _ hr rfl wL (wfS_i (j_in _) w2.2) I
      rw [← Int64.ofInt_toInt (_ ||| _)]; exact kk2
    · cases h
  · have hi := plain_i (show (plain .lcmp && decide (Instr.lcmp = i)) = true from hok)
    subst hi; subst hl
    split at h
    · cases h
      have w1 := wfS_c wS
      have w2 := wfS_c w1.2
      refine W.lcmp hx hb hd ?_
      rw [i_cmp w2.1 w1.1]
      refine kk _ _ _ _ _ hr rfl wL (wfS_i ?_ w2.2) I
      show inI (lcmpI _ _)
      unfold lcmpI inI
      split
      · omega
      · split <;> omega
    · cases h
  · have hi := plain_i (show (plain .i2l && decide (Instr.i2l = i)) = true from hok)
    subst hi; subst hl
    split at h
    · cases h
      have w1 := wfS_c wS
      refine lv_i2l hx hb hd rfl ?_
      have kk2 := kk _ _ _ _ _ hr rfl wL (wfS_i (⟨by have := w1.1.1; omega, by have := w1.1.2; omega⟩ : inJ _) w1.2) I
      rw [i_toJ w1.1]; exact kk2
    · cases h
  · have hi := plain_i (show (plain .l2i && decide (Instr.l2i = i)) = true from hok)
    subst hi; subst hl
    split at h
    · cases h
      have w1 := wfS_c wS
      refine lv_l2i hx hb hd rfl ?_
      have kk2 := kk _ _ _ _ _ hr rfl wL (wfS_i (w32_in _) w1.2) I
      rw [j_toI]; exact kk2
    · cases h
  · have hi := plain_i (show (plain .i2s && decide (Instr.i2s = i)) = true from hok)
    subst hi; subst hl
    split at h
    · cases h
      have w1 := wfS_c wS
      refine lv_i2s hx hb hd rfl ?_
      have kk2 := kk _ _ _ _ _ hr rfl wL (wfS_i (w16_in _) w1.2) I
      rw [i_i16]; exact kk2
    · cases h
  · have hi := plain_i (show (plain .i2c && decide (Instr.i2c = i)) = true from hok)
    subst hi; subst hl
    split at h
    · cases h
      have w1 := wfS_c wS
      refine lv_i2c hx hb hd rfl ?_
      have kk2 := kk _ _ _ _ _ hr rfl wL (wfS_i (by show inI _; unfold inI; omega) w1.2) I
      rw [i_c16]; exact kk2
    · cases h
  · have hi := plain_i (show (plain .dup && decide (Instr.dup = i)) = true from hok)
    subst hi; subst hl
    split at h
    · cases h
      have w1 := wfS_c wS
      exact lv_dup hx hb hd rfl (kk _ _ _ _ _ hr rfl wL (wfS_i w1.1 (wfS_i w1.1 w1.2)) I)
    · cases h
      have w1 := wfS_c wS
      exact lv_dup hx hb hd (by rw [vv_cat]; rfl) (kk _ _ _ _ _ hr rfl wL (wfS_i w1.1 (wfS_i w1.1 w1.2)) I)
    · cases h
  · have hi := plain_i (show (plain .dup2 && decide (Instr.dup2 = i)) = true from hok)
    subst hi; subst hl
    split at h
    · cases h
      have w1 := wfS_c wS
      have w2 := wfS_c w1.2
      exact lv_dup2_11 hx hb hd rfl (by rw [vv_cat]; rfl) (kk _ _ _ _ _ hr rfl wL (wfS_i w1.1 (wfS_i w2.1 (wfS_i w1.1 (wfS_i w2.1 w2.2)))) I)
    · cases h
  · have hi := plain_i (show (plain .pop && decide (Instr.pop = i)) = true from hok)
    subst hi; subst hl
    split at h
    · cases h
      exact lv_pop hx hb hd rfl (kk _ _ _ _ _ hr rfl wL (wfS_c wS).2 I)
    · cases h
      exact lv_pop hx hb hd (by rw [vv_cat]; rfl) (kk _ _ _ _ _ hr rfl wL (wfS_c wS).2 I)
    · cases h
  · have hi := plain_i (show (plain .pop2 && decide (Instr.pop2 = i)) = true from hok)
    subst hi; subst hl
    split at h
    · cases h
      exact lv_pop2_2 hx hb hd rfl (kk _ _ _ _ _ hr rfl wL (wfS_c wS).2 I)
    · cases h
  · split at h
    · cases h
      exact o_obj C hd hl hok (by rw [hr.1, hL]) rf rl (kk _ _ _ _ _ hr rfl wL (wfS_c wS).2 I)
    · cases h
  · split at h
    · split at h
      · next hg =>
        cases h
        exact o_getf C hd hl hok I hg (fun hv => kk _ _ _ _ _ hr rfl wL (wfS_i hv (wfS_c wS).2) I)
      · cases h
    · cases h
  · split at h
    · split at h
      · next hg =>
        cases h
        have w1 := wfS_c wS
        exact o_putf C hd hl hok I w1.1 hg (fun H2 locs2 I2 => kk _ _ _ _ _ hr rfl wL (wfS_c w1.2).2 I2)
      · cases h
    · cases h
  · split at h
    · next a S1 =>
      split at h
      · next hb2 =>
        rw [Bool.and_eq_true] at hb2
        have h10 : 10 ≤ a := Nat.le_of_ble_eq_true hb2.1
        have h23 : a < 23 := Nat.le_of_ble_eq_true hb2.2
        have ea : a = 10 + (a - 10) := by omega
        have kk3 := o_strf (m := m) (l := l) (e := e) (R := R) (below := below) (cells := cells) (slots := slots) (Q := Q) (ls := ls) (j := a - 10) C hd hl hok (by omega) (rest := S1.map (vv g)) I.2.2.1
        rw [← ea] at kk3
        refine kk3 ?_
        split at h
        · cases h
          rw [if_pos rfl, show 40 + (a - 10) = a + 30 by omega]
          exact kk _ _ _ _ _ hr rfl wL (wfS_i trivial (wfS_c wS).2) I
        · next hk0 =>
          cases h
          rw [if_neg (by intro q; exact hk0 q)]
          exact kk _ _ _ _ _ hr rfl wL (wfS_i in0 (wfS_c wS).2) I
      · cases h
    · cases h
  · split at h
    · cases h
      subst hl
      unfold opOk at hok
      dsimp only at hok
      split at hok
      · refine o_alenX C hd I.2.2.1 (kk _ _ _ _ _ hr rfl wL (wfS_i ?_ (wfS_c wS).2) I)
        have := C.2.2.2.2.2.2.2.2.1
        show inI _; unfold inI; omega
      · cases hok
    · cases h
  · split at h
    · next a S1 =>
      split at h
      · next hb2 =>
        split at h
        · next l2 hj =>
          cases h
          have h40 : 40 ≤ a := Nat.le_of_ble_eq_true hb2
          subst hl
          unfold opOk at hok
          dsimp only at hok
          split at hok
          · have kk3 := o_alenS (m := m) (l := l) (e := e) (R := R) (below := below) (cells := cells) (slots := slots) (Q := Q) (ls := ls) C hd hj (rest := S1.map (vv g)) I.2.2.1
            rw [show 40 + (a - 40) = a by omega] at kk3
            refine kk3 (kk _ _ _ _ _ hr rfl wL (wfS_i ?_ (wfS_c wS).2) I)
            obtain ⟨l3, e1, -, -, e4, -⟩ := sby_all _ (sby_lt hj)
            rw [hj] at e1; cases e1
            show inI _; unfold inI; omega
          · cases hok
        · cases h
      · cases h
    · cases h
  · split at h
    · next hc =>
      cases h
      have hc : _ < 13 := Nat.le_of_ble_eq_true hc
      exact o_new C hd hl hok hc I rc rs (fun H2 I2 => kk _ _ _ _ _ hr rfl wL (wfS_i trivial wS) I2)
    · cases h
  · split at h
    · split at h
      · next hb2 =>
        cases h
        rw [Bool.and_eq_true, Bool.and_eq_true] at hb2
        exact o_newa C hd hl hok (Nat.le_of_ble_eq_true hb2.1) I (of_decide_eq_true hb2.2.1) (of_decide_eq_true hb2.2.2) rc rs (fun H2 I2 => kk _ _ _ _ _ hr rfl wL (wfS_i trivial (wfS_c wS).2) I2)
      · cases h
    · cases h
  · cases h
end OPS
end
section
/-! a run only makes more cells -/
def Gr (M M2 : Mm) : Prop := ∃ kx, M2.2.2 = M.2.2 ++ kx
theorem Gr.rf {M : Mm} : Gr M M := ⟨[], (List.append_nil _).symm⟩
theorem Gr.eq {M M2 : Mm} (h : M2.2.2 = M.2.2) : Gr M M2 := ⟨[], by rw [h, List.append_nil]⟩
theorem Gr.tr {M M2 M3 : Mm} (h1 : Gr M M2) (h2 : Gr M2 M3) : Gr M M3 := by
  obtain ⟨a, e1⟩ := h1
  obtain ⟨b, e2⟩ := h2
  exact ⟨a ++ b, by rw [e2, e1, List.append_assoc]⟩
theorem ksz_app2 (a b : List (Nat × Nat)) : ksz (a ++ b) = ksz a + ksz b := by
  induction a with
  | nil => simp [ksz]
  | cons q a ih => simp only [List.cons_append, ksz, ih]; omega
theorem Gr.len {M M2 : Mm} (h : Gr M M2) : M.2.2.length ≤ M2.2.2.length ∧ ksz M.2.2 ≤ ksz M2.2.2 := by
  obtain ⟨a, e1⟩ := h
  rw [e1, List.length_append, ksz_app2]
  omega
theorem putf_K {c k a : Nat} {v : AV} {M M2 : Mm} (h : putf c k a v M = some M2) : M2.2.2 = M.2.2 := by
  unfold putf at h
  split at h
  · cases h
  · split at h
    · cases h
    · split at h
      · cases h
      · split at h
        · cases h; rfl
        · cases h; rfl
        · split at h
          · cases h; rfl
          · cases h
        · cases h; rfl
        · cases h
theorem op1_Gr {X : Xs} {i : Instr} {L L2 : List (Option AV)} {S S2 : List AV} {M M2 : Mm} (h : op1 X i L S M = some (L2, S2, M2)) : Gr M M2 := by
  unfold op1 at h
  split at h
  all_goals first
    | (cases h; exact Gr.rf)
    | with_reducible exact nn_ h
    | (split at h <;> first
        | (cases h; exact Gr.rf)
        | (cases h; done)
        | (cases h; exact ⟨_, rfl⟩)
        | (split at h <;> first
            | (cases h; exact Gr.rf)
            | (cases h; done)
            | (cases h; exact ⟨_, rfl⟩)
            | (next hp => cases h; exact Gr.eq (putf_K hp))
            | (split at h <;> first
                | (cases h; exact Gr.rf)
                | (cases h; done))))
theorem runB_Gr {X : Xs} (ops : List Instr) : ∀ (s u : Fr), runB X ops s = some u → Gr s.2.2 u.2.2 := by
  induction ops with
  | nil => intro s u h; cases h; exact Gr.rf
  | cons i ops ih =>
    intro s u h
    unfold runB at h
    cases hs : op1 X i s.1 s.2.1 s.2.2 with
    | none => rw [hs] at h; cases h
    | some v =>
      rw [hs] at h
      exact (op1_Gr (L2 := v.1) (S2 := v.2.1) (M2 := v.2.2) hs).tr (ih v u h)
set_option maxRecDepth 20000 in
set_option maxHeartbeats 4000000 in
theorem trm_Gr {X : Xs} {f : Nat → Nat → Nat → Fr → Res} (hf : ∀ d y b s r, f d y b s = some r → Gr s.2.2 r.1) {d y : Nat} {t : Instr} {tg : List Nat} {L : List (Option AV)} {S : List AV} {M : Mm} {r : Mm × Option AV} (h : trm X f d y t tg L S M = some r) : Gr M r.1 := by
  unfold trm at h
  split at h
  all_goals first
    | with_reducible exact nn_ h
    | with_reducible exact hf _ _ _ _ _ h
    | skip
  all_goals (split at h)
  all_goals first
    | with_reducible exact nn_ h
    | with_reducible exact hf _ _ _ _ _ h
    | (cases h; exact Gr.rf)
    | skip
  all_goals (split at h)
  all_goals first
    | with_reducible exact nn_ h
    | with_reducible exact hf _ _ _ _ _ h
    | (cases h; exact Gr.rf)
    | (exact (Gr.eq rfl).tr (hf _ _ _ _ _ h))
    | skip
  all_goals (split at h)
  all_goals first
    | with_reducible exact nn_ h
    | with_reducible exact hf _ _ _ _ _ h
    | (exact (Gr.eq rfl).tr (hf _ _ _ _ _ h))
    | (rename_i heq; exact (hf _ _ _ _ _ heq).tr (hf _ _ _ _ _ h))
    | skip
theorem run_Gr (X : Xs) : ∀ (n d y b : Nat) (s : Fr) (r : Mm × Option AV), run X n d y b s = some r → Gr s.2.2 r.1 := by
  intro n
  induction n with
  | zero => intro d y b s r h; cases h
  | succ n ih =>
    intro d y b s r h
    have h2 : stp X (run X n) d y b s = some r := h
    unfold stp at h2
    split at h2
    · cases h2
    · split at h2
      · cases h2
      · next hu => exact (runB_Gr _ _ _ hu).tr (trm_Gr ih h2)
end
section
/-! a method's contract, and how it is called -/
theorem EXT.same {g : GP} {X : Xs} {u U : State} (hv : U.vm = u.vm) (hh : U.heap = u.heap) (h : EXT g X u u.heap) : EXT g X U U.heap := by
  obtain ⟨a1, a2, a3, a4, a5, a6, a7, a8, a9⟩ := h
  have hA : u.vm.Alike U.vm := by rw [hv]; exact Vm.Alike.refl _
  rw [hh]
  exact ⟨va_K.moved hA a1, fun q hq hk => va_Nw.same rfl hv.symm (a2 q hq hk), fun q hq => (a3 q hq).imp (fun tx h => vk_R.same hv h), vk_S.moved hA a4, va_Z.moved hA a5, va_Z.moved hA a6, va_X.moved hA a7, a8, a9⟩
theorem EXT.warm {g : GP} {X : Xs} {s U : State} {H : Heap} {locs : List Loc} (hW : s.WarmedH U.vm) (hh : U.heap = H) (hS : va_S (Afn g) s.heap H locs) (h : EXT g X s s.heap) : EXT g X U U.heap := by
  obtain ⟨a1, a2, a3, a4, a5, a6, a7, a8, a9⟩ := h
  have hA := hW.alike
  have hk : ∀ a : Nat, a < s.heap.size → ¬ Afn g a → H[a]? = s.heap[a]? := fun a h1 h2 => hS.2.1 a h1 h2
  rw [hh]
  exact ⟨va_K.moved hA a1, fun q hq hk => va_Nw.warmM hW (a2 q hq hk), fun q hq => (a3 q hq).imp (fun tx h => vk_R.warm hW h), vk_S.moved hA (vk_S.kept a4 hk), va_Z.moved hA (va_Z.kept a5 hk), va_Z.moved hA (va_Z.kept a6 hk), va_X.moved hA (va_X.kept a7 (hk _ a8 (Nat.not_le.mpr a9))), Nat.lt_of_lt_of_le a8 hS.1, a9⟩
def wfO (r : Option AV) : Prop := ∀ v, r = some v → wfV v
def ROk (k : Nat) (r : Option AV) : Prop := match k, r with
  | 0, some (.inl _) => True
  | 1, some (.inl x) => x = 0 ∨ x = 1
  | 2, some (.inl x) => 0 ≤ x ∧ x < 128
  | 3, some (.inr (.inl _)) => True
  | 4, none => True
  | 5, some (.inr (.inr (.inl (_ + 1)))) => True
  | _, _ => False
def retI (k : Nat) (i : Instr) : Prop := match k with
  | 0 => i = .ireturn
  | 1 => i = .ireturn
  | 2 => i = .ireturn
  | 3 => i = .lreturn
  | 4 => i = .return_
  | 5 => i = .areturn
  | _ => False
/-- the contract of a method of which a run is known -/
abbrev mPc (g : GP) (X : Xs) (as : List AV) (M : Mm) : Array Value → State → Prop := va_Pc (as.map (vv g)) (fun U => U.heap.size = g.1 + M.2.2.length ∧ va_P (gD g) vwCl (wld g M) U.heap ∧ EXT g X U U.heap)
def mQc (g : GP) (M : Mm) (r : Option AV) : Array Value → State → Outcome → State → Prop := fun _ st o t => (o = .returned (r.map (vv g)) ∧ va_P (gD g) vwCl (wld g M) t.heap ∧ va_D (Afn g) (wld g M) ∧ wfM M ∧ wfO r) ∧ va_F (Afn g) st t
abbrev mRm (d : Nat) (M M2 : Mm) : Room := { frames := d + 1, cells := M2.2.2.length - M.2.2.length, slots := ksz M2.2.2 - ksz M.2.2, locals := 64 * (d + 1) }
abbrev mWs (y : Nat) : List Cond := Cond.code (yn y) (yc y) (ml y) (yr y) :: gT
theorem wld_D (g : GP) (M : Mm) : va_D (Afn g) (wld g M) := by
  refine ⟨fun i j a b ha hb hab => ?_, fun k a ha => ?_⟩
  · rw [wld_get] at ha hb
    obtain ⟨q1, -, rfl⟩ := Option.map_eq_some_iff.mp ha
    obtain ⟨q2, -, rfl⟩ := Option.map_eq_some_iff.mp hb
    have : g.1 + i = g.1 + j := hab
    omega
  · rw [wld_get] at ha
    obtain ⟨q1, -, rfl⟩ := Option.map_eq_some_iff.mp ha
    show g.1 ≤ g.1 + k
    omega
theorem mPc_blind {g : GP} {X : Xs} {as : List AV} {M : Mm} : FrameBlind (mPc g X as M) := fun a U gg zk h => ⟨h.1, h.2.1, h.2.2.1, EXT.same (u := U) (U := U.calling gg zk a) rfl rfl h.2.2.2⟩
theorem goodIn_mWs {y : Nat} (hy : y < NM) : GoodIn gT (mWs y) := by
  intro w hw
  have h1 : w ∈ gT := by
    rcases List.mem_cons.mp hw with rfl | h
    · exact ycd_w hy
    · exact h
  exact ⟨h1, good_of_word (List.mem_filter.mp h1).2⟩
theorem yfx {y : Nat} (hy : y < NM) : plainName (yn y).cls = true ∧ ((yn y).cls ≠ "java/lang/invoke/MethodHandle" ∧ (yn y).cls ≠ "java/lang/invoke/VarHandle") ∧ (parseMethodDescriptor (yn y).desc).map (fun d => d.parameters.length) = some (na y - (if (gl YST y).getD true then 0 else 1)) ∧ (yn y).cls = cn (yo y) ∧ rcvN y = true ∧ ml y ≤ 13 ∧ (yin y = true ↔ (yn y).name = "<init>") ∧ (yin y = true → yr y = none) ∧ ((gl YST y).getD true = false → 1 ≤ na y) := by
  have h := all_of yfx_ok (List.mem_range.mpr hy)
  simp only [Bool.and_eq_true, decide_eq_true_eq, Bool.or_eq_true, Bool.not_eq_true'] at h
  obtain ⟨⟨h1, h2, h3⟩, ⟨h4, h5, h6, h7⟩, h8, h9, h10⟩ := h
  refine ⟨h1, ⟨h2, h3⟩, h4, h5, h6, Nat.le_of_ble_eq_true h7, ?_, fun z => ?_, fun z => ?_⟩
  · rw [h8]; exact decide_eq_true_iff
  · rcases h9 with q | q
    · rw [z] at q; cases q
    · exact q
  · rcases h10 with q | q
    · rw [z] at q; cases q
    · exact Nat.le_of_ble_eq_true q
section CALLS
variable {p : Program} {l : Launch} {e : Env} {R : Room} {s : State} {m : MethodId} {args : Array Value} {below : List Frame} {meth : Method} {c : Code} {H : Heap} {locs : List Loc} {cells slots : Nat} {Q : State → Prop} {g : GP} {X : Xs} {y k0 z0 : Nat} {pc : Nat} {ls : Array Slot} {M : Mm}
/-- behind a call -/
theorem call_on {st0 rest : List Value} {mc ms : Nat} {a : Array Value} {M1 : Mm} {r : Option AV} (hr : va_Run p l e R s m args below meth c H locs cells slots mc ms (F0 m pc ls st0) rest (mQc g M1 r a) (Afn g)) (I : INV g s k0 z0 M H locs cells slots) (hmc : M.2.2.length + mc = M1.2.2.length) (hms : ksz M.2.2 + ms = ksz M1.2.2)
    (kk : ∀ H1 locs1, INV g s k0 z0 M1 H1 locs1 (cells + mc) (slots + ms) → wfO r → W p l e R s m args below meth c H1 locs1 (cells + mc) (slots + ms) Q (F0 m (pc + 3) ls ((r.map (vv g)).toList ++ rest))) : W p l e R s m args below meth c H locs cells slots Q (F0 m pc ls st0) := by
  intro T hT X
  obtain ⟨hP, hD, hS, hw, hn0, hn1, hn2⟩ := I
  obtain ⟨v, st₀, t, T', LL, h0, X', hL, e1, e2, ⟨⟨hv, hP1, hD1, hw1, hwr⟩, hz, hk⟩, st⟩ := hr T hT X
  cases hv
  rw [h0] at hz hk
  have hS1 : va_S (Afn g) s.heap T'.heap (locs ++ LL) := ⟨Nat.le_trans hS.1 (by rw [e1]; exact hz), fun q h1 h2 => by rw [e1, hk q (Nat.lt_of_lt_of_le h1 hS.1) h2]; exact hS.2.1 q h1 h2, fun q hq => by
      rcases List.mem_append.mp hq with h | h
      · exact hS.2.2 q h
      · exact hL q h⟩
  obtain ⟨t2, a1, b1⟩ := kk T'.heap (locs ++ LL) ⟨by rw [e1]; exact hP1, hD1, hS1, hw1, hn0, by omega, by omega⟩ hwr T' rfl X'
  exact ⟨t2, st t2 a1, b1⟩
theorem goTo_x {pcs tg : List Nat} {k pc : Nat} {off : Int} (h : goesTo pcs tg k pc off = true) : ∃ q, gl pcs (tb tg k) = some q ∧ (pc : Int) + off = (q : Int) := by
  unfold goesTo at h
  split at h
  · next q hq => exact ⟨q, hq, of_decide_eq_true h⟩
  · cases h
theorem map_split {S : List AV} {n : Nat} (hl : n ≤ S.length) (f : AV → Value) : S.map f = ((S.take n).reverse.map f).reverse ++ (S.drop n).map f := by
  rw [← List.map_reverse, List.reverse_reverse, ← List.map_append, List.take_append_drop]
theorem cat_sum (g : GP) (S : List AV) : ((S.map (vv g)).map fun v => v.category).sum = catS S := by
  induction S with
  | nil => rfl
  | cons v S ih =>
    simp only [List.map_cons, List.sum_cons, ih]
    rcases v with x | x | r
    · show 1 + catS S = 1 + catS S; rfl
    · show 2 + catS S = 2 + catS S; rfl
    · rw [vv_cat]; rfl
/-- the three kinds of call -/
theorem do_call {S : List AV} {d y2 idx : Nat} {i : Instr} {M1 : Mm} {r : Option AV} (C : CTX g X y p s m args meth c) (hd : decode (yc y) pc = .ok (i, 3)) (hy2 : y2 < NM)
    (hi : (i = .invokevirtual idx ∧ (gl YST y2).getD true = false ∧ yin y2 = false) ∨ (i = .invokestatic idx ∧ (gl YST y2).getD true = true) ∨ (i = .invokespecial idx ∧ (gl YST y2).getD true = false ∧ yin y2 = true)) (hck : ∃ kd, mthT (yo y) idx = some (y2, kd))
    (hM : Met l (yn y2) (mWs y2) (mRm d M M1) (mPc g X (S.take (na y2)).reverse M) (mQc g M1 r) (M1.2.2.length - M.2.2.length) (ksz M1.2.2 - ksz M.2.2) (Afn g))
    (hrc : rcvOk y2 (S.take (na y2)).reverse M = true) (hcat : catS (S.drop (na y2)) ≤ 8) (hln : na y2 ≤ S.length) (hs : ls.size = ml y) (I : INV g s k0 z0 M H locs cells slots) (hG : Gr M M1) (rc : M1.2.2.length ≤ k0 + R.cells) (rs : ksz M1.2.2 ≤ z0 + R.slots) (rf : d + 2 ≤ R.frames) (rl : 64 * (d + 2) ≤ R.locals)
    (kk : ∀ H1 locs1 cells1 slots1, INV g s k0 z0 M1 H1 locs1 cells1 slots1 → wfO r → W p l e R s m args below meth c H1 locs1 cells1 slots1 Q (F0 m (pc + 3) ls ((r.map (vv g)).toList ++ (S.drop (na y2)).map (vv g)))) :
    W p l e R s m args below meth c H locs cells slots Q (F0 m pc ls (S.map (vv g))) := by
  refine W_size (fun hsz => ?_)
  have hH := inv_size I hsz
  have I0 := I
  obtain ⟨hx, hb, hml, hown, hts, -, hE, hA0, -⟩ := C
  obtain ⟨hP, hD, hS, hw, hn0, hn1, hn2⟩ := I
  obtain ⟨y1, y2a, y3, y4, y5, y6, y7, y8, y9⟩ := yfx hy2
  have hgr := hG.len
  obtain ⟨kd, hm1⟩ := hck
  obtain ⟨hlk0, hlk1⟩ := mthT_w hm1
  obtain ⟨hst, hini⟩ := yp_w hy2
  have hpre : ∀ U : State, U.heap = H → s.WarmedH U.vm → mPc g X (S.take (na y2)).reverse M ((S.take (na y2)).reverse.map (vv g)).toArray U := fun U hU hW => ⟨rfl, by rw [hU]; exact hH, by rw [hU]; exact hP, EXT.warm hW hU hS hE⟩
  have hroom : (mRm d M M1).frames + 1 ≤ R.frames ∧ 8 + (ml y2 + 11) + (mRm d M M1).locals ≤ R.locals := ⟨by show d + 1 + 1 ≤ _; omega, by show 8 + (ml y2 + 11) + 64 * (d + 1) ≤ _; omega⟩
  have hsum : 2 * (F0 m pc ls (S.map (vv g))).monitorRoom + (((S.drop (na y2)).map (vv g)).map fun v => v.category).sum ≤ 8 := by
    show 2 * 0 + _ ≤ 8
    rw [cat_sum]; omega
  have hf : cells + (M1.2.2.length - M.2.2.length) ≤ R.cells ∧ slots + (ksz M1.2.2 - ksz M.2.2) ≤ R.slots := ⟨by omega, by omega⟩
  have hfix : CallFix p m c (yc y) (ml y) s args gT (cn (yo y)) := ⟨hx, hb, hml, hown, hts⟩
  have hsplit := map_split hln (vv g)
  have hlen : ((S.take (na y2)).reverse.map (vv g)).length = na y2 := by
    rw [List.length_map, List.length_reverse, List.length_take]; omega
  have fin : va_Run p l e R s m args below meth c H locs cells slots (M1.2.2.length - M.2.2.length) (ksz M1.2.2 - ksz M.2.2) (F0 m pc ls (S.map (vv g))) ((S.drop (na y2)).map (vv g)) (mQc g M1 r ((S.take (na y2)).reverse.map (vv g)).toArray) (Afn g) → W p l e R s m args below meth c H locs cells slots Q (F0 m pc ls (S.map (vv g))) :=
    fun hr => call_on hr I0 (by omega) (by omega) (fun H1 locs1 I1 hwr => kk H1 locs1 _ _ I1 hwr)
  have hcB : kd = 0 → ∀ n, (parseMethodDescriptor (yn y2).desc).map (fun d => d.parameters.length) = some n → CallB R s args (cn (yo y)) idx (yn y2) (yc y2) (ml y2) (yr y2) (mWs y2) (mRm d M M1) (M1.2.2.length - M.2.2.length) (ksz M1.2.2 - ksz M.2.2) n :=
    fun hk n hn => callB_of n hts (goodIn_mWs hy2) rfl rfl rfl (hts _ hini) (hts _ (hlk0 hk)) ⟨y2a.1, y2a.2, hn⟩ hroom
  have hcN : kd ≠ 0 → ∀ n, (parseMethodDescriptor (yn y2).desc).map (fun d => d.parameters.length) = some n → va_CN R s args (cn (yo y)) idx (yn y2) "BlackRoad" (yc y2) (ml y2) (yr y2) (mWs y2) (mRm d M M1) (M1.2.2.length - M.2.2.length) (ksz M1.2.2 - ksz M.2.2) n :=
    fun hk n hn => by
      obtain ⟨-, q, hq, q1, q2, q3, q4⟩ := hlk1 hk
      have h9 := hE.2.1 q hq (by rw [q4]; exact hk)
      rw [q1, q2, q3] at h9
      exact va_cnB n hts (goodIn_mWs hy2) rfl rfl rfl h9 (hts _ hini) ⟨y2a.1, y2a.2, hn⟩ hroom
  rcases hi with ⟨rfl, h1, h2⟩ | ⟨rfl, h1⟩ | ⟨rfl, h1, h2⟩
  · rw [h1] at hst y3
    have hst2 : Cond.instanceMethod (yn y2) ∈ gT := hst
    have hn1 := y9 h1
    cases hS1 : (S.take (na y2)).reverse with
    | nil => rw [hS1] at hlen; simp at hlen; omega
    | cons a0 as =>
      rw [hS1] at hrc hpre hlen hsplit hM fin
      have hlen2 : (as.map (vv g)).length = na y2 - 1 := by simp at hlen ⊢; omega
      -- the receiver
      have hrecv : ∃ b, vv g a0 = .ref b ∧ ∃ cellB : Cell, H[b]? = some cellB ∧ cellB.vm.isStatics = false ∧ s.vm.findClass (yn y2).cls = some cellB.cls := by
        unfold rcvOk at hrc
        unfold rcvN at y5
        split at hrc
        · next h99 =>
          have := all_of yst_rcv (List.mem_range.mpr hy2)
          rw [decide_eq_true_iff] at this
          rw [h1, h99] at this
          exact absurd this (by decide)
        · next cc hne =>
          split at hrc
          · next id tl hq0 =>
            cases hq0
            cases hq : gl M.2.2 id with
            | none => rw [hq] at hrc; cases hrc
            | some q =>
              rw [hq] at hrc
              have hqc := Nat.eq_of_beq_eq_true hrc
              refine ⟨g.1 + id, rfl, ?_⟩
              have hw9 := (hw id q hq).1.1
              split at y5
              · next z => exact absurd z hne
              · next z =>
                rw [z] at hqc
                omega
              · next z1 z2 z3 =>
                rw [Bool.and_eq_true] at y5
                have hc13 : (gl RCV y2).getD 99 < 13 := Nat.le_of_ble_eq_true y5.1
                have hat := wld_at (g := g) hq
                rw [ent_obj (by omega)] at hat
                have := va_recv hE.1 hP (ci := q.1) (q0 := id) (cls_hc q.1 (by omega)) hat
                rw [of_decide_eq_true y5.2, ← hqc]
                exact this
          · next ax tl hq0 =>
            cases hq0
            rw [Bool.and_eq_true, Bool.and_eq_true] at hrc
            have hc50 := Nat.eq_of_beq_eq_true hrc.1
            have h10 : 10 ≤ ax := Nat.le_of_ble_eq_true hrc.2.1
            have h23 : ax < 23 := Nat.le_of_ble_eq_true hrc.2.2
            refine ⟨g.2.1 ax, xv_ref g (by omega), ?_⟩
            split at y5
            · next z => exact absurd z hne
            · next z =>
              have := vk_recv hE.2.2.2.1 (i := ax - 10) (by omega) hS
              rw [show 10 + (ax - 10) = ax by omega] at this
              rw [of_decide_eq_true y5]
              exact this
            · next z1 z2 z3 => first | exact absurd hc50 z3 | exact absurd hc50 z2
          · cases hrc
      obtain ⟨b, hb1, hcell⟩ := hrecv
      refine fin ?_
      have hstk : S.map (vv g) = (as.map (vv g)).reverse ++ .ref b :: (S.drop (na y2)).map (vv g) := by
        rw [hsplit, List.map_cons, List.reverse_cons, hb1, List.append_assoc]; rfl
      have e9 : ((a0 :: as).map (vv g)).toArray = (Value.ref b :: as.map (vv g)).toArray := by rw [List.map_cons, hb1]
      rw [e9] at hpre ⊢
      by_cases hk : kd = 0
      · exact va_runV (C := (yn y2).cls) hfix hM ⟨hcB hk _ y3, hts _ hst2, hts _ (sel_w hy2 h1 h2)⟩ ⟨mPc_blind, hcell, hpre⟩ rfl hlen2 hs hstk hsum hd hf
      · exact va_runVN (C := (yn y2).cls) hfix hM ⟨hcN hk _ y3, hts _ hst2, hts _ (sel_w hy2 h1 h2)⟩ ⟨mPc_blind, hcell, hpre⟩ rfl hlen2 hs hstk hsum hd hf
  · rw [h1] at hst y3
    have hst2 : Cond.static (yn y2) ∈ gT := hst
    refine fin ?_
    by_cases hk : kd = 0
    · exact va_runS hfix hM ⟨hcB hk _ y3, hts _ hst2⟩ ⟨mPc_blind, hpre⟩ rfl hlen hs hsplit hsum hd hf
    · exact va_runSN hfix hM ⟨hcN hk _ y3, hts _ hst2, trivial⟩ ⟨mPc_blind, hpre⟩ rfl hlen hs hsplit hsum hd hf
  · rw [h1] at hst y3
    have hst2 : Cond.instanceMethod (yn y2) ∈ gT := hst
    have hn1 := y9 h1
    have hret := y8 h2
    have hnm := y7.mp h2
    cases hS1 : (S.take (na y2)).reverse with
    | nil => rw [hS1] at hlen; simp at hlen; omega
    | cons a0 as =>
      rw [hS1] at hrc hpre hlen hsplit hM fin
      have hlen2 : (as.map (vv g)).length = na y2 - 1 := by simp at hlen ⊢; omega
      have hrecv : ∃ b, vv g a0 = .ref b := by
        unfold rcvOk at hrc
        split at hrc
        · next h99 =>
          have := all_of yst_rcv (List.mem_range.mpr hy2)
          rw [decide_eq_true_iff] at this
          rw [h1, h99] at this
          exact absurd this (by decide)
        · split at hrc
          · next hq0 => cases hq0; exact ⟨_, rfl⟩
          · next hq0 =>
            cases hq0
            rw [Bool.and_eq_true, Bool.and_eq_true] at hrc
            exact ⟨_, xv_ref g (by have := Nat.le_of_ble_eq_true hrc.2.1; omega)⟩
          · cases hrc
      obtain ⟨b, hb1⟩ := hrecv
      refine fin ?_
      have hstk : S.map (vv g) = (as.map (vv g)).reverse ++ .ref b :: (S.drop (na y2)).map (vv g) := by
        rw [hsplit, List.map_cons, List.reverse_cons, hb1, List.append_assoc]; rfl
      have e9 : ((a0 :: as).map (vv g)).toArray = (Value.ref b :: as.map (vv g)).toArray := by rw [List.map_cons, hb1]
      rw [e9] at hpre ⊢
      by_cases hk : kd = 0
      · have h7 := hcB hk _ y3
        rw [hret] at h7
        exact va_runI hfix hM ⟨h7, hnm, hts _ hst2⟩ ⟨mPc_blind, hpre⟩ rfl hlen2 hs hstk hsum hd hf
      · have h7 := hcN hk _ y3
        rw [hret] at h7
        exact va_runIN hfix hM ⟨h7, hnm, hts _ hst2⟩ ⟨mPc_blind, hpre⟩ rfl hlen2 hs hstk hsum hd hf
end CALLS
end
section
/-! a block's end, and a whole method -/
def BodyOK (l : Launch) (g : GP) (X : Xs) (n : Nat) : Prop := ∀ (d y b : Nat) (L : List (Option AV)) (S : List AV) (M M2 : Mm) (r : Option AV), run X n d y b (L, S, M) = some (M2, r) → y ≤ NM → ∀ pc, gl (pcs y) b = some pc →
  ∀ {p : Program} {e : Env} {R : Room} {s : State} {m : MethodId} {args : Array Value} {below : List Frame} {meth : Method} {c : Code} {H : Heap} {locs : List Loc} {cells slots : Nat} {Q : State → Prop} {ls : Array Slot} {k0 z0 : Nat},
    CTX g X y p s m args meth c → lrel g L ls → L.length = ml y → wfL L → wfS S → INV g s k0 z0 M H locs cells slots → M2.2.2.length ≤ k0 + R.cells → ksz M2.2.2 ≤ z0 + R.slots → d + 1 ≤ R.frames → 64 * (d + 1) ≤ R.locals →
    (∀ (pc2 : Nat) (ls2 : Array Slot) (H2 : Heap) (locs2 : List Loc) (cells2 slots2 : Nat) (i : Instr), decode (yc y) pc2 = .ok (i, 1) → retI (rty y) i → ROk (rty y) r → wfO r → INV g s k0 z0 M2 H2 locs2 cells2 slots2 → W p l e R s m args below meth c H2 locs2 cells2 slots2 Q (F0 m pc2 ls2 ((r.map (vv g)).toList))) →
    W p l e R s m args below meth c H locs cells slots Q (F0 m pc ls (S.map (vv g)))
theorem aidx_x {k a : Nat} {i : Int} {M : Mm} (h : aidx k a i M = true) : ∃ id n, a = id + 1 ∧ gl M.2.2 id = some (k, n) ∧ 0 ≤ i ∧ i < (n : Int) := by
  unfold aidx at h
  split at h
  · cases h
  · next id =>
    split at h
    · cases h
    · next q hq =>
      simp only [Bool.and_eq_true, decide_eq_true_eq] at h
      obtain ⟨h1, h2, h3⟩ := h
      have := Nat.eq_of_beq_eq_true h1
      exact ⟨id, q.2, rfl, by rw [hq, ← this], h2, h3⟩
theorem alen_x {a : Nat} {v : Int} {M : Mm} (h : alen a M = some v) : ∃ id q, a = id + 1 ∧ gl M.2.2 id = some q ∧ 100 ≤ q.1 ∧ v = (q.2 : Int) := by
  unfold alen at h
  split at h
  · cases h
  · next id =>
    split at h
    · cases h
    · next q hq =>
      split at h
      · next hk => cases h; exact ⟨id, q, rfl, hq, hk, rfl⟩
      · cases h
theorem up_off {V : Nat → Nat → Int} {a b : Nat} {x : Int} {i : Nat} (k : Nat) (h : i ≠ a) : up V a b x i k = V i k := by unfold up; rw [if_neg h]
theorem up_on {V : Nat → Nat → Int} {a b : Nat} {x : Int} (k : Nat) : up V a b x a k = if k = b then x else V a k := by unfold up; rw [if_pos rfl]
section BODY
variable {p : Program} {l : Launch} {e : Env} {R : Room} {s : State} {m : MethodId} {args : Array Value} {below : List Frame} {meth : Method} {c : Code} {H : Heap} {locs : List Loc} {cells slots : Nat} {Q : State → Prop} {g : GP} {X : Xs} {y k0 z0 : Nat} {pc : Nat} {ls : Array Slot} {L : List (Option AV)} {S : List AV} {M : Mm}
theorem inv_set {M2 : Mm} {id : Nat} {q : Nat × Nat} {H1 : Heap} {locs1 : List Loc} (I : INV g s k0 z0 M H locs cells slots) (hq : gl M.2.2 id = some q) (hK : M2.2.2 = M.2.2) (hV : ∀ i k, i ≠ id → M2.1 i k = M.1 i k) (hGg : M2.2.1 = M.2.1) (hw2 : wfM M2)
    (hP1 : va_P (gD g) vwCl ((wld g M).set id (g.1 + id, ent g M2 id q)) H1) (hS1 : va_S (Afn g) s.heap H1 locs1) : INV g s k0 z0 M2 H1 locs1 cells slots := by
  obtain ⟨hP, hD, hS, hw, hn0, hn1, hn2⟩ := I
  rw [← wld_set (g := g) hq hK hV (fun i k _ => by rw [hGg])] at hP1
  exact ⟨hP1, wld_D g M2, hS1, hw2, hn0, by rw [hK]; exact hn1, by rw [hK]; exact hn2⟩
theorem wfM_up2 {id k : Nat} {x : Int} {q : Nat × Nat} (hw : wfM M) (hq : gl M.2.2 id = some q) (hk : q.1 = 100 ∨ q.1 = 102 ∨ q.1 = 103) (hx : inI x) : wfM (up M.1 id k x, M.2.1, M.2.2) :=
  wfM_up hw hq ⟨fun z => by unfold cellL at z; omega, fun _ => hx⟩
theorem o_math {u : Value} {k idx : Nat} (C : CTX g X y p s m args meth c) (hd : decode (yc y) pc = .ok (.invokestatic idx, 3)) (hm : malT (yo y) idx k = true) (hs : ls.size = ml y) {rest : List Value} (hrest : (rest.map fun v => v.category).sum ≤ 8) (rf : 1 ≤ R.frames) (rl : 64 ≤ R.locals) (hc : cells ≤ R.cells) (hsl : slots ≤ R.slots) {a b : AV} (hab : (k = 1 ∧ ∃ x z, a = .inl x ∧ b = .inl z ∧ inI x ∧ inI z ∧ u = .int (Int32.ofInt (max x z))) ∨ (k = 2 ∧ ∃ x z, a = .inl x ∧ b = .inl z ∧ inI x ∧ inI z ∧ u = .int (Int32.ofInt (min x z))) ∨ (k = 3 ∧ ∃ x z, a = .inr (.inl x) ∧ b = .inr (.inl z) ∧ inJ x ∧ inJ z ∧ u = .long (Int64.ofInt (max x z))) ∨ (k = 4 ∧ ∃ x z, a = .inr (.inl x) ∧ b = .inr (.inl z) ∧ inJ x ∧ inJ z ∧ u = .long (Int64.ofInt (min x z))))
    (kk : W p l e R s m args below meth c H locs cells slots Q (F0 m (pc + 3) ls (u :: rest))) : W p l e R s m args below meth c H locs cells slots Q (F0 m pc ls (vv g b :: vv g a :: rest)) := by
  obtain ⟨hx, hb, hml, hown, hts, -, hE, hA0, -⟩ := C
  obtain ⟨q, hq, hq2⟩ := List.any_eq_true.mp hm
  rw [Bool.and_eq_true, Bool.and_eq_true] at hq2
  have e1 := Nat.eq_of_beq_eq_true hq2.1
  have e2 := Nat.eq_of_beq_eq_true hq2.2.1
  have e3 := Nat.eq_of_beq_eq_true hq2.2.2
  have hw := all_of mal_ok hq
  rw [Bool.and_eq_true] at hw
  have hw := of_decide_eq_true hw.1
  rw [e1, e2, e3] at hw
  have hlk : Cond.methodLink (cn (yo y)) idx (mthN k) ∈ gT := in_gT (at_tb hw) rfl
  have hmax : ∀ x z : Int, max x z = if x < z then z else x := fun x z => by omega
  have hmin : ∀ x z : Int, min x z = if z < x then z else x := fun x z => by omega
  have hmax2 : ∀ x z : Int, max x z = if z < x then x else z := fun x z => by omega
  rcases hab with ⟨rfl, x, z, rfl, rfl, hx1, hz1, rfl⟩ | ⟨rfl, x, z, rfl, rfl, hx1, hz1, rfl⟩ | ⟨rfl, x, z, rfl, rfl, hx1, hz1, rfl⟩ | ⟨rfl, x, z, rfl, rfl, hx1, hz1, rfl⟩
  · refine va_mmax hx hb (by rw [hml, hs]) hown (hts _ hlk) (hts _ (in_gT (at_tb (i := 198) (by decide +kernel)) rfl)) (hts _ (in_gT (at_tb (i := 6) (by decide +kernel)) rfl)) (hts _ (in_gT (at_tb (i := 199) (by decide +kernel)) rfl)) rf (by omega) hc hsl hd ?_
    rw [hmax] at kk
    by_cases h : x < z
    · rw [if_pos h] at kk; rw [if_pos ((i_lt hx1 hz1).mpr h)]; exact kk
    · rw [if_neg h] at kk; rw [if_neg (fun w => h ((i_lt hx1 hz1).mp w))]; exact kk
  · refine va_mmin hx hb (by rw [hml, hs]) hown (hts _ hlk) (hts _ (in_gT (at_tb (i := 605) (by decide +kernel)) rfl)) (hts _ (in_gT (at_tb (i := 6) (by decide +kernel)) rfl)) (hts _ (in_gT (at_tb (i := 606) (by decide +kernel)) rfl)) rf (by omega) hc hsl hd ?_
    rw [hmin] at kk
    by_cases h : z < x
    · rw [if_pos h] at kk; rw [if_pos ((i_lt hz1 hx1).mpr h)]; exact kk
    · rw [if_neg h] at kk; rw [if_neg (fun w => h ((i_lt hz1 hx1).mp w))]; exact kk
  · refine va_mmax_long hx hb (by rw [hml, hs]) hown (hts _ hlk) (hts _ (in_gT (at_tb (i := 917) (by decide +kernel)) rfl)) (hts _ (in_gT (at_tb (i := 6) (by decide +kernel)) rfl)) (hts _ (in_gT (at_tb (i := 918) (by decide +kernel)) rfl)) rf (by omega) hc hsl hd ?_
    rw [hmax2] at kk
    by_cases h : z < x
    · rw [if_pos h] at kk; rw [if_pos ((j_lt hz1 hx1).mpr h)]; exact kk
    · rw [if_neg h] at kk; rw [if_neg (fun w => h ((j_lt hz1 hx1).mp w))]; exact kk
  · refine va_mmin_long hx hb (by rw [hml, hs]) hown (hts _ hlk) (hts _ (in_gT (at_tb (i := 914) (by decide +kernel)) rfl)) (hts _ (in_gT (at_tb (i := 6) (by decide +kernel)) rfl)) (hts _ (in_gT (at_tb (i := 915) (by decide +kernel)) rfl)) rf (by omega) hc hsl hd ?_
    rw [hmin] at kk
    by_cases h : z < x
    · rw [if_pos h] at kk; rw [if_pos ((j_lt hz1 hx1).mpr h)]; exact kk
    · rw [if_neg h] at kk; rw [if_neg (fun w => h ((j_lt hz1 hx1).mp w))]; exact kk
theorem ent_len {as : List AV} : ∀ n, (entL as n).length = n ∨ catS as > n := by
  induction as with
  | nil =>
    intro n
    left
    induction n with
    | zero => rfl
    | succ n ih => show (none :: entL [] n).length = _; rw [List.length_cons, ih]
  | cons v as ih =>
    intro n
    rcases v with x | x | r
    · cases n with
      | zero => left; rfl
      | succ n =>
        show (some (.inl x) :: entL as n).length = _ ∨ 1 + catS as > n + 1
        rw [List.length_cons]
        rcases ih n with h | h
        · left; omega
        · right; omega
    · cases n with
      | zero => left; rfl
      | succ n =>
        cases n with
        | zero => right; show 2 + catS as > 1; omega
        | succ n =>
          show (some (.inr (.inl x)) :: none :: entL as n).length = _ ∨ 2 + catS as > n + 2
          rw [List.length_cons, List.length_cons]
          rcases ih n with h | h
          · left; omega
          · right; omega
    · cases n with
      | zero => left; rfl
      | succ n =>
        show (some (.inr (.inr r)) :: entL as n).length = _ ∨ 1 + catS as > n + 1
        rw [List.length_cons]
        rcases ih n with h | h
        · left; omega
        · right; omega
theorem ent_mem {as : List AV} : ∀ (n k i : Nat) (v : AV), catS as ≤ n → gl (entL as n) i = some (some v) → (k + i, vv g v) ∈ lv_args k (as.map (vv g)) := by
  induction as with
  | nil =>
    intro n k i v _ h
    exfalso
    induction n generalizing i with
    | zero => cases h
    | succ n ih =>
      cases i with
      | zero => cases h
      | succ i => exact ih i (Nat.zero_le _) h
  | cons w as ih =>
    intro n k i v hc h
    rcases w with x | x | r
    · have hc2 : 1 + catS as ≤ n := hc
      cases n with
      | zero => omega
      | succ n =>
        show _ ∈ (k, _) :: lv_args (k + 1) (as.map (vv g))
        cases i with
        | zero => cases h; exact List.mem_cons_self
        | succ i =>
          have := ih n (k + 1) i v (by omega) h
          rw [Nat.add_right_comm] at this
          exact List.mem_cons_of_mem _ this
    · have hc2 : 2 + catS as ≤ n := hc
      cases n with
      | zero => omega
      | succ n =>
        cases n with
        | zero => omega
        | succ n =>
          show _ ∈ (k, _) :: lv_args (k + 2) (as.map (vv g))
          cases i with
          | zero => cases h; exact List.mem_cons_self
          | succ i =>
            cases i with
            | zero => cases h
            | succ i =>
              have := ih n (k + 2) i v (by omega) h
              rw [show k + 2 + i = k + (i + 1 + 1) by omega] at this
              exact List.mem_cons_of_mem _ this
    · have hc2 : 1 + catS as ≤ n := hc
      cases n with
      | zero => omega
      | succ n =>
        have e9 : lv_args k (((Sum.inr (Sum.inr r) : AV) :: as).map (vv g)) = (k, vv g (.inr (.inr r))) :: lv_args (k + 1) (as.map (vv g)) := by
          show (k, _) :: lv_args (if (vv g (.inr (.inr r))).category = 2 then k + 2 else k + 1) _ = _
          rw [vv_cat]; rfl
        rw [e9]
        cases i with
        | zero => cases h; exact List.mem_cons_self
        | succ i =>
          have := ih n (k + 1) i v (by omega) h
          rw [Nat.add_right_comm] at this
          exact List.mem_cons_of_mem _ this
theorem ent_wf {as : List AV} (h : wfS as) (n : Nat) (hc : catS as ≤ n) : wfL (entL as n) := by
  intro i v hv
  have h1 : ∀ (as : List AV), wfS as → ∀ (n i : Nat) (v : AV), gl (entL as n) i = some (some v) → wfV v := by
    intro as
    induction as with
    | nil =>
      intro _ n i v h
      exfalso
      induction n generalizing i with
      | zero => cases h
      | succ n ih =>
        cases i with
        | zero => cases h
        | succ i => exact ih i h
    | cons w as ih =>
      intro hw n i v h
      have hw2 := wfS_c hw
      rcases w with x | x | r
      · cases n with
        | zero => cases h
        | succ n => cases i with
          | zero => cases h; exact hw2.1
          | succ i => exact ih hw2.2 n i v h
      · cases n with
        | zero => cases h
        | succ n => cases n with
          | zero => cases i with
            | zero => cases h; exact hw2.1
            | succ i => cases h
          | succ n => cases i with
            | zero => cases h; exact hw2.1
            | succ i => cases i with
              | zero => cases h
              | succ i => exact ih hw2.2 n i v h
      · cases n with
        | zero => cases h
        | succ n => cases i with
          | zero => cases h; exact hw2.1
          | succ i => exact ih hw2.2 n i v h
  exact h1 as h n i v hv
theorem sl_len (as : List AV) : (lg_sl (as.map (vv g))).length = catS as := by
  induction as with
  | nil => rfl
  | cons v as ih =>
    have e9 : lg_sl ((v :: as).map (vv g)) = (if (vv g v).category = 2 then [Slot.val (vv g v), .second] else [.val (vv g v)]) ++ lg_sl (as.map (vv g)) := rfl
    rw [e9, List.length_append, ih, vv_cat]
    rcases v with x | x | r
    · show 1 + _ = 1 + catS as; rfl
    · show 2 + _ = 2 + catS as; rfl
    · show 1 + _ = 1 + catS as; rfl
theorem i_i8 {x : Int} (h0 : 0 ≤ x) (h1 : x < 128) : (Int32.ofInt x).toInt8.toInt32 = Int32.ofInt x := by
  apply Int32.toInt_inj.mp
  rw [Int8.toInt_toInt32, Int32.toInt8_ofInt, Int8.toInt_ofInt, i_toInt ⟨by omega, by omega⟩]
  show x.bmod 256 = x
  unfold Int.bmod; simp only; split <;> omega
theorem rty_ok : (List.range NM).all (fun y => match rty y with
  | 0 => decide (yr y = some .int)
  | 1 => decide (yr y = some .boolean)
  | 2 => decide (yr y = some .char) || decide (yr y = some .byte)
  | 3 => decide (yr y = some .long)
  | 4 => decide (yr y = none)
  | 5 => decide (yr y = some (.array .int))
  | _ => false) = true := by decide +kernel
theorem met_of {n d y2 : Nat} {as : List AV} {M1 : Mm} {r : Option AV} (hB : BodyOK l g X n) (hy2 : y2 < NM) (h : run X n d y2 0 (entL as (ml y2), [], M) = some (M1, r)) (has : wfS as) (hcat : catS as ≤ ml y2) (hw : wfM M) (hX : XOK X) :
    Met l (yn y2) (mWs y2) (mRm d M M1) (mPc g X as M) (mQc g M1 r) (M1.2.2.length - M.2.2.length) (ksz M1.2.2 - ksz M.2.2) (Afn g) := by
  have hgr := (run_Gr X _ _ _ _ _ _ h).len
  dsimp only at hgr
  refine Met.ofW (cc := yc y2) (maxL := ml y2) (ret := yr y2) (yfx hy2).1 rfl ?_
  intro p e s m args below meth c s₁ B hml hv
  obtain ⟨rfl, hsz, hP, hE⟩ := hv
  have hts := atoms_spec (ws := mWs y2) B.pre
  have hown := findClass_of_methodNamed B.named
  rw [(yfx hy2).2.2.2.1] at hown
  have C : CTX g X y2 p s m (as.map (vv g)).toArray meth c := ⟨B.exec, B.bytes, hml, hown, fun w hw => hts w (List.mem_cons_of_mem _ hw), fun hi => by rw [(name_of_methodNamed B.named B.method).1]; exact (yfx hy2).2.2.2.2.2.2.1.mp hi, hE, by omega, hX⟩
  have hx := B.exec
  have hb := B.bytes
  have hr := B.returns
  have hlocks := B.notSynchronized
  rw [lg_entry_eq]
  have hl := lv_entry (as.map (vv g)) (n := ml y2) (by rw [sl_len]; exact hcat)
  generalize (lg_sl (as.map (vv g)) ++ List.replicate (ml y2 - (lg_sl (as.map (vv g))).length) Slot.unset).toArray = ls at hl ⊢
  have hel : (entL as (ml y2)).length = ml y2 := (ent_len (ml y2)).elim id (fun z => by omega)
  have hrel : lrel g (entL as (ml y2)) ls := ⟨by rw [hel]; exact hl.1, hl.2.1, fun i v hv => by
    have := ent_mem (g := g) (ml y2) 0 i v hcat hv
    rw [Nat.zero_add] at this
    exact hl.2.2 _ this⟩
  have hpc : gl (pcs y2) 0 = some 0 := by
    have h0 := chk_head (y := y2) (by unfold NM at hy2; omega)
    cases hp : pcs y2 with
    | nil => rw [hp] at h0; exact absurd h0 (by decide)
    | cons a t => rw [hp] at h0; have : a = 0 := h0; rw [this]; rfl
  have I0 : INV g s M.2.2.length (ksz M.2.2) M s.heap [] 0 0 := ⟨hP, wld_D g M, va_S.rf, hw, hsz, by omega, by omega⟩
  refine hB d y2 0 _ [] M M1 r h (Nat.le_of_lt hy2) 0 hpc C hrel hel (ent_wf has _ hcat) (fun v hv => by cases hv) I0 (by show _ ≤ _ + (_ - _); omega) (by show _ ≤ _ + (_ - _); omega) (Nat.le_refl _) (Nat.le_refl _) ?_
  intro pc2 ls2 H2 locs2 cells2 slots2 i hd hri hro hwo I2
  obtain ⟨hP2, hD2, hS2, hw2, -, hn1, hn2⟩ := I2
  have ec : cells2 = M1.2.2.length - M.2.2.length := by omega
  have es : slots2 = ksz M1.2.2 - ksz M.2.2 := by omega
  subst ec; subst es
  have hq : ∀ (t : State), t.heap = H2 → s.WarmedH t.vm → mQc g M1 r (as.map (vv g)).toArray s (.returned (r.map (vv g))) t := fun t ht _ => ⟨⟨rfl, by rw [ht]; exact hP2, hD2, hw2, hwo⟩, hS2.F ht⟩
  have hrk := all_of rty_ok (List.mem_range.mpr hy2)
  unfold ROk at hro
  split at hro
  · next hk =>
    rw [hk] at hri hrk
    have hri : i = .ireturn := hri
    have hrk := of_decide_eq_true hrk
    subst hri
    exact W.iret hx hb (hr.trans hrk) hq hS2.2.2 hd
  · next x hk =>
    rw [hk] at hri hrk
    have hri : i = .ireturn := hri
    have hrk := of_decide_eq_true hrk
    subst hri
    exact W.zret hx hb (hr.trans hrk) (by rcases hro with rfl | rfl <;> rfl) hq hS2.2.2 hd
  · next x hk =>
    rw [hk] at hri hrk
    have hri : i = .ireturn := hri
    have hrk : (decide (yr y2 = some .char) || decide (yr y2 = some .byte)) = true := hrk
    rw [Bool.or_eq_true, decide_eq_true_eq, decide_eq_true_eq] at hrk
    subst hri
    rcases hrk with hrk | hrk
    · refine W.zret hx hb (hr.trans hrk) ?_ hq hS2.2.2 hd
      have := (pk_charN (q := x.toNat) (by omega)).1
      have e8 : nI x.toNat = Int32.ofInt x := by show Int32.ofNat _ = _; rw [i_ofNat]; congr 1; omega
      rw [e8] at this
      exact this
    · refine W.zret hx hb (hr.trans hrk) ?_ hq hS2.2.2 hd
      show Value.int _ = _
      rw [i_i8 hro.1 hro.2]
  · next hk =>
    rw [hk] at hri hrk
    have hri : i = .lreturn := hri
    have hrk := of_decide_eq_true hrk
    subst hri
    exact W.lret hx hb (hr.trans hrk) hq hS2.2.2 hd
  · next hk =>
    rw [hk] at hri hrk
    have hri : i = .return_ := hri
    have hrk := of_decide_eq_true hrk
    subst hri
    exact W.vret hx hb (hr.trans hrk) hq hS2.2.2 hd
  · next hk =>
    rw [hk] at hri hrk
    have hri : i = .areturn := hri
    have hrk := of_decide_eq_true hrk
    subst hri
    exact W.aret hx hb (hr.trans hrk) (Or.inr ⟨_, rfl⟩) (Or.inr ⟨_, rfl⟩) hq hS2.2.2 hd
  · cases hro
end BODY
end
section
/-! how a block ends, in the real machine; the whole run -/
theorem luk_x {pcs : List Nat} {pc : Nat} (x : Int) (d : Int) (td : Nat) (hd : ∃ q, gl pcs td = some q ∧ (pc : Int) + d = (q : Int)) : ∀ (ps : List (Int × Int)) (ts : List Nat) (ps2 : List (Int × Int)), lswOk pcs pc ps ts ps2 = true → ∃ q, gl pcs (luk ps ts td x) = some q ∧ (pc : Int) + Op.lookupswitch.offset ps2 d x = (q : Int) := by
  intro ps
  induction ps with
  | nil =>
    intro ts ps2 h
    cases ts with
    | cons _ _ => cases ps2 <;> cases h
    | nil => cases ps2 with
      | cons _ _ => cases h
      | nil => exact hd
  | cons a ps ih =>
    intro ts ps2 h
    cases ts with
    | nil => cases ps2 <;> cases h
    | cons t ts => cases ps2 with
      | nil => cases h
      | cons b ps2 =>
        obtain ⟨k, z⟩ := a
        obtain ⟨k2, off⟩ := b
        have h2 : (decide (k = k2) && (goesTo pcs [t] 0 pc off && lswOk pcs pc ps ts ps2)) = true := h
        rw [Bool.and_eq_true, Bool.and_eq_true] at h2
        obtain ⟨e1, e2, e3⟩ := h2
        have e1 := of_decide_eq_true e1
        subst e1
        obtain ⟨q, q1, q2⟩ := goTo_x e2
        by_cases hx : x = k
        · refine ⟨q, ?_, ?_⟩
          · show gl pcs (if x = k then t else luk ps ts td x) = _
            rw [if_pos hx]; exact q1
          · have : Op.lookupswitch.offset ((k, off) :: ps2) d x = off := by
              rw [Op.lookupswitch.offset]; simp [hx]
            rw [this]; exact q2
        · obtain ⟨q', r1, r2⟩ := ih ts ps2 e3
          refine ⟨q', ?_, ?_⟩
          · show gl pcs (if x = k then t else luk ps ts td x) = _
            rw [if_neg hx]; exact r1
          · have : Op.lookupswitch.offset ((k, off) :: ps2) d x = Op.lookupswitch.offset ps2 d x := by
              rw [Op.lookupswitch.offset, if_neg (fun e => hx (Eq.symm e))]
            rw [this]; exact r2
def nlT : Instr → Bool
  | .invokevirtual y => !Nat.beq y NM
  | .invokestatic y => !Nat.beq y NM
  | .invokespecial y => !Nat.beq y NM
  | _ => true
theorem nl_ok : PG.all (fun l => l.all (fun q => nlT q.2.1)) = true := by decide +kernel
theorem nl_of {y b : Nat} {q : Blk} (h : blkOf y b = some q) : nlT q.2.1 = true := by
  unfold blkOf at h
  split at h
  · next l hl =>
    rw [gl_get] at hl h
    exact all_of (all_of nl_ok (List.mem_of_getElem? hl)) (List.mem_of_getElem? h)
  · cases h
theorem pg_len : PG.length = NM + 1 := by decide +kernel
theorem run_none {X : Xs} {n d y b : Nat} {s : Fr} {r : Mm × Option AV} {P : Prop} (hy : NM < y) (h : run X n d y b s = some r) : P := by
  cases n with
  | zero => cases h
  | succ n =>
    have h2 : stp X (run X n) d y b s = some r := h
    unfold stp blkOf at h2
    rw [gl_none_of (by rw [pg_len]; omega)] at h2
    cases h2
theorem call_x {o y2 idx : Nat} {v : Bool} (h : callOk o y2 idx v = true) : ∃ kd, mthT o idx = some (y2, kd) := by
  unfold callOk at h
  split at h
  · next y3 kd hm =>
    rw [Bool.and_eq_true] at h
    exact ⟨kd, by rw [hm, Nat.eq_of_beq_eq_true h.1]⟩
  · cases h
theorem arc_w : Cond.native arraycopyName ∈ gT ∧ Cond.static arraycopyName ∈ gT ∧ Cond.initialized "java/lang/System" ∈ gT :=
  ⟨in_gT (at_tb (i := 1058) (by decide +kernel)) rfl, in_gT (at_tb (i := 1057) (by decide +kernel)) rfl, in_gT (at_tb (i := 20) (by decide +kernel)) rfl⟩
section BODY
variable {p : Program} {l : Launch} {e : Env} {R : Room} {s : State} {m : MethodId} {args : Array Value} {below : List Frame} {meth : Method} {c : Code} {H : Heap} {locs : List Loc} {cells slots : Nat} {Q : State → Prop} {g : GP} {X : Xs} {y k0 z0 : Nat} {pc : Nat} {ls : Array Slot} {L : List (Option AV)} {S : List AV} {M : Mm}
/-- a jump that is decided -/
theorem o_if {cd : ClassFile.Cond} {off : Int} {x : Int} {rest : List Value} (hx : p.tables.exec = Jvm.exec) (hb : c.code = yc y) (hd : decode (yc y) pc = .ok (.ifCond cd off, 3)) (hxi : inI x) {q1 q2 : Nat} (h1 : (pc : Int) + off = (q1 : Int)) (h2 : (pc : Int) + 3 = (q2 : Int))
    (k1 : cnd cd x 0 = true → W p l e R s m args below meth c H locs cells slots Q (F0 m q1 ls rest)) (k2 : ¬ cnd cd x 0 = true → W p l e R s m args below meth c H locs cells slots Q (F0 m q2 ls rest)) : W p l e R s m args below meth c H locs cells slots Q (F0 m pc ls (.int (Int32.ofInt x) :: rest)) := by
  have e2 : q2 = pc + 3 := by omega
  subst e2
  have z0 : (0 : Int32) = Int32.ofInt 0 := rfl
  have elt := i_lt hxi in0
  have egt := i_lt in0 hxi
  have ele := i_le hxi in0
  have ege := i_le in0 hxi
  have eeq := i_eq hxi in0
  rw [← z0] at elt egt ele ege eeq
  cases cd with
  | eq => exact lv_if_eq hx hb hd h1 (fun z => k1 (by simp only [cnd, decide_eq_true_eq]; exact eeq.mp z)) (fun z => k2 (by simp only [cnd, decide_eq_true_eq]; exact fun w => z (eeq.mpr w)))
  | ne => exact lv_if_ne hx hb hd h1 (fun z => k1 (by simp only [cnd, Bool.not_eq_true', decide_eq_false_iff_not]; exact fun w => z (eeq.mpr w))) (fun z => k2 (by simp only [cnd, Bool.not_eq_true', decide_eq_false_iff_not]; exact fun w => w (eeq.mp z)))
  | lt => exact lv_if_lt hx hb hd h1 (fun z => k1 (by simp only [cnd, decide_eq_true_eq]; exact elt.mp z)) (fun z => k2 (by simp only [cnd, decide_eq_true_eq]; exact fun w => z (elt.mpr w)))
  | ge => exact lv_if_ge hx hb hd h1 (fun z => k1 (by simp only [cnd, decide_eq_true_eq]; exact ege.mp z)) (fun z => k2 (by simp only [cnd, decide_eq_true_eq]; exact fun w => z (ege.mpr w)))
  | gt => exact lv_if_gt hx hb hd h1 (fun z => k1 (by simp only [cnd, decide_eq_true_eq]; exact egt.mp z)) (fun z => k2 (by simp only [cnd, decide_eq_true_eq]; exact fun w => z (egt.mpr w)))
  | le => exact lv_if_le hx hb hd h1 (fun z => k1 (by simp only [cnd, decide_eq_true_eq]; exact ele.mp z)) (fun z => k2 (by simp only [cnd, decide_eq_true_eq]; exact fun w => z (ele.mpr w)))
theorem o_ic {cd : ClassFile.Cond} {off : Int} {x u : Int} {rest : List Value} (hx : p.tables.exec = Jvm.exec) (hb : c.code = yc y) (hd : decode (yc y) pc = .ok (.if_icmp cd off, 3)) (hxi : inI x) (hui : inI u) {q1 q2 : Nat} (h1 : (pc : Int) + off = (q1 : Int)) (h2 : (pc : Int) + 3 = (q2 : Int))
    (k1 : cnd cd x u = true → W p l e R s m args below meth c H locs cells slots Q (F0 m q1 ls rest)) (k2 : ¬ cnd cd x u = true → W p l e R s m args below meth c H locs cells slots Q (F0 m q2 ls rest)) : W p l e R s m args below meth c H locs cells slots Q (F0 m pc ls (.int (Int32.ofInt u) :: .int (Int32.ofInt x) :: rest)) := by
  have e2 : q2 = pc + 3 := by omega
  subst e2
  have elt := i_lt hxi hui
  have egt := i_lt hui hxi
  have ele := i_le hxi hui
  have ege := i_le hui hxi
  have eeq := i_eq hxi hui
  cases cd with
  | eq => exact lv_icmp_eq hx hb hd h1 (fun z => k1 (by simp only [cnd, decide_eq_true_eq]; exact eeq.mp z)) (fun z => k2 (by simp only [cnd, decide_eq_true_eq]; exact fun w => z (eeq.mpr w)))
  | ne => exact lv_icmp_ne hx hb hd h1 (fun z => k1 (by simp only [cnd, Bool.not_eq_true', decide_eq_false_iff_not]; exact fun w => z (eeq.mpr w))) (fun z => k2 (by simp only [cnd, Bool.not_eq_true', decide_eq_false_iff_not]; exact fun w => w (eeq.mp z)))
  | lt => exact lv_icmp_lt hx hb hd h1 (fun z => k1 (by simp only [cnd, decide_eq_true_eq]; exact elt.mp z)) (fun z => k2 (by simp only [cnd, decide_eq_true_eq]; exact fun w => z (elt.mpr w)))
  | ge => exact lv_icmp_ge hx hb hd h1 (fun z => k1 (by simp only [cnd, decide_eq_true_eq]; exact ege.mp z)) (fun z => k2 (by simp only [cnd, decide_eq_true_eq]; exact fun w => z (ege.mpr w)))
  | gt => exact lv_icmp_gt hx hb hd h1 (fun z => k1 (by simp only [cnd, decide_eq_true_eq]; exact egt.mp z)) (fun z => k2 (by simp only [cnd, decide_eq_true_eq]; exact fun w => z (egt.mpr w)))
  | le => exact lv_icmp_le hx hb hd h1 (fun z => k1 (by simp only [cnd, decide_eq_true_eq]; exact ele.mp z)) (fun z => k2 (by simp only [cnd, decide_eq_true_eq]; exact fun w => z (ele.mpr w)))
set_option maxRecDepth 20000 in
set_option maxHeartbeats 8000000 in
theorem trm_snd {n d : Nat} {t i : Instr} {tg : List Nat} {len : Nat} {M2 : Mm} {r : Option AV} (ih : BodyOK l g X n) (hcl : nlT t = true) (h : trm X (run X n) d y t tg L S M = some (M2, r)) (hy : y ≤ NM) (hd : decode (yc y) pc = .ok (i, len)) (hok : trOk (yo y) y (pcs y) pc t tg i len = true)
    (C : CTX g X y p s m args meth c) (hr : lrel g L ls) (hL : L.length = ml y) (wL : wfL L) (wS : wfS S) (I : INV g s k0 z0 M H locs cells slots) (rc : M2.2.2.length ≤ k0 + R.cells) (rs : ksz M2.2.2 ≤ z0 + R.slots) (rf : d + 1 ≤ R.frames) (rl : 64 * (d + 1) ≤ R.locals)
    (hret : ∀ (pc2 : Nat) (ls2 : Array Slot) (H2 : Heap) (locs2 : List Loc) (cells2 slots2 : Nat) (i : Instr), decode (yc y) pc2 = .ok (i, 1) → retI (rty y) i → ROk (rty y) r → wfO r → INV g s k0 z0 M2 H2 locs2 cells2 slots2 → W p l e R s m args below meth c H2 locs2 cells2 slots2 Q (F0 m pc2 ls2 ((r.map (vv g)).toList))) :
    W p l e R s m args below meth c H locs cells slots Q (F0 m pc ls (S.map (vv g))) := by
  have hx := C.1
  have hb := C.2.1
  have hE := C.2.2.2.2.2.2.1
  have hXX := C.2.2.2.2.2.2.2.2
  have hs : ls.size = ml y := by rw [hr.1, hL]
  have hP := I.1
  have hD := I.2.1
  have hS := I.2.2.1
  have hw := I.2.2.2.1
  have go : ∀ {b q : Nat} {L2 : List (Option AV)} {S2 : List AV} {M3 : Mm} {H3 : Heap} {locs3 : List Loc} {ls3 : Array Slot} {cells3 slots3 : Nat}, run X n d y b (L2, S2, M3) = some (M2, r) → gl (pcs y) b = some q → lrel g L2 ls3 → L2.length = ml y → wfL L2 → wfS S2 → INV g s k0 z0 M3 H3 locs3 cells3 slots3 → W p l e R s m args below meth c H3 locs3 cells3 slots3 Q (F0 m q ls3 (S2.map (vv g))) :=
    fun h1 h2 h3 h4 h5 h6 h7 => ih d y _ _ _ _ M2 r h1 hy _ h2 C h3 h4 h5 h6 h7 rc rs rf rl hret
  have invU : ∀ {id nn ka : Nat} {k : Nat} {v : Int} {H3 : Heap} {locs3 : List Loc}, gl M.2.2 id = some (ka, nn) → (ka = 100 ∨ ka = 102 ∨ ka = 103) → inI v → va_P (gD g) vwCl ((wld g M).set id (g.1 + id, ent g (up M.1 id k v, M.2.1, M.2.2) id (ka, nn))) H3 → va_S (Afn g) s.heap H3 locs3 → INV g s k0 z0 (up M.1 id k v, M.2.1, M.2.2) H3 locs3 cells slots :=
    fun h1 h2 h3 h4 h5 => inv_set (M2 := (up M.1 _ _ _, M.2.1, M.2.2)) I h1 rfl (fun i k hi => up_off k hi) rfl (wfM_up2 hw h1 h2 h3) h4 h5
  unfold trm at h
  split at h
  · unfold trOk at hok
    dsimp only at hok
    split at hok
    · rw [Bool.and_eq_true] at hok
      obtain ⟨q, q1, q2⟩ := goTo_x hok.2
      have := Nat.eq_of_beq_eq_true hok.1
      subst this
      exact lv_goto hx hb hd q2 (go h q1 hr hL wL wS I)
    · cases hok
  · unfold trOk at hok
    dsimp only at hok
    cases hok
  · split at h
    · unfold trOk at hok
      dsimp only at hok
      split at hok
      · rw [Bool.and_eq_true, Bool.and_eq_true, Bool.and_eq_true] at hok
        obtain ⟨⟨e1, e2⟩, e3, e4⟩ := hok
        have e1 := Nat.eq_of_beq_eq_true e1
        have e2 := of_decide_eq_true e2
        subst e1; subst e2
        obtain ⟨q, q1, q2⟩ := goTo_x e3
        obtain ⟨r2, r3, r4⟩ := goTo_x e4
        have w1 := wfS_c wS
        exact o_if hx hb hd w1.1 q2 r4 (fun z => by rw [if_pos z] at h; exact go h q1 hr hL wL w1.2 I) (fun z => by rw [if_neg z] at h; exact go h r3 hr hL wL w1.2 I)
      · cases hok
    · cases h
  · split at h
    · unfold trOk at hok
      dsimp only at hok
      split at hok
      · rw [Bool.and_eq_true, Bool.and_eq_true, Bool.and_eq_true] at hok
        obtain ⟨⟨e1, e2⟩, e3, e4⟩ := hok
        have e1 := Nat.eq_of_beq_eq_true e1
        have e2 := of_decide_eq_true e2
        subst e1; subst e2
        obtain ⟨q, q1, q2⟩ := goTo_x e3
        obtain ⟨r2, r3, r4⟩ := goTo_x e4
        have w1 := wfS_c wS
        have w2 := wfS_c w1.2
        exact o_ic hx hb hd w2.1 w1.1 q2 r4 (fun z => by rw [if_pos z] at h; exact go h q1 hr hL wL w2.2 I) (fun z => by rw [if_neg z] at h; exact go h r3 hr hL wL w2.2 I)
      · cases hok
    · cases h
  · rename_i lo9 hi9 os9
    split at h
    · next x S1 =>
      unfold trOk at hok
      dsimp only at hok
      split at hok
      · next dd lo2 hi2 offs =>
        rw [Bool.and_eq_true, Bool.and_eq_true, Bool.and_eq_true, decide_eq_true_eq, decide_eq_true_eq] at hok
        obtain ⟨⟨e1, e2⟩, e3, e4⟩ := hok
        rw [← e1, ← e2] at hd
        have w1 := wfS_c wS
        by_cases hout : x < lo9 ∨ hi9 < x
        · rw [if_pos hout] at h
          obtain ⟨q, q1, q2⟩ := goTo_x e3
          exact lv_tableOut hx hb hd (by rw [i_toInt w1.1]; exact hout) q2 (go h q1 hr hL wL w1.2 I)
        · rw [if_neg hout] at h
          have e5 := all_of e4 (a := (x - lo9).toNat) (List.mem_range.mpr (by omega))
          split at e5
          · next off ho =>
            obtain ⟨q, q1, q2⟩ := goTo_x e5
            exact lv_tableIn hx hb hd (by rw [i_toInt w1.1]; omega) (by rw [i_toInt w1.1]; omega) (by rw [i_toInt w1.1]; exact ho) q2 (go h q1 hr hL wL w1.2 I)
          · cases e5
      · cases hok
    · cases h
  · split at h
    · next x S1 =>
      unfold trOk at hok
      dsimp only at hok
      split at hok
      · next dd ps2 =>
        rw [Bool.and_eq_true, Bool.and_eq_true] at hok
        obtain ⟨e3, e4, e5⟩ := hok
        have w1 := wfS_c wS
        obtain ⟨q, q1, q2⟩ := luk_x (pcs := pcs y) x dd (tb tg 0) (goTo_x e3) _ _ _ e4
        refine lv_lookup hx hb hd (by simpa using e5) rfl ?_ (go h q1 hr hL wL w1.2 I)
        rw [i_toInt w1.1]; exact q2
      · cases hok
    · cases h
  · split at h
    · cases h
      unfold trOk at hok
      dsimp only at hok
      rw [Bool.and_eq_true, Bool.and_eq_true, decide_eq_true_eq] at hok
      obtain ⟨e1, e2, e3⟩ := hok
      have e1 := Nat.eq_of_beq_eq_true e1
      have e2 := Nat.eq_of_beq_eq_true e2
      subst e2; subst e3
      exact hret _ _ _ _ _ _ _ hd (by rw [e1]; rfl) (by rw [e1]; exact trivial) (fun v hv => by cases hv; exact (wfS_c wS).1) I
    · cases h
  · split at h
    · next x =>
      split at h
      · next hb1 =>
        cases h
        unfold trOk at hok
        dsimp only at hok
        rw [Bool.and_eq_true, Bool.and_eq_true, decide_eq_true_eq] at hok
        obtain ⟨e1, e2, e3⟩ := hok
        have e1 := Nat.eq_of_beq_eq_true e1
        have e2 := Nat.eq_of_beq_eq_true e2
        subst e2; subst e3
        have hx01 : x = 0 ∨ x = 1 := by
          unfold isB at hb1
          rw [Bool.or_eq_true] at hb1
          exact hb1.imp (fun z => eq_of_beq z) (fun z => eq_of_beq z)
        exact hret _ _ _ _ _ _ _ hd (by rw [e1]; rfl) (by rw [e1]; exact hx01) (fun v hv => by cases hv; exact (wfS_c wS).1) I
      · cases h
    · cases h
  · split at h
    · next x =>
      split at h
      · next hb1 =>
        cases h
        unfold trOk at hok
        dsimp only at hok
        rw [Bool.and_eq_true, Bool.and_eq_true, decide_eq_true_eq] at hok
        obtain ⟨e1, e2, e3⟩ := hok
        have e1 := Nat.eq_of_beq_eq_true e1
        have e2 := Nat.eq_of_beq_eq_true e2
        subst e2; subst e3
        exact hret _ _ _ _ _ _ _ hd (by rw [e1]; rfl) (by rw [e1]; exact hb1) (fun v hv => by cases hv; exact (wfS_c wS).1) I
      · cases h
    · cases h
  · split at h
    · cases h
      unfold trOk at hok
      dsimp only at hok
      rw [Bool.and_eq_true, Bool.and_eq_true, decide_eq_true_eq] at hok
      obtain ⟨e1, e2, e3⟩ := hok
      have e1 := Nat.eq_of_beq_eq_true e1
      have e2 := Nat.eq_of_beq_eq_true e2
      subst e2; subst e3
      exact hret _ _ _ _ _ _ _ hd (by rw [e1]; rfl) (by rw [e1]; exact trivial) (fun v hv => by cases hv; exact (wfS_c wS).1) I
    · cases h
  · split at h
    · cases h
      unfold trOk at hok
      dsimp only at hok
      rw [Bool.and_eq_true, Bool.and_eq_true, decide_eq_true_eq] at hok
      obtain ⟨e1, e2, e3⟩ := hok
      have e1 := Nat.eq_of_beq_eq_true e1
      have e2 := Nat.eq_of_beq_eq_true e2
      subst e2; subst e3
      exact hret _ _ _ _ _ _ _ hd (by rw [e1]; rfl) (by rw [e1]; exact trivial) (fun v hv => by cases hv; exact (wfS_c wS).1) I
    · cases h
  · split at h
    · cases h
      unfold trOk at hok
      dsimp only at hok
      rw [Bool.and_eq_true, Bool.and_eq_true, decide_eq_true_eq] at hok
      obtain ⟨e1, e2, e3⟩ := hok
      have e1 := Nat.eq_of_beq_eq_true e1
      have e2 := Nat.eq_of_beq_eq_true e2
      subst e2; subst e3
      exact hret _ _ _ _ _ _ _ hd (by rw [e1]; rfl) (by rw [e1]; exact trivial) (fun v hv => by cases hv) I
    · cases h
  · split at h
    · next ii a S1 =>
      split at h
      · next ha =>
        obtain ⟨id, nn, rfl, hk, i0, i1⟩ := aidx_x ha
        unfold trOk at hok
        dsimp only at hok
        rw [Bool.and_eq_true, Bool.and_eq_true, decide_eq_true_eq] at hok
        obtain ⟨⟨e1, e2⟩, e3⟩ := hok
        have e1 := Nat.eq_of_beq_eq_true e1
        subst e1; subst e3
        obtain ⟨q, q1, q2⟩ := goTo_x e2
        have q2 : q = pc + 1 := by omega
        subst q2
        have w1 := wfS_c wS
        have hat := wld_at (g := g) hk
        rw [ent_int] at hat
        refine va_iald hx hb hE.1 hP id 0 hat rfl (vpin w1.1 i0 i1) hd ?_
        have hrng := ((hw id _ hk).2 ii.toNat)
        have kk := go h q1 hr hL wL (wfS_i (v := .inl (M.1 id ii.toNat)) (hrng.2 (by unfold cellL; dsimp only; omega)) (wfS_c w1.2).2) I
        try dsimp only
        rw [i_cl w1.1]
        exact kk
      · cases h
    · cases h
  · split at h
    · next ii a S1 =>
      split at h
      · next ha =>
        obtain ⟨id, nn, rfl, hk, i0, i1⟩ := aidx_x ha
        unfold trOk at hok
        dsimp only at hok
        rw [Bool.and_eq_true, Bool.and_eq_true, decide_eq_true_eq] at hok
        obtain ⟨⟨e1, e2⟩, e3⟩ := hok
        have e1 := Nat.eq_of_beq_eq_true e1
        subst e1; subst e3
        obtain ⟨q, q1, q2⟩ := goTo_x e2
        have q2 : q = pc + 1 := by omega
        subst q2
        have w1 := wfS_c wS
        have hat := wld_at (g := g) hk
        rw [ent_long] at hat
        refine va_lald hx hb hE.1 hP id 1 hat rfl (vpin w1.1 i0 i1) hd ?_
        have hrng := ((hw id _ hk).2 ii.toNat)
        have kk := go h q1 hr hL wL (wfS_i (v := .inr (.inl (M.1 id ii.toNat))) (hrng.1 (Or.inl rfl)) (wfS_c w1.2).2) I
        try dsimp only
        rw [i_cl w1.1]
        exact kk
      · cases h
    · cases h
  · split at h
    · next ii a S1 =>
      split at h
      · next ha =>
        obtain ⟨id, nn, rfl, hk, i0, i1⟩ := aidx_x ha
        unfold trOk at hok
        dsimp only at hok
        rw [Bool.and_eq_true, Bool.and_eq_true, decide_eq_true_eq] at hok
        obtain ⟨⟨e1, e2⟩, e3⟩ := hok
        have e1 := Nat.eq_of_beq_eq_true e1
        subst e1; subst e3
        obtain ⟨q, q1, q2⟩ := goTo_x e2
        have q2 : q = pc + 1 := by omega
        subst q2
        have w1 := wfS_c wS
        have hat := wld_at (g := g) hk
        rw [ent_short] at hat
        refine va_sald hx hb hE.1 hP id 2 hat rfl (vpin w1.1 i0 i1) hd ?_
        have hrng := ((hw id _ hk).2 ii.toNat)
        have kk := go h q1 hr hL wL (wfS_i (v := .inl (M.1 id ii.toNat)) (hrng.2 (by unfold cellL; dsimp only; omega)) (wfS_c w1.2).2) I
        try dsimp only
        rw [i_cl w1.1]
        exact kk
      · cases h
    · cases h
  · split at h
    · next ii a S1 =>
      split at h
      · next v hv =>
        split at h
        · next hc =>
          unfold trOk at hok
          dsimp only at hok
          rw [Bool.and_eq_true, Bool.and_eq_true, decide_eq_true_eq] at hok
          obtain ⟨⟨e1, e2⟩, e3⟩ := hok
          have e1 := Nat.eq_of_beq_eq_true e1
          subst e1; subst e3
          obtain ⟨q, q1, q2⟩ := goTo_x e2
          have q2 : q = pc + 1 := by omega
          subst q2
          have w1 := wfS_c wS
          have hj : a - 40 < 13 := by
            rcases Nat.lt_or_ge (a - 40) 13 with z | z
            · exact z
            · have : SBY.getD (a - 40) [] = [] := by rw [List.getD_eq_getElem?_getD, List.getElem?_eq_none (by exact z)]; rfl
              rw [this] at hv; cases hv
          obtain ⟨l3, f1, f2, f3, f4, f5⟩ := sby_all (a - 40) hj
          obtain ⟨-, -, -, hT⟩ := hE.2.2.2.1.1 (a - 40) hj
          have hl3 : SBY.getD (a - 40) [] = l3 := by rw [List.getD_eq_getElem?_getD, ← gl_get, f1]; rfl
          rw [hl3] at hv
          dsimp only at hT
          rw [f2, f3, show 40 + (a - 40) = a by omega] at hT
          have hlt := gl_lt hv
          have hvin : inI v := by
            have := all_of f5 (a := v) (by rw [gl_get] at hv; exact List.mem_of_getElem? hv)
            rw [Bool.and_eq_true, decide_eq_true_eq, decide_eq_true_eq] at this
            unfold inI; omega
          have ex9 : vv g (.inr (.inr (.inr a))) = .ref (g.2.1 a) := xv_ref g (by omega)
          rw [List.map_cons, List.map_cons, ex9]
          refine va_tb (i := Int32.ofInt ii) hx hb hT hS (vpin w1.1 hc.2 (by omega)) (v := .int (Int32.ofInt v)) ?_ hd (go h q1 hr hL wL (wfS_i (v := .inl v) hvin (wfS_c w1.2).2) I)
          rw [i_cl w1.1, List.getD_eq_getElem?_getD, List.getElem?_map, ← gl_get, hv]; rfl
        · cases h
      · cases h
    · next ii a S1 =>
      split at h
      · next ha =>
        obtain ⟨id, nn, rfl, hk, i0, i1⟩ := aidx_x ha
        unfold trOk at hok
        dsimp only at hok
        rw [Bool.and_eq_true, Bool.and_eq_true, decide_eq_true_eq] at hok
        obtain ⟨⟨e1, e2⟩, e3⟩ := hok
        have e1 := Nat.eq_of_beq_eq_true e1
        subst e1; subst e3
        obtain ⟨q, q1, q2⟩ := goTo_x e2
        have q2 : q = pc + 1 := by omega
        subst q2
        have w1 := wfS_c wS
        have hat := wld_at (g := g) hk
        rw [ent_bool] at hat
        refine va_zald hx hb hE.1 hP id 3 hat rfl (vpin w1.1 i0 i1) hd ?_
        have hrng := ((hw id _ hk).2 ii.toNat)
        have kk := go h q1 hr hL wL (wfS_i (v := .inl (M.1 id ii.toNat)) (hrng.2 (by unfold cellL; dsimp only; omega)) (wfS_c w1.2).2) I
        try dsimp only
        rw [i_cl w1.1]
        exact kk
      · cases h
    · cases h
  · split at h
    · next ii S1 =>
      split at h
      · next hc =>
        unfold trOk at hok
        dsimp only at hok
        rw [Bool.and_eq_true, Bool.and_eq_true, decide_eq_true_eq] at hok
        obtain ⟨⟨e1, e2⟩, e3⟩ := hok
        have e1 := Nat.eq_of_beq_eq_true e1
        subst e1; subst e3
        obtain ⟨q, q1, q2⟩ := goTo_x e2
        have q2 : q = pc + 1 := by omega
        subst q2
        have w1 := wfS_c wS
        have hX3 := hE.2.2.2.2.2.2
        refine va_sld hx hb hX3.1 hX3.2.1 (Nat.not_le.mpr hX3.2.2) hS (vpin w1.1 hc.1 hc.2) hd ?_
        have kk := go h q1 hr hL wL (wfS_i (v := .inl (X.2 ii.toNat)) (hXX.2 _) (wfS_c w1.2).2) I
        try dsimp only
        rw [i_cl w1.1]
        exact kk
      · cases h
    · cases h
  · split at h
    · next v ii a S1 =>
      split at h
      · next ha =>
        obtain ⟨id, nn, rfl, hk, i0, i1⟩ := aidx_x ha
        unfold trOk at hok
        dsimp only at hok
        rw [Bool.and_eq_true, Bool.and_eq_true, decide_eq_true_eq] at hok
        obtain ⟨⟨e1, e2⟩, e3⟩ := hok
        have e1 := Nat.eq_of_beq_eq_true e1
        subst e1; subst e3
        obtain ⟨q, q1, q2⟩ := goTo_x e2
        have q2 : q = pc + 1 := by omega
        subst q2
        have w1 := wfS_c wS
        have w2 := wfS_c w1.2
        have hat := wld_at (g := g) hk
        rw [ent_int] at hat
        refine va_iast hx hb hE.1 hP hD hS id 0 hat rfl (vpin w2.1 i0 i1) hd (fun H1 locs1 g1 g2 g3 => ?_)
        refine go h q1 hr hL wL (wfS_c w2.2).2 ?_
        refine invU hk (by omega) w1.1 ?_ g3
        rw [ent_int]
        have ef : (fun z => Int32.ofInt (up M.1 id ii.toNat v id z)) = upd (fun z => Int32.ofInt (M.1 id z)) (Int32.ofInt ii).toNatClampNeg (Int32.ofInt v) := by
          funext z
          unfold upd
          rw [i_cl w2.1, up_on]
          by_cases hz : z = ii.toNat
          · rw [if_pos hz, if_pos hz]
          · rw [if_neg hz, if_neg hz]
        have g1' := g1
        rw [← ef] at g1'
        exact g1'
      · cases h
    · cases h
  · split at h
    · next v ii a S1 =>
      split at h
      · next ha =>
        obtain ⟨id, nn, rfl, hk, i0, i1⟩ := aidx_x ha
        unfold trOk at hok
        dsimp only at hok
        rw [Bool.and_eq_true, Bool.and_eq_true, decide_eq_true_eq] at hok
        obtain ⟨⟨e1, e2⟩, e3⟩ := hok
        have e1 := Nat.eq_of_beq_eq_true e1
        subst e1; subst e3
        obtain ⟨q, q1, q2⟩ := goTo_x e2
        have q2 : q = pc + 1 := by omega
        subst q2
        have w1 := wfS_c wS
        have w2 := wfS_c w1.2
        have hat := wld_at (g := g) hk
        rw [ent_long] at hat
        refine va_last hx hb hE.1 hP hD hS id 1 hat rfl (vpin w2.1 i0 i1) hd (fun H1 locs1 g1 g2 g3 => ?_)
        refine go h q1 hr hL wL (wfS_c w2.2).2 ?_
        refine inv_set (M2 := (up M.1 id ii.toNat v, M.2.1, M.2.2)) I hk rfl (fun i k hi => up_off k hi) rfl (wfM_up hw hk ⟨fun _ => w1.1, fun z => absurd (Or.inl rfl) z⟩) ?_ g3
        rw [ent_long]
        have ef : (fun z => Int64.ofInt (up M.1 id ii.toNat v id z)) = vp_updL (fun z => Int64.ofInt (M.1 id z)) (Int32.ofInt ii).toNatClampNeg (Int64.ofInt v) := by
          funext z
          unfold vp_updL
          rw [i_cl w2.1, up_on]
          by_cases hz : z = ii.toNat
          · rw [if_pos hz, if_pos hz]
          · rw [if_neg hz, if_neg hz]
        have g1' := g1
        rw [← ef] at g1'
        exact g1'
      · cases h
    · cases h
  · split at h
    · next v ii a S1 =>
      split at h
      · next ha =>
        obtain ⟨id, nn, rfl, hk, i0, i1⟩ := aidx_x ha
        unfold trOk at hok
        dsimp only at hok
        rw [Bool.and_eq_true, Bool.and_eq_true, decide_eq_true_eq] at hok
        obtain ⟨⟨e1, e2⟩, e3⟩ := hok
        have e1 := Nat.eq_of_beq_eq_true e1
        subst e1; subst e3
        obtain ⟨q, q1, q2⟩ := goTo_x e2
        have q2 : q = pc + 1 := by omega
        subst q2
        have w1 := wfS_c wS
        have w2 := wfS_c w1.2
        have hat := wld_at (g := g) hk
        rw [ent_short] at hat
        refine va_sast hx hb hE.1 hP hD hS id 2 hat rfl (vpin w2.1 i0 i1) hd (fun H1 locs1 g1 g2 g3 => ?_)
        refine go h q1 hr hL wL (wfS_c w2.2).2 ?_
        refine invU hk (by omega) (w16_in v) ?_ g3
        rw [ent_short]
        have ef : (fun z => Int32.ofInt (up M.1 id ii.toNat (w16 v) id z)) = upd (fun z => Int32.ofInt (M.1 id z)) (Int32.ofInt ii).toNatClampNeg (vp_nar .short (Int32.ofInt v)) := by
          funext z
          unfold upd
          rw [i_cl w2.1, up_on]
          by_cases hz : z = ii.toNat
          · rw [if_pos hz, if_pos hz]; rw [vp_nar_short, i_i16]
          · rw [if_neg hz, if_neg hz]
        have g1' := g1
        rw [← ef] at g1'
        exact g1'
      · cases h
    · cases h
  · split at h
    · next v ii a S1 =>
      split at h
      · next ha =>
        obtain ⟨ha, hbv⟩ := ha
        obtain ⟨id, nn, rfl, hk, i0, i1⟩ := aidx_x ha
        unfold trOk at hok
        dsimp only at hok
        rw [Bool.and_eq_true, Bool.and_eq_true, decide_eq_true_eq] at hok
        obtain ⟨⟨e1, e2⟩, e3⟩ := hok
        have e1 := Nat.eq_of_beq_eq_true e1
        subst e1; subst e3
        obtain ⟨q, q1, q2⟩ := goTo_x e2
        have q2 : q = pc + 1 := by omega
        subst q2
        have w1 := wfS_c wS
        have w2 := wfS_c w1.2
        have hat := wld_at (g := g) hk
        rw [ent_bool] at hat
        refine va_zast hx hb hE.1 hP hD hS id 3 hat rfl (vpin w2.1 i0 i1) hd (fun H1 locs1 g1 g2 g3 => ?_)
        refine go h q1 hr hL wL (wfS_c w2.2).2 ?_
        have hx01 : v = 0 ∨ v = 1 := by
          unfold isB at hbv
          rw [Bool.or_eq_true] at hbv
          exact hbv.imp (fun z => eq_of_beq z) (fun z => eq_of_beq z)
        refine invU hk (by omega) w1.1 ?_ g3
        rw [ent_bool]
        have ef : (fun z => Int32.ofInt (up M.1 id ii.toNat v id z)) = upd (fun z => Int32.ofInt (M.1 id z)) (Int32.ofInt ii).toNatClampNeg (vp_nar .boolean (Int32.ofInt v)) := by
          funext z
          unfold upd
          rw [i_cl w2.1, up_on]
          by_cases hz : z = ii.toNat
          · rw [if_pos hz, if_pos hz]; rcases hx01 with rfl | rfl <;> rfl
          · rw [if_neg hz, if_neg hz]
        have g1' := g1
        rw [← ef] at g1'
        exact g1'
      · cases h
    · cases h
  · split at h
    · next a S1 =>
      split at h
      · next v hv =>
        obtain ⟨id, q9, rfl, hk, hk1, rfl⟩ := alen_x hv
        unfold trOk at hok
        dsimp only at hok
        rw [Bool.and_eq_true, Bool.and_eq_true, decide_eq_true_eq] at hok
        obtain ⟨⟨e1, e2⟩, e3⟩ := hok
        have e1 := Nat.eq_of_beq_eq_true e1
        subst e1; subst e3
        obtain ⟨q, q1, q2⟩ := goTo_x e2
        have q2 : q = pc + 1 := by omega
        subst q2
        have w1 := wfS_c wS
        have hat := wld_at (g := g) hk
        have hw9 := (hw id q9 hk).1
        have hin : inI (q9.2 : Int) := ⟨by omega, by omega⟩
        have kk := go h q1 hr hL wL (wfS_i (v := .inl (q9.2 : Int)) hin w1.2) I
        have hkd : q9.1 = 100 ∨ q9.1 = 101 ∨ q9.1 = 102 ∨ q9.1 = 103 := by omega
        obtain ⟨qk, qn⟩ := q9
        dsimp only at hkd hat kk
        rcases hkd with rfl | rfl | rfl | rfl
        · rw [ent_int] at hat; exact va_alen hx hb hE.1 hP id 0 hat rfl (i_ofNat _) hd kk
        · rw [ent_long] at hat; exact va_alen hx hb hE.1 hP id 1 hat rfl (i_ofNat _) hd kk
        · rw [ent_short] at hat; exact va_alen hx hb hE.1 hP id 2 hat rfl (i_ofNat _) hd kk
        · rw [ent_bool] at hat; exact va_alen hx hb hE.1 hP id 3 hat rfl (i_ofNat _) hd kk
      · cases h
    · cases h
  · split at h
    · split at h
      · cases h
      · next hne =>
        unfold trOk at hok
        dsimp only at hok
        rw [Bool.and_eq_true, Bool.and_eq_true, decide_eq_true_eq] at hok
        obtain ⟨⟨e1, e2⟩, e3⟩ := hok
        have e1 := Nat.eq_of_beq_eq_true e1
        subst e1; subst e3
        obtain ⟨q, q1, q2⟩ := goTo_x e2
        have q2 : q = pc + 1 := by omega
        subst q2
        have w1 := wfS_c wS
        have w2 := wfS_c w1.2
        refine lv_idiv hx hb hd (fun z => hne ((i_eq w1.1 in0).mp z)) ?_
        rw [i_div w2.1 w1.1]
        exact go h q1 hr hL wL (wfS_i (v := .inl _) (w32_in _) w2.2) I
    · cases h
  · split at h
    · split at h
      · cases h
      · next hne =>
        unfold trOk at hok
        dsimp only at hok
        rw [Bool.and_eq_true, Bool.and_eq_true, decide_eq_true_eq] at hok
        obtain ⟨⟨e1, e2⟩, e3⟩ := hok
        have e1 := Nat.eq_of_beq_eq_true e1
        subst e1; subst e3
        obtain ⟨q, q1, q2⟩ := goTo_x e2
        have q2 : q = pc + 1 := by omega
        subst q2
        have w1 := wfS_c wS
        have w2 := wfS_c w1.2
        refine lv_irem hx hb hd (fun z => hne ((i_eq w1.1 in0).mp z)) ?_
        rw [i_rem w2.1 w1.1]
        exact go h q1 hr hL wL (wfS_i (v := .inl _) (tmod_in w2.1) w2.2) I
    · cases h
  · split at h
    · split at h
      · cases h
      · next hne =>
        unfold trOk at hok
        dsimp only at hok
        rw [Bool.and_eq_true, Bool.and_eq_true, decide_eq_true_eq] at hok
        obtain ⟨⟨e1, e2⟩, e3⟩ := hok
        have e1 := Nat.eq_of_beq_eq_true e1
        subst e1; subst e3
        obtain ⟨q, q1, q2⟩ := goTo_x e2
        have q2 : q = pc + 1 := by omega
        subst q2
        have w1 := wfS_c wS
        have w2 := wfS_c w1.2
        refine lv_ldiv hx hb hd (fun z => hne ((j_eq w1.1 (by unfold inJ; omega)).mp z)) ?_
        rw [j_div w2.1 w1.1]
        exact go h q1 hr hL wL (wfS_i (v := .inr (.inl _)) (w64_in _) w2.2) I
    · cases h
  · split at h
    · split at h
      · split at h
        · next hc =>
          unfold trOk at hok
          dsimp only at hok
          split at hok
          · next idx =>
            rw [Bool.and_eq_true, Bool.and_eq_true] at hok
            obtain ⟨⟨e1, e2⟩, e3⟩ := hok
            have e1 := Nat.eq_of_beq_eq_true e1
            subst e1
            obtain ⟨q, q1, q2⟩ := goTo_x e2
            have q2 : q = pc + 3 := by omega
            subst q2
            have w1 := wfS_c wS
            have w2 := wfS_c w1.2
            have hgr := (run_Gr X _ _ _ _ _ _ h).len
            dsimp only at hgr
            have hn1 := I.2.2.2.2.2.1
            have hn2 := I.2.2.2.2.2.2
            refine o_math (k := 1) (g := g) C hd e3 hs (by rw [cat_sum]; exact hc.2) (by omega) (by omega) (by omega) (by omega) (Or.inl ⟨rfl, _, _, rfl, rfl, w2.1, w1.1, rfl⟩) (go h q1 hr hL wL (wfS_i (v := .inl (max _ _)) (by have a1 := w1.1; have a2 := w2.1; show inI _; unfold wfV inI at *; omega) w2.2) I)
          · cases hok
        · cases h
      · cases h
    · split at h
      · split at h
        · next hc =>
          unfold trOk at hok
          dsimp only at hok
          split at hok
          · next idx =>
            rw [Bool.and_eq_true, Bool.and_eq_true] at hok
            obtain ⟨⟨e1, e2⟩, e3⟩ := hok
            have e1 := Nat.eq_of_beq_eq_true e1
            subst e1
            obtain ⟨q, q1, q2⟩ := goTo_x e2
            have q2 : q = pc + 3 := by omega
            subst q2
            have w1 := wfS_c wS
            have w2 := wfS_c w1.2
            have hgr := (run_Gr X _ _ _ _ _ _ h).len
            dsimp only at hgr
            have hn1 := I.2.2.2.2.2.1
            have hn2 := I.2.2.2.2.2.2
            refine o_math (k := 2) (g := g) C hd e3 hs (by rw [cat_sum]; exact hc.2) (by omega) (by omega) (by omega) (by omega) (Or.inr (Or.inl ⟨rfl, _, _, rfl, rfl, w2.1, w1.1, rfl⟩)) (go h q1 hr hL wL (wfS_i (v := .inl (min _ _)) (by have a1 := w1.1; have a2 := w2.1; show inI _; unfold wfV inI at *; omega) w2.2) I)
          · cases hok
        · cases h
      · cases h
    · split at h
      · split at h
        · next hc =>
          unfold trOk at hok
          dsimp only at hok
          split at hok
          · next idx =>
            rw [Bool.and_eq_true, Bool.and_eq_true] at hok
            obtain ⟨⟨e1, e2⟩, e3⟩ := hok
            have e1 := Nat.eq_of_beq_eq_true e1
            subst e1
            obtain ⟨q, q1, q2⟩ := goTo_x e2
            have q2 : q = pc + 3 := by omega
            subst q2
            have w1 := wfS_c wS
            have w2 := wfS_c w1.2
            have hgr := (run_Gr X _ _ _ _ _ _ h).len
            dsimp only at hgr
            have hn1 := I.2.2.2.2.2.1
            have hn2 := I.2.2.2.2.2.2
            refine o_math (k := 3) (g := g) C hd e3 hs (by rw [cat_sum]; exact hc.2) (by omega) (by omega) (by omega) (by omega) (Or.inr (Or.inr (Or.inl ⟨rfl, _, _, rfl, rfl, w2.1, w1.1, rfl⟩))) (go h q1 hr hL wL (wfS_i (v := .inr (.inl (max _ _))) (by have a1 := w1.1; have a2 := w2.1; show inJ _; unfold wfV inJ at *; omega) w2.2) I)
          · cases hok
        · cases h
      · cases h
    · split at h
      · split at h
        · next hc =>
          unfold trOk at hok
          dsimp only at hok
          split at hok
          · next idx =>
            rw [Bool.and_eq_true, Bool.and_eq_true] at hok
            obtain ⟨⟨e1, e2⟩, e3⟩ := hok
            have e1 := Nat.eq_of_beq_eq_true e1
            subst e1
            obtain ⟨q, q1, q2⟩ := goTo_x e2
            have q2 : q = pc + 3 := by omega
            subst q2
            have w1 := wfS_c wS
            have w2 := wfS_c w1.2
            have hgr := (run_Gr X _ _ _ _ _ _ h).len
            dsimp only at hgr
            have hn1 := I.2.2.2.2.2.1
            have hn2 := I.2.2.2.2.2.2
            refine o_math (k := 4) (g := g) C hd e3 hs (by rw [cat_sum]; exact hc.2) (by omega) (by omega) (by omega) (by omega) (Or.inr (Or.inr (Or.inr ⟨rfl, _, _, rfl, rfl, w2.1, w1.1, rfl⟩))) (go h q1 hr hL wL (wfS_i (v := .inr (.inl (min _ _))) (by have a1 := w1.1; have a2 := w2.1; show inJ _; unfold wfV inJ at *; omega) w2.2) I)
          · cases hok
        · cases h
      · cases h
    · split at h
      · next kk9 dp qq sp pp S1 =>
        split at h
        · next hc =>
          obtain ⟨c1, c2, c3, c4, c5, c6, c8, c9⟩ := hc
          unfold trOk at hok
          dsimp only at hok
          split at hok
          · next idx =>
            rw [Bool.and_eq_true, Bool.and_eq_true] at hok
            obtain ⟨⟨e1, e2⟩, e3⟩ := hok
            have e1 := Nat.eq_of_beq_eq_true e1
            subst e1
            obtain ⟨q, q1, q2⟩ := goTo_x e2
            have q2 : q = pc + 3 := by omega
            subst q2
            have w1 := wfS_c wS
            have w2 := wfS_c w1.2
            have w3 := wfS_c w2.2
            have w4 := wfS_c w3.2
            have w5 := wfS_c w4.2
            obtain ⟨id0, n0, rfl, hk0, i0, i1⟩ := aidx_x c8
            obtain ⟨id1, n1, rfl, hk1, j0, j1⟩ := aidx_x c9
            have hat0 := wld_at (g := g) hk0
            have hat1 := wld_at (g := g) hk1
            rw [ent_int] at hat0 hat1
            have rk : inI kk9 := w1.1
            have rdp : inI dp := w2.1
            have rsp : inI sp := w4.1
            have hml := C.2.2.1
            have hown := C.2.2.2.1
            have hts := C.2.2.2.2.1
            have z0 : (0 : Int32) = Int32.ofInt 0 := rfl
            refine va_copyi (a := g.1 + id1) (a0 := g.1 + id0) hx hb (by rw [hml, hs]) hown (hts _ (arcT_w e3)) (hts _ arc_w.1) (hts _ arc_w.2.1) (hts _ arc_w.2.2) hE.1 hP hD hS id0 id1 0 0 hat0 hat1 rfl rfl rfl (by rw [z0, i_lt rsp in0]; omega) (by rw [z0, i_lt rdp in0]; omega) (by rw [z0, i_lt rk in0]; omega) (by rw [i_cl rsp, i_cl rk]; omega) (by rw [i_cl rdp, i_cl rk]; omega) (fun _ _ => rfl) (by omega) ?_ hd (fun H1 locs1 g1 g2 g3 => ?_)
            · have h40 : nativeFrameWords "java/lang/System" "arraycopy" 5 + 11 ≤ 100 := by decide +kernel
              rw [cat_sum]
              omega
            · refine go h q1 hr hL wL w5.2 ?_
              rw [i_cl rsp, i_cl rdp, i_cl rk] at g1
              have hw3 : wfM (upR M.1 (id1 + 1 - 1) (cpy (M.1 (id0 + 1 - 1)) (M.1 (id1 + 1 - 1)) sp.toNat dp.toNat kk9.toNat), M.2.1, M.2.2) := by
                intro i9 r9 hr9
                refine ⟨(hw i9 r9 hr9).1, fun j9 => ?_⟩
                show (_ → inJ (upR M.1 id1 (cpy (M.1 id0) (M.1 id1) sp.toNat dp.toNat kk9.toNat) i9 j9)) ∧ (_ → inI (upR M.1 id1 (cpy (M.1 id0) (M.1 id1) sp.toNat dp.toNat kk9.toNat) i9 j9))
                unfold upR
                by_cases e9 : i9 = id1
                · subst e9
                  have hr9' : gl M.2.2 i9 = some r9 := hr9
                  rw [hk1] at hr9'; cases hr9'
                  rw [if_pos rfl]
                  refine ⟨fun z => by unfold cellL at z; dsimp only at z; omega, fun _ => ?_⟩
                  unfold cpy
                  split
                  · exact ((hw id0 _ hk0).2 _).2 (by unfold cellL; dsimp only; omega)
                  · exact ((hw i9 _ hk1).2 _).2 (by unfold cellL; dsimp only; omega)
                · rw [if_neg e9]; exact (hw i9 r9 hr9).2 j9
              refine inv_set (M2 := (upR M.1 (id1 + 1 - 1) (cpy (M.1 (id0 + 1 - 1)) (M.1 (id1 + 1 - 1)) sp.toNat dp.toNat kk9.toNat), M.2.1, M.2.2)) (id := id1) I hk1 rfl (fun i k hi => by show upR M.1 id1 _ i k = _; unfold upR; rw [if_neg hi]) rfl hw3 ?_ g3
              rw [ent_int]
              have ef : (fun z => Int32.ofInt (upR M.1 id1 (cpy (M.1 id0) (M.1 id1) sp.toNat dp.toNat kk9.toNat) id1 z)) = va_cpy (fun z => Int32.ofInt (M.1 id0 z)) (fun z => Int32.ofInt (M.1 id1 z)) sp.toNat dp.toNat kk9.toNat := by
                funext z
                unfold va_cpy upR cpy
                rw [if_pos rfl]
                split <;> rfl
              have g1' := g1
              rw [← ef] at g1'
              exact g1'
          · cases hok
        · cases h
      · cases h
    · cases h
  · rename_i y2
    split at h
    · cases h
    · next d1 =>
      split at h
      · next hc =>
        obtain ⟨c1, c2, c3, c4⟩ := hc
        split at h
        · next M1 r1 h1 =>
          have hy2 : y2 < NM := by
            rcases Nat.lt_or_ge y2 NM with z | z
            · exact z
            · exfalso
              have z2 : y2 ≠ NM := fun z3 => by
                have hcl : (!Nat.beq y2 NM) = true := hcl
                rw [z3] at hcl
                exact absurd hcl (by decide)
              exact run_none (by omega) h1
          unfold trOk at hok
          dsimp only at hok
          rw [Bool.or_eq_true] at hok
          rcases hok with hok | hok
          · have := Nat.le_of_ble_eq_true hok
            exact absurd hy2 (by unfold NM; omega)
          split at hok
          · next idx =>
            simp only [Bool.and_eq_true, Bool.not_eq_true'] at hok
            obtain ⟨⟨e1, e2⟩, e3, e4⟩ := hok
            have e1 := Nat.eq_of_beq_eq_true e1
            subst e1
            obtain ⟨q, q1, q2⟩ := goTo_x e2
            have q2 : q = pc + 3 := by omega
            subst q2
            obtain ⟨kd, hm⟩ := call_x e3
            have hgr := run_Gr X _ _ _ _ _ _ h1
            have hgr2 := (run_Gr X _ _ _ _ _ _ h).len
            dsimp only at hgr2
            have was : wfS (S.take (na y2)).reverse := fun v hv => wS v (List.mem_of_mem_take (List.mem_reverse.mp hv))
            refine do_call (d := d1) (idx := idx) C hd hy2 (Or.inl ⟨rfl, e4.1, e4.2⟩) ⟨kd, hm⟩ (met_of (n := n) ih hy2 h1 was c4 hw hXX) c1 c2 c3 hs I hgr (by omega) (by omega) (by omega) (by omega) (fun H1 locs1 cells1 slots1 I1 hwr => ?_)
            have kk := go h q1 hr hL wL (S2 := r1.toList ++ S.drop (na y2)) (fun v hv => by
              rcases List.mem_append.mp hv with z | z
              · exact hwr v (by cases r1 with
                  | none => cases z
                  | some w => rw [List.mem_singleton.mp z])
              · exact wS v (List.mem_of_mem_drop z)) I1
            have e9 : (r1.map (vv g)).toList ++ (S.drop (na y2)).map (vv g) = (r1.toList ++ S.drop (na y2)).map (vv g) := by
              rw [List.map_append]; cases r1 <;> rfl
            rw [e9]
            exact kk
          · cases hok
        · cases h
      · cases h
  · rename_i y2
    split at h
    · cases h
    · next d1 =>
      split at h
      · next hc =>
        obtain ⟨c1, c2, c3, c4⟩ := hc
        split at h
        · next M1 r1 h1 =>
          have hy2 : y2 < NM := by
            rcases Nat.lt_or_ge y2 NM with z | z
            · exact z
            · exfalso
              have z2 : y2 ≠ NM := fun z3 => by
                have hcl : (!Nat.beq y2 NM) = true := hcl
                rw [z3] at hcl
                exact absurd hcl (by decide)
              exact run_none (by omega) h1
          unfold trOk at hok
          dsimp only at hok
          rw [Bool.or_eq_true] at hok
          rcases hok with hok | hok
          · have := Nat.le_of_ble_eq_true hok
            exact absurd hy2 (by unfold NM; omega)
          split at hok
          · next idx =>
            simp only [Bool.and_eq_true, Bool.not_eq_true'] at hok
            obtain ⟨⟨e1, e2⟩, e3, e4⟩ := hok
            have e1 := Nat.eq_of_beq_eq_true e1
            subst e1
            obtain ⟨q, q1, q2⟩ := goTo_x e2
            have q2 : q = pc + 3 := by omega
            subst q2
            obtain ⟨kd, hm⟩ := call_x e3
            have hgr := run_Gr X _ _ _ _ _ _ h1
            have hgr2 := (run_Gr X _ _ _ _ _ _ h).len
            dsimp only at hgr2
            have was : wfS (S.take (na y2)).reverse := fun v hv => wS v (List.mem_of_mem_take (List.mem_reverse.mp hv))
            refine do_call (d := d1) (idx := idx) C hd hy2 (Or.inr (Or.inl ⟨rfl, e4⟩)) ⟨kd, hm⟩ (met_of (n := n) ih hy2 h1 was c4 hw hXX) c1 c2 c3 hs I hgr (by omega) (by omega) (by omega) (by omega) (fun H1 locs1 cells1 slots1 I1 hwr => ?_)
            have kk := go h q1 hr hL wL (S2 := r1.toList ++ S.drop (na y2)) (fun v hv => by
              rcases List.mem_append.mp hv with z | z
              · exact hwr v (by cases r1 with
                  | none => cases z
                  | some w => rw [List.mem_singleton.mp z])
              · exact wS v (List.mem_of_mem_drop z)) I1
            have e9 : (r1.map (vv g)).toList ++ (S.drop (na y2)).map (vv g) = (r1.toList ++ S.drop (na y2)).map (vv g) := by
              rw [List.map_append]; cases r1 <;> rfl
            rw [e9]
            exact kk
          · cases hok
        · cases h
      · cases h
  · rename_i y2
    split at h
    · cases h
    · next d1 =>
      split at h
      · next hc =>
        obtain ⟨c1, c2, c3, c4⟩ := hc
        split at h
        · next M1 r1 h1 =>
          have hy2 : y2 < NM := by
            rcases Nat.lt_or_ge y2 NM with z | z
            · exact z
            · exfalso
              have z2 : y2 ≠ NM := fun z3 => by
                have hcl : (!Nat.beq y2 NM) = true := hcl
                rw [z3] at hcl
                exact absurd hcl (by decide)
              exact run_none (by omega) h1
          unfold trOk at hok
          dsimp only at hok
          rw [Bool.or_eq_true] at hok
          rcases hok with hok | hok
          · have := Nat.le_of_ble_eq_true hok
            exact absurd hy2 (by unfold NM; omega)
          split at hok
          · next idx =>
            simp only [Bool.and_eq_true, Bool.not_eq_true'] at hok
            obtain ⟨⟨e1, e2⟩, e3, e4⟩ := hok
            have e1 := Nat.eq_of_beq_eq_true e1
            subst e1
            obtain ⟨q, q1, q2⟩ := goTo_x e2
            have q2 : q = pc + 3 := by omega
            subst q2
            obtain ⟨kd, hm⟩ := call_x e3
            have hgr := run_Gr X _ _ _ _ _ _ h1
            have hgr2 := (run_Gr X _ _ _ _ _ _ h).len
            dsimp only at hgr2
            have was : wfS (S.take (na y2)).reverse := fun v hv => wS v (List.mem_of_mem_take (List.mem_reverse.mp hv))
            refine do_call (d := d1) (idx := idx) C hd hy2 (Or.inr (Or.inr ⟨rfl, e4.1, e4.2⟩)) ⟨kd, hm⟩ (met_of (n := n) ih hy2 h1 was c4 hw hXX) c1 c2 c3 hs I hgr (by omega) (by omega) (by omega) (by omega) (fun H1 locs1 cells1 slots1 I1 hwr => ?_)
            have kk := go h q1 hr hL wL (S2 := r1.toList ++ S.drop (na y2)) (fun v hv => by
              rcases List.mem_append.mp hv with z | z
              · exact hwr v (by cases r1 with
                  | none => cases z
                  | some w => rw [List.mem_singleton.mp z])
              · exact wS v (List.mem_of_mem_drop z)) I1
            have e9 : (r1.map (vv g)).toList ++ (S.drop (na y2)).map (vv g) = (r1.toList ++ S.drop (na y2)).map (vv g) := by
              rw [List.map_append]; cases r1 <;> rfl
            rw [e9]
            exact kk
          · cases hok
        · cases h
      · cases h
  · cases h
end BODY
end
section
/-! a whole run, in the real machine -/
section RUN
variable {p : Program} {l : Launch} {e : Env} {R : Room} {s : State} {m : MethodId} {args : Array Value} {below : List Frame} {meth : Method} {c : Code} {H : Heap} {locs : List Loc} {cells slots : Nat} {Q : State → Prop} {g : GP} {X : Xs} {y k0 z0 : Nat} {pc : Nat} {ls : Array Slot} {L : List (Option AV)} {S : List AV} {M : Mm}
theorem ops_snd (rs0 : List Instr) : ∀ {pc pe : Nat} {L L2 : List (Option AV)} {S S2 : List AV} {M M2 Mf : Mm} {ls : Array Slot} {H : Heap} {locs : List Loc} {cells slots : Nat}, CTX g X y p s m args meth c → chkOps (yo y) (yin y) (ml y) (yc y) pc rs0 = some pe → runB X rs0 (L, S, M) = some (L2, S2, M2) → lrel g L ls → L.length = ml y → wfL L → wfS S → INV g s k0 z0 M H locs cells slots → Gr M2 Mf → Mf.2.2.length ≤ k0 + R.cells → ksz Mf.2.2 ≤ z0 + R.slots → 1 ≤ R.frames → 64 ≤ R.locals →
    (∀ ls2 H2 locs2 cells2 slots2, lrel g L2 ls2 → L2.length = ml y → wfL L2 → wfS S2 → INV g s k0 z0 M2 H2 locs2 cells2 slots2 → W p l e R s m args below meth c H2 locs2 cells2 slots2 Q (F0 m pe ls2 (S2.map (vv g)))) →
    W p l e R s m args below meth c H locs cells slots Q (F0 m pc ls (S.map (vv g))) := by
  induction rs0 with
  | nil =>
    intro pc pe L L2 S S2 M M2 Mf ls H locs cells slots C hck hrun hr hL wL wS I hG rc rs rf rl kk
    cases hck; cases hrun
    exact kk _ _ _ _ _ hr hL wL wS I
  | cons r rs0 ih =>
    intro pc pe L L2 S S2 M M2 Mf ls H locs cells slots C hck hrun hr hL wL wS I hG rc rs rf rl kk
    unfold chkOps at hck
    split at hck
    · next i len hd =>
      split at hck
      · next hok =>
        rw [Bool.and_eq_true] at hok
        have hlen := Nat.eq_of_beq_eq_true hok.1
        unfold runB at hrun
        cases hs : op1 X r (L, S, M).1 (L, S, M).2.1 (L, S, M).2.2 with
        | none => rw [hs] at hrun; cases hrun
        | some v =>
          rw [hs] at hrun
          obtain ⟨L1, S1, M1⟩ := v
          have hg1 : Gr M1 Mf := (runB_Gr _ _ _ hrun).tr hG
          have hgl := hg1.len
          refine op_snd C hd hlen hok.2 hs hr hL wL wS I (by omega) (by omega) rf rl (fun ls1 H1 locs1 cells1 slots1 r1 l1 w1 w2 I1 => ?_)
          exact ih C hck hrun r1 (l1.trans hL) w1 w2 I1 hG rc rs rf rl kk
      · cases hck
    · cases hck
theorem body_snd (n : Nat) : BodyOK l g X n := by
  induction n with
  | zero => intro d y b L S M M2 r h; cases h
  | succ n ih =>
    intro d y b L S M M2 r h hy pc hpc p e R s m args below meth c H locs cells slots Q ls k0 z0 C hr hL wL wS I rc rs rf rl hret
    have h2 : stp X (run X n) d y b (L, S, M) = some (M2, r) := h
    unfold stp at h2
    cases hb : blkOf y b with
    | none => rw [hb] at h2; cases h2
    | some q =>
      rw [hb] at h2
      dsimp only at h2
      cases hru : runB X q.1 (L, S, M) with
      | none => rw [hru] at h2; cases h2
      | some u =>
        rw [hru] at h2
        obtain ⟨L2, S2, M3⟩ := u
        dsimp only at h2
        have hgr : Gr M3 M2 := trm_Gr (fun d y b s r h => run_Gr X n d y b s r h) h2
        obtain ⟨pc', hpc', hck⟩ := chk_at (y := y) (by unfold NM at hy; omega) hb
        rw [hpc] at hpc'; cases hpc'
        unfold chkB at hck
        split at hck
        · cases hck
        · next pe hpe =>
          refine ops_snd q.1 C hpe hru hr hL wL wS I hgr rc rs (by omega) (by omega) (fun ls2 H2 locs2 cells2 slots2 r1 l1 w1 w2 I1 => ?_)
          have hnl := nl_of hb
          obtain ⟨ops, t, tg⟩ := q
          dsimp only at hck h2 hnl
          split at hck
          · obtain ⟨q9, q1, q2⟩ := goTo_x hck
            have : q9 = pe := by omega
            subst this
            exact ih d y _ _ _ _ M2 r h2 hy _ q1 C r1 l1 w1 w2 I1 rc rs rf rl hret
          · split at hck
            · next i len hd => exact trm_snd ih hnl h2 hy hd hck C r1 l1 w1 w2 I1 rc rs rf rl hret
            · cases hck
end RUN
end
section
/-! what the shallow functions are made of -/
abbrev VV : Type := Nat → Nat → Int
/-- turns that any loop may take -/
def FU : Nat := 40000
def lt_ {α β : Type} (a : α) (f : α → β) : β := f a
theorem lt_x {α β : Type} {a : α} {f : α → β} {q : β} (h : lt_ a f = q) : ∃ x, a = x ∧ f x = q := ⟨a, rfl, h⟩
theorem obind {α β : Type} {a : Option α} {f : α → Option β} {q : β} (h : Option.bind a f = some q) : ∃ x, a = some x ∧ f x = some q := by
  cases a with
  | none => cases h
  | some x => exact ⟨x, rfl, h⟩
theorem w_at {X : Xs} {d : Nat} {V : VV} {h : HP} {id n : Nat} {i q : Int} (hk : gl (K0 ++ h.2.2) id = some (100, n)) (e : atV V id n i = q) : Ok X (d + 1) 21 0 ([some (.inr (.inr (.inl (id + 1)))), some (.inl i)], [], mm V h) (fun M r => M = mm V h ∧ r = some (.inl q)) := by
  subst e; exact s_Br_at hk
theorem w_set {X : Xs} {d : Nat} {V q : VV} {h : HP} {id n : Nat} {i x : Int} (hk : gl (K0 ++ h.2.2) id = some (100, n)) (e : setV V id n i x = q) : Ok X (d + 1) 9 0 ([some (.inr (.inr (.inl (id + 1)))), some (.inl i), some (.inl x)], [], mm V h) (fun M r => M = mm q h ∧ r = none) := by
  subst e; exact s_Br_set hk
theorem w_isFrom {X : Xs} {d : Nat} {V : VV} {h : HP} {v lo hi q : Int} (e : isFromV v lo hi = q) : Ok X (d + 1) 16 0 ([some (.inl v), some (.inl lo), some (.inl hi)], [], mm V h) (fun M r => M = mm V h ∧ r = some (.inl q) ∧ (q = 0 ∨ q = 1)) := by
  refine s_Br_isFrom.imp (fun M r z => ⟨z.1, by rw [← e]; exact z.2, ?_⟩)
  subst e; unfold isFromV; split <;> simp
theorem w_cut {X : Xs} {d : Nat} {V : VV} {h : HP} {v w q : Int} (e : cutV v w = q) : Ok X (d + 1) 28 0 ([some (.inl v), some (.inl w)], [], mm V h) (fun M r => M = mm V h ∧ r = some (.inl q)) := by
  subst e; exact s_Br_cut
def fillV (V : VV) (id n : Nat) (x : Int) : VV := fun a b => if a = id then (if b < n then x else V a b) else V a b
theorem w32_id {x : Int} (h1 : -2147483648 ≤ x) (h2 : x < 2147483648) : w32 x = x := by unfold w32; omega
set_option maxRecDepth 20000 in
set_option maxHeartbeats 4000000 in
theorem w_fill {X : Xs} {d : Nat} {V q : VV} {h : HP} {id n : Nat} {x : Int} (hk : gl (K0 ++ h.2.2) id = some (100, n)) (hn : n < 2147483648) (e : fillV V id n x = q) : Ok X (d + 1) 6 0 ([some (.inr (.inr (.inl (id + 1)))), some (.inl x), none, none], [], mm V h) (fun M r => M = mm q h ∧ r = none) := by
  let QQ : Mm → Option AV → Prop := fun M r => M = mm q h ∧ r = none
  show Ok X (d + 1) 6 0 ([some (.inr (.inr (.inl (id + 1)))), some (.inl x), none, none], [], mm V h) QQ
  refine ok_alen (id := id) (n := n) (L := [some (.inr (.inr (.inl (id + 1)))), some (.inl x), some (.inl 0), none]) (S := []) (M := mm V h) rfl rfl hk ?_
  refine ok_thru (L := [some (.inr (.inr (.inl (id + 1)))), some (.inl x), some (.inl 0), some (.inl (n : Int))]) (S := []) (M := mm V h) rfl rfl ?_
  have L2 : ∀ (m : Nat) (i : Nat) (U : VV), n - i < m → i ≤ n → U = fillV V id i x → Ok X (d + 1) 6 2 ([some (.inr (.inr (.inl (id + 1)))), some (.inl x), some (.inl (i : Int)), some (.inl (n : Int))], [], mm U h) QQ := by
    intro m
    induction m with
    | zero => intro i U h1; exact absurd h1 (Nat.not_lt_zero _)
    | succ m ih =>
      intro i U h1 h2 h3
      refine ok_ic_ge (x := (i : Int)) (u := (n : Int)) (L := [some (.inr (.inr (.inl (id + 1)))), some (.inl x), some (.inl (i : Int)), some (.inl (n : Int))]) (S := []) (M := mm U h) rfl rfl (fun c1 => ?_) (fun c1 => ?_)
      · refine ok_return (L := [some (.inr (.inr (.inl (id + 1)))), some (.inl x), some (.inl (i : Int)), some (.inl (n : Int))]) (M := mm U h) rfl rfl ?_
        have : i = n := by omega
        subst this
        exact ⟨by rw [← e, h3], rfl⟩
      · refine ok_iast (i := (i : Int)) (v := x) (id := id) (n := n) (L := [some (.inr (.inr (.inl (id + 1)))), some (.inl x), some (.inl (i : Int)), some (.inl (n : Int))]) (S := []) (M := mm U h) rfl rfl hk (by omega) (by omega) ?_
        refine ok_goto (L := [some (.inr (.inr (.inl (id + 1)))), some (.inl x), some (.inl (w32 ((i : Int) + 1))), some (.inl (n : Int))]) (S := []) (M := mm (up U id (i : Int).toNat x) h) rfl rfl ?_
        rw [w32_id (by omega) (by omega)]
        refine ih (i + 1) _ (by omega) (by omega) ?_
        subst h3
        funext a b
        unfold up fillV
        by_cases ha : a = id
        · subst ha
          rw [if_pos rfl, if_pos rfl, if_pos rfl]
          by_cases hb : b = i
          · subst hb
            rw [if_pos (by omega), if_pos (by omega)]
          · rw [if_neg (by omega)]
            by_cases hb2 : b < i
            · rw [if_pos hb2, if_pos (by omega)]
            · rw [if_neg hb2, if_neg (by omega)]
        · rw [if_neg ha, if_neg ha, if_neg ha]
  refine L2 (n + 1) 0 V (by omega) (by omega) ?_
  funext a b
  unfold fillV
  split
  · rw [if_neg (by omega)]
  · rfl
/-- where the two rows of loads lie after they have grown g times -/
def oN (g : Nat) : Nat := match g with
  | 0 => 64 | 1 => 128 | 2 => 256 | 3 => 512 | 4 => 1024 | 5 => 2048 | 6 => 4096 | 7 => 8192 | 8 => 16384 | _ => 17280
def kxG : Nat → List (Nat × Nat)
  | 0 => []
  | g + 1 => kxG g ++ [(100, oN (g + 1)), (100, 9 * oN (g + 1))]
def hg (g : Nat) : HP := match g with
  | 0 => (29, 30, [])
  | g + 1 => (124 + 2 * g, 123 + 2 * g, kxG (g + 1))
def rowN (h : HP) : Nat := ((gl (K0 ++ h.2.2) h.1).getD (0, 0)).2
def ordN (h : HP) : Nat := ((gl (K0 ++ h.2.2) h.2.1).getD (0, 0)).2
def HOK (h : HP) : Prop := ∃ g, g ≤ 9 ∧ h = hg g
theorem g_10 {P : Nat → Prop} (h0 : P 0) (h1 : P 1) (h2 : P 2) (h3 : P 3) (h4 : P 4) (h5 : P 5) (h6 : P 6) (h7 : P 7) (h8 : P 8) (h9 : P 9) {g : Nat} (h : g ≤ 9) : P g := by
  have : g = 0 ∨ g = 1 ∨ g = 2 ∨ g = 3 ∨ g = 4 ∨ g = 5 ∨ g = 6 ∨ g = 7 ∨ g = 8 ∨ g = 9 := by omega
  rcases this with rfl | rfl | rfl | rfl | rfl | rfl | rfl | rfl | rfl | rfl <;> assumption
theorem HOK.row {h : HP} (hh : HOK h) : gl (K0 ++ h.2.2) h.1 = some (100, rowN h) := by
  obtain ⟨g, h1, rfl⟩ := hh
  exact g_10 (P := fun g => gl (K0 ++ (hg g).2.2) (hg g).1 = some (100, rowN (hg g))) rfl rfl rfl rfl rfl rfl rfl rfl rfl rfl h1
theorem HOK.ord {h : HP} (hh : HOK h) : gl (K0 ++ h.2.2) h.2.1 = some (100, ordN h) := by
  obtain ⟨g, h1, rfl⟩ := hh
  exact g_10 (P := fun g => gl (K0 ++ (hg g).2.2) (hg g).2.1 = some (100, ordN (hg g))) rfl rfl rfl rfl rfl rfl rfl rfl rfl rfl h1
theorem rowN_hg {g : Nat} (h : g ≤ 9) : rowN (hg g) = 9 * oN g ∧ ordN (hg g) = oN g :=
  g_10 (P := fun g => rowN (hg g) = 9 * oN g ∧ ordN (hg g) = oN g) ⟨rfl, rfl⟩ ⟨rfl, rfl⟩ ⟨rfl, rfl⟩ ⟨rfl, rfl⟩ ⟨rfl, rfl⟩ ⟨rfl, rfl⟩ ⟨rfl, rfl⟩ ⟨rfl, rfl⟩ ⟨rfl, rfl⟩ ⟨rfl, rfl⟩ h
end
section
/-! shallow functions of the road (printed by wip/tools/gen10.py) -/
def f_Road_jobs (V : VV)  : Int := w32 ((V 1 8) * (V 1 9))
set_option maxRecDepth 20000 in
set_option maxHeartbeats 4000000 in
theorem s_Road_jobs {X : Xs} {d : Nat} {V : VV} {h : HP} {q : Int} (hf : f_Road_jobs V = q) : Ok X (d + 1) 25 0 ([some (.inr (.inr (.inl 2)))], [], mm V h) (fun M r => M = mm V h ∧ r = some (.inl q)) := by
  let QQ : Mm → Option AV → Prop := fun M r => M = mm V h ∧ r = some (.inl q)
  show Ok X (d + 1) 25 0 ([some (.inr (.inr (.inl 2)))], [], mm V h) QQ
  have hq : (w32 ((V 1 8) * (V 1 9))) = q := hf
  subst hq
  refine ok_ireturn (L := [some (.inr (.inr (.inl 2)))]) (M := mm V h) (x := w32 ((V 1 8) * (V 1 9))) rfl rfl ?_
  exact ⟨rfl, rfl⟩
def f_Road_sectionOf (V : VV) (v1 : Int) : Option (Int) := if (V 1 8) = 0 then some 0 else if (V 1 8) = 0 then none else some (Int.tmod v1 (V 1 8))
set_option maxRecDepth 20000 in
set_option maxHeartbeats 4000000 in
theorem s_Road_sectionOf {X : Xs} {d : Nat} {V : VV} {h : HP} {v1 : Int} {q : Int} (hf : f_Road_sectionOf V v1 = some q) : Ok X (d + 1) 26 0 ([some (.inr (.inr (.inl 2))), some (.inl v1)], [], mm V h) (fun M r => M = mm V h ∧ r = some (.inl q)) := by
  let QQ : Mm → Option AV → Prop := fun M r => M = mm V h ∧ r = some (.inl q)
  show Ok X (d + 1) 26 0 ([some (.inr (.inr (.inl 2))), some (.inl v1)], [], mm V h) QQ
  refine ok_if_ne (x := V 1 8) (L := [some (.inr (.inr (.inl 2))), some (.inl v1)]) (S := []) (M := mm V h) rfl rfl (fun c1 => ?_) (fun c1 => ?_)
  ·
    replace hf := (if_neg c1).symm.trans hf
    by_cases c2 : (V 1 8) = 0
    case pos => replace hf := (if_pos c2).symm.trans hf; cases hf
    replace hf := (if_neg c2).symm.trans hf
    refine ok_irem (u := v1) (v := V 1 8) (L := [some (.inr (.inr (.inl 2))), some (.inl v1)]) (S := []) (M := mm V h) rfl rfl c2 ?_
    obtain rfl := Option.some.inj hf
    refine ok_ireturn (L := [some (.inr (.inr (.inl 2))), some (.inl v1)]) (M := mm V h) (x := Int.tmod v1 (V 1 8)) rfl rfl ?_
    exact ⟨rfl, rfl⟩
  ·
    replace hf := (if_pos c1).symm.trans hf
    refine ok_goto (L := [some (.inr (.inr (.inl 2))), some (.inl v1)]) (S := [.inl 0]) (M := mm V h) rfl rfl ?_
    obtain rfl := Option.some.inj hf
    refine ok_ireturn (L := [some (.inr (.inr (.inl 2))), some (.inl v1)]) (M := mm V h) (x := 0) rfl rfl ?_
    exact ⟨rfl, rfl⟩
def f_Road_layerOf (V : VV) (v1 : Int) : Int := cutV v1 (V 1 8)
set_option maxRecDepth 20000 in
set_option maxHeartbeats 4000000 in
theorem s_Road_layerOf {X : Xs} {d : Nat} {V : VV} {h : HP} {v1 : Int} {q : Int} (hf : f_Road_layerOf V v1 = q) : Ok X (d + 2) 27 0 ([some (.inr (.inr (.inl 2))), some (.inl v1)], [], mm V h) (fun M r => M = mm V h ∧ r = some (.inl q)) := by
  let QQ : Mm → Option AV → Prop := fun M r => M = mm V h ∧ r = some (.inl q)
  show Ok X (d + 2) 27 0 ([some (.inr (.inr (.inl 2))), some (.inl v1)], [], mm V h) QQ
  refine ok_callA (L := [some (.inr (.inr (.inl 2))), some (.inl v1)]) (M := mm V h) (args := [.inl v1, .inl (V 1 8)]) (rest := []) (y2 := 28) rfl rfl rfl (Or.inr (Or.inl rfl)) rfl rfl (Nat.le_of_ble_eq_true rfl) rfl rfl (Nat.le_of_ble_eq_true rfl) (Nat.le_of_ble_eq_true rfl) (w_cut rfl) ?_
  rintro _ _ ⟨rfl, rfl⟩
  have hq : (cutV v1 (V 1 8)) = q := hf
  subst hq
  refine ok_ireturn (L := [some (.inr (.inr (.inl 2))), some (.inl v1)]) (M := mm V h) (x := cutV v1 (V 1 8)) rfl rfl ?_
  exact ⟨rfl, rfl⟩
def f_Road_kindOf (V : VV) (v1 : Int) : Int := atV V 7 3 (f_Road_layerOf V v1)
set_option maxRecDepth 20000 in
set_option maxHeartbeats 4000000 in
theorem s_Road_kindOf {X : Xs} {d : Nat} {V : VV} {h : HP} {v1 : Int} {q : Int} (hf : f_Road_kindOf V v1 = q) : Ok X (d + 3) 110 0 ([some (.inr (.inr (.inl 2))), some (.inl v1)], [], mm V h) (fun M r => M = mm V h ∧ r = some (.inl q)) := by
  let QQ : Mm → Option AV → Prop := fun M r => M = mm V h ∧ r = some (.inl q)
  show Ok X (d + 3) 110 0 ([some (.inr (.inr (.inl 2))), some (.inl v1)], [], mm V h) QQ
  refine ok_callA (L := [some (.inr (.inr (.inl 2))), some (.inl v1)]) (M := mm V h) (args := [.inr (.inr (.inl 2)), .inl v1]) (rest := [.inr (.inr (.inl 8))]) (y2 := 27) rfl rfl rfl (Or.inl rfl) rfl rfl (Nat.le_of_ble_eq_true rfl) rfl rfl (Nat.le_of_ble_eq_true rfl) (Nat.le_of_ble_eq_true rfl) (s_Road_layerOf rfl) ?_
  rintro _ _ ⟨rfl, rfl⟩
  refine ok_callA (L := [some (.inr (.inr (.inl 2))), some (.inl v1)]) (M := mm V h) (args := [.inr (.inr (.inl 8)), .inl (f_Road_layerOf V v1)]) (rest := []) (y2 := 21) rfl rfl rfl (Or.inr (Or.inl rfl)) rfl rfl (Nat.le_of_ble_eq_true rfl) rfl rfl (Nat.le_of_ble_eq_true rfl) (Nat.le_of_ble_eq_true rfl) (w_at rfl rfl) ?_
  rintro _ _ ⟨rfl, rfl⟩
  have hq : (atV V 7 3 (f_Road_layerOf V v1)) = q := hf
  subst hq
  refine ok_ireturn (L := [some (.inr (.inr (.inl 2))), some (.inl v1)]) (M := mm V h) (x := atV V 7 3 (f_Road_layerOf V v1)) rfl rfl ?_
  exact ⟨rfl, rfl⟩
def f_Road_cheapest_2 : Nat → VV → Int → Int → Int → Int → Int → (Option (Int))
  | 0, _, _, _, _, _, _ => none
  | n + 1, V, v1, v3, v4, v5, v6 => if (min 60 v3) < v6 then some v4 else f_Road_cheapest_2 n V v1 v3 (if (atV V 5 732 (w32 ((w32 (v1 * 61)) + v6))) < v5 then v6 else v4 : Int) (if (atV V 5 732 (w32 ((w32 (v1 * 61)) + v6))) < v5 then atV V 5 732 (w32 ((w32 (v1 * 61)) + v6)) else v5 : Int) (w32 (v6 + 1))
set_option maxRecDepth 20000 in
set_option maxHeartbeats 4000000 in
theorem s_Road_cheapest_2_n {X : Xs} {d : Nat} {V : VV} {h : HP} {q : Int} : ∀ (n : Nat) (v1 : Int) (v3 : Int) (v4 : Int) (v5 : Int) (v6 : Int) (w2 : Int) (z7 : Option AV), f_Road_cheapest_2 n V v1 v3 v4 v5 v6 = some q → Ok X (d + 2) 22 2 ([some (.inr (.inr (.inl 2))), some (.inl v1), some (.inl w2), some (.inl v3), some (.inl v4), some (.inl v5), some (.inl v6), z7], [], mm V h) (fun M r => M = mm V h ∧ r = some (.inl q)) := by
  intro n
  induction n with
  | zero => intro v1 v3 v4 v5 v6 w2 z7 hf; cases hf
  | succ n ih =>
    intro v1 v3 v4 v5 v6 w2 z7 hf
    let QQ : Mm → Option AV → Prop := fun M r => M = mm V h ∧ r = some (.inl q)
    show Ok X (d + 2) 22 2 ([some (.inr (.inr (.inl 2))), some (.inl v1), some (.inl w2), some (.inl v3), some (.inl v4), some (.inl v5), some (.inl v6), z7], [], mm V h) QQ
    refine ok_mmin (u := 60) (v := v3) (L := [some (.inr (.inr (.inl 2))), some (.inl v1), some (.inl w2), some (.inl v3), some (.inl v4), some (.inl v5), some (.inl v6), z7]) (S := [.inl v6]) (M := mm V h) rfl rfl rfl (Nat.le_of_ble_eq_true rfl) ?_
    refine ok_ic_gt (x := v6) (u := min 60 v3) (L := [some (.inr (.inr (.inl 2))), some (.inl v1), some (.inl w2), some (.inl v3), some (.inl v4), some (.inl v5), some (.inl v6), z7]) (S := []) (M := mm V h) rfl rfl (fun c1 => ?_) (fun c1 => ?_)
    ·
      replace hf := (if_pos c1).symm.trans hf
      obtain rfl := Option.some.inj hf
      refine ok_ireturn (L := [some (.inr (.inr (.inl 2))), some (.inl v1), some (.inl w2), some (.inl v3), some (.inl v4), some (.inl v5), some (.inl v6), z7]) (M := mm V h) (x := v4) rfl rfl ?_
      exact ⟨rfl, rfl⟩
    ·
      replace hf := (if_neg (Int.not_lt.mpr c1)).symm.trans hf
      refine ok_callA (L := [some (.inr (.inr (.inl 2))), some (.inl v1), some (.inl w2), some (.inl v3), some (.inl v4), some (.inl v5), some (.inl v6), z7]) (M := mm V h) (args := [.inr (.inr (.inl 6)), .inl (w32 ((w32 (v1 * 61)) + v6))]) (rest := []) (y2 := 21) rfl rfl rfl (Or.inr (Or.inl rfl)) rfl rfl (Nat.le_of_ble_eq_true rfl) rfl rfl (Nat.le_of_ble_eq_true rfl) (Nat.le_of_ble_eq_true rfl) (w_at rfl rfl) ?_
      rintro _ _ ⟨rfl, rfl⟩
      have JN3 : Ok X (d + 2) 22 7 ([some (.inr (.inr (.inl 2))), some (.inl v1), some (.inl w2), some (.inl v3), some (.inl (if (atV V 5 732 (w32 ((w32 (v1 * 61)) + v6))) < v5 then v6 else v4 : Int)), some (.inl (if (atV V 5 732 (w32 ((w32 (v1 * 61)) + v6))) < v5 then atV V 5 732 (w32 ((w32 (v1 * 61)) + v6)) else v5 : Int)), some (.inl v6), some (.inl (atV V 5 732 (w32 ((w32 (v1 * 61)) + v6))))], [], mm V h) QQ := by
        refine ok_goto (L := [some (.inr (.inr (.inl 2))), some (.inl v1), some (.inl w2), some (.inl v3), some (.inl (if (atV V 5 732 (w32 ((w32 (v1 * 61)) + v6))) < v5 then v6 else v4 : Int)), some (.inl (if (atV V 5 732 (w32 ((w32 (v1 * 61)) + v6))) < v5 then atV V 5 732 (w32 ((w32 (v1 * 61)) + v6)) else v5 : Int)), some (.inl (w32 (v6 + 1))), some (.inl (atV V 5 732 (w32 ((w32 (v1 * 61)) + v6))))]) (S := []) (M := mm V h) rfl rfl ?_
        exact ih v1 v3 (if (atV V 5 732 (w32 ((w32 (v1 * 61)) + v6))) < v5 then v6 else v4 : Int) (if (atV V 5 732 (w32 ((w32 (v1 * 61)) + v6))) < v5 then atV V 5 732 (w32 ((w32 (v1 * 61)) + v6)) else v5 : Int) (w32 (v6 + 1)) w2 (some (.inl (atV V 5 732 (w32 ((w32 (v1 * 61)) + v6))))) hf
      clear hf
      refine ok_ic_ge (x := atV V 5 732 (w32 ((w32 (v1 * 61)) + v6))) (u := v5) (L := [some (.inr (.inr (.inl 2))), some (.inl v1), some (.inl w2), some (.inl v3), some (.inl v4), some (.inl v5), some (.inl v6), some (.inl (atV V 5 732 (w32 ((w32 (v1 * 61)) + v6))))]) (S := []) (M := mm V h) rfl rfl (fun c4 => ?_) (fun c4 => ?_)
      ·
        simp only [if_neg (Int.not_lt.mpr c4)] at JN3
        first | exact JN3 | (simp only [if_neg (Int.not_lt.mpr c4)]; exact JN3)
      ·
        simp only [if_pos c4] at JN3
        refine ok_thru (L := [some (.inr (.inr (.inl 2))), some (.inl v1), some (.inl w2), some (.inl v3), some (.inl v6), some (.inl (atV V 5 732 (w32 ((w32 (v1 * 61)) + v6)))), some (.inl v6), some (.inl (atV V 5 732 (w32 ((w32 (v1 * 61)) + v6))))]) (S := []) (M := mm V h) rfl rfl ?_
        first | exact JN3 | (simp only [if_pos c4]; exact JN3)
theorem s_Road_cheapest_2 {X : Xs} {d : Nat} {V : VV} {h : HP} {v1 : Int} {v3 : Int} {v4 : Int} {v5 : Int} {v6 : Int} {w2 : Int} {z7 : Option AV} {n : Nat} {q : Int} (hf : f_Road_cheapest_2 n V v1 v3 v4 v5 v6 = some q) : Ok X (d + 2) 22 2 ([some (.inr (.inr (.inl 2))), some (.inl v1), some (.inl w2), some (.inl v3), some (.inl v4), some (.inl v5), some (.inl v6), z7], [], mm V h) (fun M r => M = mm V h ∧ r = some (.inl q)) :=
  s_Road_cheapest_2_n n v1 v3 v4 v5 v6 w2 z7 hf
def f_Road_cheapest (V : VV) (v1 : Int) (v2 : Int) (v3 : Int) : Option (Int) := f_Road_cheapest_2 FU V v1 v3 (-1) 1000000 (max 0 v2)
set_option maxRecDepth 20000 in
set_option maxHeartbeats 4000000 in
theorem s_Road_cheapest {X : Xs} {d : Nat} {V : VV} {h : HP} {v1 : Int} {v2 : Int} {v3 : Int} {q : Int} (hf : f_Road_cheapest V v1 v2 v3 = some q) : Ok X (d + 2) 22 0 ([some (.inr (.inr (.inl 2))), some (.inl v1), some (.inl v2), some (.inl v3), none, none, none, none], [], mm V h) (fun M r => M = mm V h ∧ r = some (.inl q)) := by
  let QQ : Mm → Option AV → Prop := fun M r => M = mm V h ∧ r = some (.inl q)
  show Ok X (d + 2) 22 0 ([some (.inr (.inr (.inl 2))), some (.inl v1), some (.inl v2), some (.inl v3), none, none, none, none], [], mm V h) QQ
  refine ok_mmax (u := 0) (v := v2) (L := [some (.inr (.inr (.inl 2))), some (.inl v1), some (.inl v2), some (.inl v3), some (.inl (-1)), some (.inl 1000000), none, none]) (S := []) (M := mm V h) rfl rfl rfl (Nat.le_of_ble_eq_true rfl) ?_
  refine ok_thru (L := [some (.inr (.inr (.inl 2))), some (.inl v1), some (.inl v2), some (.inl v3), some (.inl (-1)), some (.inl 1000000), some (.inl (max 0 v2)), none]) (S := []) (M := mm V h) rfl rfl ?_
  exact s_Road_cheapest_2 hf
def f_Road_costFrom (V : VV) (v1 : Int) (v2 : Int) : Option (Int) := if v2 < (w32 ((atV V 3 12 v1) - (V 1 12))) then some 1000000 else if (w32 (v1 + 1)) < (V 1 8) then Option.bind (f_Road_cheapest V (w32 (v1 + 1)) (w32 (v2 - (V 1 11))) (w32 (v2 + (V 1 11)))) (fun q5 => some (if q5 = (-1) then 1000000 else w32 ((if v2 < (atV V 3 12 v1) then w32 ((w32 ((atV V 3 12 v1) - v2)) * (V 1 13)) else w32 ((w32 (v2 - (atV V 3 12 v1))) * (V 1 14)) : Int) + (atV V 5 732 (w32 ((w32 ((w32 (v1 + 1)) * 61)) + q5)))) : Int)) else some (if v2 < (atV V 3 12 v1) then w32 ((w32 ((atV V 3 12 v1) - v2)) * (V 1 13)) else w32 ((w32 (v2 - (atV V 3 12 v1))) * (V 1 14)) : Int)
set_option maxRecDepth 20000 in
set_option maxHeartbeats 4000000 in
theorem s_Road_costFrom {X : Xs} {d : Nat} {V : VV} {h : HP} {v1 : Int} {v2 : Int} {q : Int} (hf : f_Road_costFrom V v1 v2 = some q) : Ok X (d + 3) 20 0 ([some (.inr (.inr (.inl 2))), some (.inl v1), some (.inl v2), none, none, none], [], mm V h) (fun M r => M = mm V h ∧ r = some (.inl q)) := by
  let QQ : Mm → Option AV → Prop := fun M r => M = mm V h ∧ r = some (.inl q)
  show Ok X (d + 3) 20 0 ([some (.inr (.inr (.inl 2))), some (.inl v1), some (.inl v2), none, none, none], [], mm V h) QQ
  refine ok_callA (L := [some (.inr (.inr (.inl 2))), some (.inl v1), some (.inl v2), none, none, none]) (M := mm V h) (args := [.inr (.inr (.inl 4)), .inl v1]) (rest := []) (y2 := 21) rfl rfl rfl (Or.inr (Or.inl rfl)) rfl rfl (Nat.le_of_ble_eq_true rfl) rfl rfl (Nat.le_of_ble_eq_true rfl) (Nat.le_of_ble_eq_true rfl) (w_at rfl rfl) ?_
  rintro _ _ ⟨rfl, rfl⟩
  refine ok_ic_ge (x := v2) (u := w32 ((atV V 3 12 v1) - (V 1 12))) (L := [some (.inr (.inr (.inl 2))), some (.inl v1), some (.inl v2), some (.inl (atV V 3 12 v1)), none, none]) (S := []) (M := mm V h) rfl rfl (fun c2 => ?_) (fun c2 => ?_)
  ·
    replace hf := (if_neg (Int.not_lt.mpr c2)).symm.trans hf
    have JN3 : Ok X (d + 3) 20 6 ([some (.inr (.inr (.inl 2))), some (.inl v1), some (.inl v2), some (.inl (atV V 3 12 v1)), none, none], [.inl (if v2 < (atV V 3 12 v1) then w32 ((w32 ((atV V 3 12 v1) - v2)) * (V 1 13)) else w32 ((w32 (v2 - (atV V 3 12 v1))) * (V 1 14)) : Int)], mm V h) QQ := by
      refine ok_ic_lt (x := w32 (v1 + 1)) (u := V 1 8) (L := [some (.inr (.inr (.inl 2))), some (.inl v1), some (.inl v2), some (.inl (atV V 3 12 v1)), some (.inl (if v2 < (atV V 3 12 v1) then w32 ((w32 ((atV V 3 12 v1) - v2)) * (V 1 13)) else w32 ((w32 (v2 - (atV V 3 12 v1))) * (V 1 14)) : Int)), none]) (S := []) (M := mm V h) rfl rfl (fun c4 => ?_) (fun c4 => ?_)
      ·
        replace hf := (if_pos c4).symm.trans hf
        obtain ⟨q5, e5, hf⟩ := obind hf
        refine ok_callA (L := [some (.inr (.inr (.inl 2))), some (.inl v1), some (.inl v2), some (.inl (atV V 3 12 v1)), some (.inl (if v2 < (atV V 3 12 v1) then w32 ((w32 ((atV V 3 12 v1) - v2)) * (V 1 13)) else w32 ((w32 (v2 - (atV V 3 12 v1))) * (V 1 14)) : Int)), none]) (M := mm V h) (args := [.inr (.inr (.inl 2)), .inl (w32 (v1 + 1)), .inl (w32 (v2 - (V 1 11))), .inl (w32 (v2 + (V 1 11)))]) (rest := []) (y2 := 22) rfl rfl rfl (Or.inl rfl) rfl rfl (Nat.le_of_ble_eq_true rfl) rfl rfl (Nat.le_of_ble_eq_true rfl) (Nat.le_of_ble_eq_true rfl) (s_Road_cheapest e5) ?_
        rintro _ _ ⟨rfl, rfl⟩
        have JN6 : Ok X (d + 3) 20 13 ([some (.inr (.inr (.inl 2))), some (.inl v1), some (.inl v2), some (.inl (atV V 3 12 v1)), some (.inl (if v2 < (atV V 3 12 v1) then w32 ((w32 ((atV V 3 12 v1) - v2)) * (V 1 13)) else w32 ((w32 (v2 - (atV V 3 12 v1))) * (V 1 14)) : Int)), some (.inl q5)], [.inl (if q5 = (-1) then 1000000 else w32 ((if v2 < (atV V 3 12 v1) then w32 ((w32 ((atV V 3 12 v1) - v2)) * (V 1 13)) else w32 ((w32 (v2 - (atV V 3 12 v1))) * (V 1 14)) : Int) + (atV V 5 732 (w32 ((w32 ((w32 (v1 + 1)) * 61)) + q5)))) : Int)], mm V h) QQ := by
          obtain rfl := Option.some.inj hf
          refine ok_ireturn (L := [some (.inr (.inr (.inl 2))), some (.inl v1), some (.inl v2), some (.inl (atV V 3 12 v1)), some (.inl (if v2 < (atV V 3 12 v1) then w32 ((w32 ((atV V 3 12 v1) - v2)) * (V 1 13)) else w32 ((w32 (v2 - (atV V 3 12 v1))) * (V 1 14)) : Int)), some (.inl q5)]) (M := mm V h) (x := (if q5 = (-1) then 1000000 else w32 ((if v2 < (atV V 3 12 v1) then w32 ((w32 ((atV V 3 12 v1) - v2)) * (V 1 13)) else w32 ((w32 (v2 - (atV V 3 12 v1))) * (V 1 14)) : Int) + (atV V 5 732 (w32 ((w32 ((w32 (v1 + 1)) * 61)) + q5)))) : Int)) rfl rfl ?_
          exact ⟨rfl, rfl⟩
        clear hf
        refine ok_ic_ne (x := q5) (u := (-1)) (L := [some (.inr (.inr (.inl 2))), some (.inl v1), some (.inl v2), some (.inl (atV V 3 12 v1)), some (.inl (if v2 < (atV V 3 12 v1) then w32 ((w32 ((atV V 3 12 v1) - v2)) * (V 1 13)) else w32 ((w32 (v2 - (atV V 3 12 v1))) * (V 1 14)) : Int)), some (.inl q5)]) (S := []) (M := mm V h) rfl rfl (fun c7 => ?_) (fun c7 => ?_)
        ·
          simp only [if_neg c7] at JN6
          refine ok_callA (L := [some (.inr (.inr (.inl 2))), some (.inl v1), some (.inl v2), some (.inl (atV V 3 12 v1)), some (.inl (if v2 < (atV V 3 12 v1) then w32 ((w32 ((atV V 3 12 v1) - v2)) * (V 1 13)) else w32 ((w32 (v2 - (atV V 3 12 v1))) * (V 1 14)) : Int)), some (.inl q5)]) (M := mm V h) (args := [.inr (.inr (.inl 6)), .inl (w32 ((w32 ((w32 (v1 + 1)) * 61)) + q5))]) (rest := [.inl (if v2 < (atV V 3 12 v1) then w32 ((w32 ((atV V 3 12 v1) - v2)) * (V 1 13)) else w32 ((w32 (v2 - (atV V 3 12 v1))) * (V 1 14)) : Int)]) (y2 := 21) rfl rfl rfl (Or.inr (Or.inl rfl)) rfl rfl (Nat.le_of_ble_eq_true rfl) rfl rfl (Nat.le_of_ble_eq_true rfl) (Nat.le_of_ble_eq_true rfl) (w_at rfl rfl) ?_
          rintro _ _ ⟨rfl, rfl⟩
          refine ok_thru (L := [some (.inr (.inr (.inl 2))), some (.inl v1), some (.inl v2), some (.inl (atV V 3 12 v1)), some (.inl (if v2 < (atV V 3 12 v1) then w32 ((w32 ((atV V 3 12 v1) - v2)) * (V 1 13)) else w32 ((w32 (v2 - (atV V 3 12 v1))) * (V 1 14)) : Int)), some (.inl q5)]) (S := [.inl (w32 ((if v2 < (atV V 3 12 v1) then w32 ((w32 ((atV V 3 12 v1) - v2)) * (V 1 13)) else w32 ((w32 (v2 - (atV V 3 12 v1))) * (V 1 14)) : Int) + (atV V 5 732 (w32 ((w32 ((w32 (v1 + 1)) * 61)) + q5)))))]) (M := mm V h) rfl rfl ?_
          first | exact JN6 | (simp only [if_neg c7]; exact JN6)
        ·
          simp only [if_pos c7] at JN6
          refine ok_goto (L := [some (.inr (.inr (.inl 2))), some (.inl v1), some (.inl v2), some (.inl (atV V 3 12 v1)), some (.inl (if v2 < (atV V 3 12 v1) then w32 ((w32 ((atV V 3 12 v1) - v2)) * (V 1 13)) else w32 ((w32 (v2 - (atV V 3 12 v1))) * (V 1 14)) : Int)), some (.inl q5)]) (S := [.inl 1000000]) (M := mm V h) rfl rfl ?_
          first | exact JN6 | (simp only [if_pos c7]; exact JN6)
      ·
        replace hf := (if_neg (Int.not_lt.mpr c4)).symm.trans hf
        obtain rfl := Option.some.inj hf
        refine ok_ireturn (L := [some (.inr (.inr (.inl 2))), some (.inl v1), some (.inl v2), some (.inl (atV V 3 12 v1)), some (.inl (if v2 < (atV V 3 12 v1) then w32 ((w32 ((atV V 3 12 v1) - v2)) * (V 1 13)) else w32 ((w32 (v2 - (atV V 3 12 v1))) * (V 1 14)) : Int)), none]) (M := mm V h) (x := (if v2 < (atV V 3 12 v1) then w32 ((w32 ((atV V 3 12 v1) - v2)) * (V 1 13)) else w32 ((w32 (v2 - (atV V 3 12 v1))) * (V 1 14)) : Int)) rfl rfl ?_
        exact ⟨rfl, rfl⟩
    clear hf
    refine ok_ic_ge (x := v2) (u := atV V 3 12 v1) (L := [some (.inr (.inr (.inl 2))), some (.inl v1), some (.inl v2), some (.inl (atV V 3 12 v1)), none, none]) (S := []) (M := mm V h) rfl rfl (fun c9 => ?_) (fun c9 => ?_)
    ·
      simp only [if_neg (Int.not_lt.mpr c9)] at JN3
      refine ok_thru (L := [some (.inr (.inr (.inl 2))), some (.inl v1), some (.inl v2), some (.inl (atV V 3 12 v1)), none, none]) (S := [.inl (w32 ((w32 (v2 - (atV V 3 12 v1))) * (V 1 14)))]) (M := mm V h) rfl rfl ?_
      first | exact JN3 | (simp only [if_neg (Int.not_lt.mpr c9)]; exact JN3)
    ·
      simp only [if_pos c9] at JN3
      refine ok_goto (L := [some (.inr (.inr (.inl 2))), some (.inl v1), some (.inl v2), some (.inl (atV V 3 12 v1)), none, none]) (S := [.inl (w32 ((w32 ((atV V 3 12 v1) - v2)) * (V 1 13)))]) (M := mm V h) rfl rfl ?_
      first | exact JN3 | (simp only [if_pos c9]; exact JN3)
  ·
    replace hf := (if_pos c2).symm.trans hf
    obtain rfl := Option.some.inj hf
    refine ok_ireturn (L := [some (.inr (.inr (.inl 2))), some (.inl v1), some (.inl v2), some (.inl (atV V 3 12 v1)), none, none]) (M := mm V h) (x := 1000000) rfl rfl ?_
    exact ⟨rfl, rfl⟩
def f_Road_weighHeights_3 (k1 : VV → Int → (Option (VV))) : Nat → VV → Int → Int → (Option (VV))
  | 0, _, _, _ => none
  | n + 1, V, v1, v2 => if v2 < 61 then Option.bind (f_Road_costFrom V v1 v2) (fun q2 => lt_ (setV V 5 732 (w32 ((w32 (v1 * 61)) + v2)) q2) (fun q3 => f_Road_weighHeights_3 k1 n q3 v1 (w32 (v2 + 1)))) else k1 V (w32 (v1 + (-1)))
set_option maxRecDepth 20000 in
set_option maxHeartbeats 4000000 in
theorem s_Road_weighHeights_3_n {X : Xs} {d : Nat} {k1 : VV → Int → (Option (VV))} {h : HP} {q : VV} (K1 : ∀ (V : VV) (v1 : Int) (z2 : Option AV), k1 V v1 = some q → Ok X (d + 4) 19 1 ([some (.inr (.inr (.inl 2))), some (.inl v1), z2], [], mm V h) (fun M r => M = mm q h ∧ r = none)) : ∀ (n : Nat) (V : VV) (v1 : Int) (v2 : Int), f_Road_weighHeights_3 k1 n V v1 v2 = some q → Ok X (d + 4) 19 3 ([some (.inr (.inr (.inl 2))), some (.inl v1), some (.inl v2)], [], mm V h) (fun M r => M = mm q h ∧ r = none) := by
  intro n
  induction n with
  | zero => intro V v1 v2 hf; cases hf
  | succ n ih =>
    intro V v1 v2 hf
    let QQ : Mm → Option AV → Prop := fun M r => M = mm q h ∧ r = none
    show Ok X (d + 4) 19 3 ([some (.inr (.inr (.inl 2))), some (.inl v1), some (.inl v2)], [], mm V h) QQ
    refine ok_ic_ge (x := v2) (u := 61) (L := [some (.inr (.inr (.inl 2))), some (.inl v1), some (.inl v2)]) (S := []) (M := mm V h) rfl rfl (fun c1 => ?_) (fun c1 => ?_)
    ·
      replace hf := (if_neg (Int.not_lt.mpr c1)).symm.trans hf
      refine ok_goto (L := [some (.inr (.inr (.inl 2))), some (.inl (w32 (v1 + (-1)))), some (.inl v2)]) (S := []) (M := mm V h) rfl rfl ?_
      exact K1 V (w32 (v1 + (-1))) (some (.inl v2)) hf
    ·
      replace hf := (if_pos c1).symm.trans hf
      obtain ⟨q2, e2, hf⟩ := obind hf
      refine ok_callA (L := [some (.inr (.inr (.inl 2))), some (.inl v1), some (.inl v2)]) (M := mm V h) (args := [.inr (.inr (.inl 2)), .inl v1, .inl v2]) (rest := [.inl (w32 ((w32 (v1 * 61)) + v2)), .inr (.inr (.inl 6))]) (y2 := 20) rfl rfl rfl (Or.inl rfl) rfl rfl (Nat.le_of_ble_eq_true rfl) rfl rfl (Nat.le_of_ble_eq_true rfl) (Nat.le_of_ble_eq_true rfl) (s_Road_costFrom e2) ?_
      rintro _ _ ⟨rfl, rfl⟩
      obtain ⟨q3, e3, hf⟩ := lt_x hf
      refine ok_callA (L := [some (.inr (.inr (.inl 2))), some (.inl v1), some (.inl v2)]) (M := mm V h) (args := [.inr (.inr (.inl 6)), .inl (w32 ((w32 (v1 * 61)) + v2)), .inl q2]) (rest := []) (y2 := 9) rfl rfl rfl (Or.inr (Or.inl rfl)) rfl rfl (Nat.le_of_ble_eq_true rfl) rfl rfl (Nat.le_of_ble_eq_true rfl) (Nat.le_of_ble_eq_true rfl) (w_set rfl e3) ?_
      rintro _ _ ⟨rfl, rfl⟩
      refine ok_goto (L := [some (.inr (.inr (.inl 2))), some (.inl v1), some (.inl (w32 (v2 + 1)))]) (S := []) (M := mm q3 h) rfl rfl ?_
      exact ih q3 v1 (w32 (v2 + 1)) hf
theorem s_Road_weighHeights_3 {X : Xs} {d : Nat} {k1 : VV → Int → (Option (VV))} {h : HP} {V : VV} {v1 : Int} {v2 : Int} {n : Nat} {q : VV} (hf : f_Road_weighHeights_3 k1 n V v1 v2 = some q) (K1 : ∀ (V : VV) (v1 : Int) (z2 : Option AV), k1 V v1 = some q → Ok X (d + 4) 19 1 ([some (.inr (.inr (.inl 2))), some (.inl v1), z2], [], mm V h) (fun M r => M = mm q h ∧ r = none)) : Ok X (d + 4) 19 3 ([some (.inr (.inr (.inl 2))), some (.inl v1), some (.inl v2)], [], mm V h) (fun M r => M = mm q h ∧ r = none) :=
  s_Road_weighHeights_3_n K1 n V v1 v2 hf
def f_Road_weighHeights_1 : Nat → VV → Int → (Option (VV))
  | 0, _, _ => none
  | n + 1, V, v1 => if v1 < 0 then some V else f_Road_weighHeights_3 (f_Road_weighHeights_1 n) FU V v1 0
set_option maxRecDepth 20000 in
set_option maxHeartbeats 4000000 in
theorem s_Road_weighHeights_1_n {X : Xs} {d : Nat} {h : HP} {q : VV} : ∀ (n : Nat) (V : VV) (v1 : Int) (z2 : Option AV), f_Road_weighHeights_1 n V v1 = some q → Ok X (d + 4) 19 1 ([some (.inr (.inr (.inl 2))), some (.inl v1), z2], [], mm V h) (fun M r => M = mm q h ∧ r = none) := by
  intro n
  induction n with
  | zero => intro V v1 z2 hf; cases hf
  | succ n ih =>
    intro V v1 z2 hf
    let QQ : Mm → Option AV → Prop := fun M r => M = mm q h ∧ r = none
    show Ok X (d + 4) 19 1 ([some (.inr (.inr (.inl 2))), some (.inl v1), z2], [], mm V h) QQ
    refine ok_if_lt (x := v1) (L := [some (.inr (.inr (.inl 2))), some (.inl v1), z2]) (S := []) (M := mm V h) rfl rfl (fun c1 => ?_) (fun c1 => ?_)
    ·
      replace hf := (if_pos c1).symm.trans hf
      obtain rfl := Option.some.inj hf
      refine ok_return (L := [some (.inr (.inr (.inl 2))), some (.inl v1), z2]) (M := mm V h) rfl rfl ?_
      exact ⟨rfl, rfl⟩
    ·
      replace hf := (if_neg (Int.not_lt.mpr c1)).symm.trans hf
      refine ok_thru (L := [some (.inr (.inr (.inl 2))), some (.inl v1), some (.inl 0)]) (S := []) (M := mm V h) rfl rfl ?_
      exact s_Road_weighHeights_3 hf ih
theorem s_Road_weighHeights_1 {X : Xs} {d : Nat} {h : HP} {V : VV} {v1 : Int} {z2 : Option AV} {n : Nat} {q : VV} (hf : f_Road_weighHeights_1 n V v1 = some q) : Ok X (d + 4) 19 1 ([some (.inr (.inr (.inl 2))), some (.inl v1), z2], [], mm V h) (fun M r => M = mm q h ∧ r = none) :=
  s_Road_weighHeights_1_n n V v1 z2 hf
def f_Road_weighHeights (V : VV)  : Option (VV) := f_Road_weighHeights_1 FU V (w32 ((V 1 8) - 1))
set_option maxRecDepth 20000 in
set_option maxHeartbeats 4000000 in
theorem s_Road_weighHeights {X : Xs} {d : Nat} {V : VV} {h : HP} {q : VV} (hf : f_Road_weighHeights V = some q) : Ok X (d + 4) 19 0 ([some (.inr (.inr (.inl 2))), none, none], [], mm V h) (fun M r => M = mm q h ∧ r = none) := by
  let QQ : Mm → Option AV → Prop := fun M r => M = mm q h ∧ r = none
  show Ok X (d + 4) 19 0 ([some (.inr (.inr (.inl 2))), none, none], [], mm V h) QQ
  refine ok_thru (L := [some (.inr (.inr (.inl 2))), some (.inl (w32 ((V 1 8) - 1))), none]) (S := []) (M := mm V h) rfl rfl ?_
  exact s_Road_weighHeights_1 hf
def f_Road_chooseLevels_9 (k1 : VV → Int → Int → Int → (Option (VV))) (V : VV) (v3 : Int) (v4 : Int) : Option (VV) := k1 V (w32 (v4 - (V 1 11))) (w32 (v4 + (V 1 11))) (w32 (v3 + 1))
set_option maxRecDepth 20000 in
set_option maxHeartbeats 4000000 in
theorem s_Road_chooseLevels_9 {X : Xs} {d : Nat} {k1 : VV → Int → Int → Int → (Option (VV))} {V : VV} {h : HP} {v3 : Int} {v4 : Int} {w1 : Int} {w2 : Int} {q : VV} (hf : f_Road_chooseLevels_9 k1 V v3 v4 = some q) (K1 : ∀ (V : VV) (v1 : Int) (v2 : Int) (v3 : Int) (z4 : Option AV), k1 V v1 v2 v3 = some q → Ok X (d + 3) 23 1 ([some (.inr (.inr (.inl 2))), some (.inl v1), some (.inl v2), some (.inl v3), z4], [], mm V h) (fun M r => M = mm q h ∧ r = none)) : Ok X (d + 3) 23 9 ([some (.inr (.inr (.inl 2))), some (.inl w1), some (.inl w2), some (.inl v3), some (.inl v4)], [], mm V h) (fun M r => M = mm q h ∧ r = none) := by
  let QQ : Mm → Option AV → Prop := fun M r => M = mm q h ∧ r = none
  show Ok X (d + 3) 23 9 ([some (.inr (.inr (.inl 2))), some (.inl w1), some (.inl w2), some (.inl v3), some (.inl v4)], [], mm V h) QQ
  refine ok_goto (L := [some (.inr (.inr (.inl 2))), some (.inl (w32 (v4 - (V 1 11)))), some (.inl (w32 (v4 + (V 1 11)))), some (.inl (w32 (v3 + 1))), some (.inl v4)]) (S := []) (M := mm V h) rfl rfl ?_
  exact K1 V (w32 (v4 - (V 1 11))) (w32 (v4 + (V 1 11))) (w32 (v3 + 1)) (some (.inl v4)) hf
def f_Road_chooseLevels_1 : Nat → VV → Int → Int → Int → (Option (VV))
  | 0, _, _, _, _ => none
  | n + 1, V, v1, v2, v3 => if v3 < (V 1 8) then Option.bind (f_Road_cheapest V v3 v1 v2) (fun q2 => if q2 = (-1) then some (up V 1 15 (-1)) else lt_ (setV V 4 12 v3 q2) (fun q4 => if v3 = 0 then f_Road_chooseLevels_9 (f_Road_chooseLevels_1 n) (up q4 1 15 (atV q4 5 732 q2)) v3 q2 else f_Road_chooseLevels_9 (f_Road_chooseLevels_1 n) q4 v3 q2)) else some V
set_option maxRecDepth 20000 in
set_option maxHeartbeats 4000000 in
theorem s_Road_chooseLevels_1_n {X : Xs} {d : Nat} {h : HP} {q : VV} : ∀ (n : Nat) (V : VV) (v1 : Int) (v2 : Int) (v3 : Int) (z4 : Option AV), f_Road_chooseLevels_1 n V v1 v2 v3 = some q → Ok X (d + 3) 23 1 ([some (.inr (.inr (.inl 2))), some (.inl v1), some (.inl v2), some (.inl v3), z4], [], mm V h) (fun M r => M = mm q h ∧ r = none) := by
  intro n
  induction n with
  | zero => intro V v1 v2 v3 z4 hf; cases hf
  | succ n ih =>
    intro V v1 v2 v3 z4 hf
    let QQ : Mm → Option AV → Prop := fun M r => M = mm q h ∧ r = none
    show Ok X (d + 3) 23 1 ([some (.inr (.inr (.inl 2))), some (.inl v1), some (.inl v2), some (.inl v3), z4], [], mm V h) QQ
    refine ok_ic_ge (x := v3) (u := V 1 8) (L := [some (.inr (.inr (.inl 2))), some (.inl v1), some (.inl v2), some (.inl v3), z4]) (S := []) (M := mm V h) rfl rfl (fun c1 => ?_) (fun c1 => ?_)
    ·
      replace hf := (if_neg (Int.not_lt.mpr c1)).symm.trans hf
      obtain rfl := Option.some.inj hf
      refine ok_return (L := [some (.inr (.inr (.inl 2))), some (.inl v1), some (.inl v2), some (.inl v3), z4]) (M := mm V h) rfl rfl ?_
      exact ⟨rfl, rfl⟩
    ·
      replace hf := (if_pos c1).symm.trans hf
      obtain ⟨q2, e2, hf⟩ := obind hf
      refine ok_callA (L := [some (.inr (.inr (.inl 2))), some (.inl v1), some (.inl v2), some (.inl v3), z4]) (M := mm V h) (args := [.inr (.inr (.inl 2)), .inl v3, .inl v1, .inl v2]) (rest := []) (y2 := 22) rfl rfl rfl (Or.inl rfl) rfl rfl (Nat.le_of_ble_eq_true rfl) rfl rfl (Nat.le_of_ble_eq_true rfl) (Nat.le_of_ble_eq_true rfl) (s_Road_cheapest e2) ?_
      rintro _ _ ⟨rfl, rfl⟩
      refine ok_ic_ne (x := q2) (u := (-1)) (L := [some (.inr (.inr (.inl 2))), some (.inl v1), some (.inl v2), some (.inl v3), some (.inl q2)]) (S := []) (M := mm V h) rfl rfl (fun c3 => ?_) (fun c3 => ?_)
      ·
        replace hf := (if_neg c3).symm.trans hf
        obtain ⟨q4, e4, hf⟩ := lt_x hf
        refine ok_callA (L := [some (.inr (.inr (.inl 2))), some (.inl v1), some (.inl v2), some (.inl v3), some (.inl q2)]) (M := mm V h) (args := [.inr (.inr (.inl 5)), .inl v3, .inl q2]) (rest := []) (y2 := 9) rfl rfl rfl (Or.inr (Or.inl rfl)) rfl rfl (Nat.le_of_ble_eq_true rfl) rfl rfl (Nat.le_of_ble_eq_true rfl) (Nat.le_of_ble_eq_true rfl) (w_set rfl e4) ?_
        rintro _ _ ⟨rfl, rfl⟩
        refine ok_if_ne (x := v3) (L := [some (.inr (.inr (.inl 2))), some (.inl v1), some (.inl v2), some (.inl v3), some (.inl q2)]) (S := []) (M := mm q4 h) rfl rfl (fun c5 => ?_) (fun c5 => ?_)
        ·
          replace hf := (if_neg c5).symm.trans hf
          exact s_Road_chooseLevels_9 hf ih
        ·
          replace hf := (if_pos c5).symm.trans hf
          refine ok_callA (L := [some (.inr (.inr (.inl 2))), some (.inl v1), some (.inl v2), some (.inl v3), some (.inl q2)]) (M := mm q4 h) (args := [.inr (.inr (.inl 6)), .inl q2]) (rest := [.inr (.inr (.inl 2))]) (y2 := 21) rfl rfl rfl (Or.inr (Or.inl rfl)) rfl rfl (Nat.le_of_ble_eq_true rfl) rfl rfl (Nat.le_of_ble_eq_true rfl) (Nat.le_of_ble_eq_true rfl) (w_at rfl rfl) ?_
          rintro _ _ ⟨rfl, rfl⟩
          refine ok_thru (L := [some (.inr (.inr (.inl 2))), some (.inl v1), some (.inl v2), some (.inl v3), some (.inl q2)]) (S := []) (M := mm (up q4 1 15 (atV q4 5 732 q2)) h) rfl rfl ?_
          exact s_Road_chooseLevels_9 hf ih
      ·
        replace hf := (if_pos c3).symm.trans hf
        obtain rfl := Option.some.inj hf
        refine ok_return (L := [some (.inr (.inr (.inl 2))), some (.inl v1), some (.inl v2), some (.inl v3), some (.inl q2)]) (M := mm (up V 1 15 (-1)) h) rfl rfl ?_
        exact ⟨rfl, rfl⟩
theorem s_Road_chooseLevels_1 {X : Xs} {d : Nat} {h : HP} {V : VV} {v1 : Int} {v2 : Int} {v3 : Int} {z4 : Option AV} {n : Nat} {q : VV} (hf : f_Road_chooseLevels_1 n V v1 v2 v3 = some q) : Ok X (d + 3) 23 1 ([some (.inr (.inr (.inl 2))), some (.inl v1), some (.inl v2), some (.inl v3), z4], [], mm V h) (fun M r => M = mm q h ∧ r = none) :=
  s_Road_chooseLevels_1_n n V v1 v2 v3 z4 hf
def f_Road_chooseLevels (V : VV)  : Option (VV) := f_Road_chooseLevels_1 FU (up V 1 15 (-1)) 0 60 0
set_option maxRecDepth 20000 in
set_option maxHeartbeats 4000000 in
theorem s_Road_chooseLevels {X : Xs} {d : Nat} {V : VV} {h : HP} {q : VV} (hf : f_Road_chooseLevels V = some q) : Ok X (d + 3) 23 0 ([some (.inr (.inr (.inl 2))), none, none, none, none], [], mm V h) (fun M r => M = mm q h ∧ r = none) := by
  let QQ : Mm → Option AV → Prop := fun M r => M = mm q h ∧ r = none
  show Ok X (d + 3) 23 0 ([some (.inr (.inr (.inl 2))), none, none, none, none], [], mm V h) QQ
  refine ok_thru (L := [some (.inr (.inr (.inl 2))), some (.inl 0), some (.inl 60), some (.inl 0), none]) (S := []) (M := mm (up V 1 15 (-1)) h) rfl rfl ?_
  exact s_Road_chooseLevels_1 hf
def f_Road_measureJobs_1 : Nat → VV → Int → (Option (VV))
  | 0, _, _ => none
  | n + 1, V, v1 => if v1 < (f_Road_jobs V) then Option.bind (f_Road_sectionOf V v1) (fun q3 => lt_ (setV V 8 36 v1 (w32 ((atV V 6 3 (f_Road_layerOf V v1)) + (if (f_Road_layerOf V v1) = 0 then max 0 (w32 ((atV V 4 12 q3) - (atV V 3 12 q3))) else 0 : Int)))) (fun q7 => lt_ (setV q7 9 36 v1 (w32 (Int.tdiv (w32 ((w32 ((w32 ((w32 ((atV q7 2 12 q3) * (q7 1 10))) * (w32 ((atV V 6 3 (f_Road_layerOf V v1)) + (if (f_Road_layerOf V v1) = 0 then max 0 (w32 ((atV V 4 12 q3) - (atV V 3 12 q3))) else 0 : Int))))) * 24)) + 99999)) 100000))) (fun q10 => f_Road_measureJobs_1 n q10 (w32 (v1 + 1))))) else some V
set_option maxRecDepth 20000 in
set_option maxHeartbeats 4000000 in
theorem s_Road_measureJobs_1_n {X : Xs} {d : Nat} {h : HP} {q : VV} : ∀ (n : Nat) (V : VV) (v1 : Int) (z2 : Option AV) (z3 : Option AV) (z4 : Option AV) (z5 : Option AV), f_Road_measureJobs_1 n V v1 = some q → Ok X (d + 3) 24 1 ([some (.inr (.inr (.inl 2))), some (.inl v1), z2, z3, z4, z5], [], mm V h) (fun M r => M = mm q h ∧ r = none) := by
  intro n
  induction n with
  | zero => intro V v1 z2 z3 z4 z5 hf; cases hf
  | succ n ih =>
    intro V v1 z2 z3 z4 z5 hf
    let QQ : Mm → Option AV → Prop := fun M r => M = mm q h ∧ r = none
    show Ok X (d + 3) 24 1 ([some (.inr (.inr (.inl 2))), some (.inl v1), z2, z3, z4, z5], [], mm V h) QQ
    refine ok_callA (L := [some (.inr (.inr (.inl 2))), some (.inl v1), z2, z3, z4, z5]) (M := mm V h) (args := [.inr (.inr (.inl 2))]) (rest := [.inl v1]) (y2 := 25) rfl rfl rfl (Or.inl rfl) rfl rfl (Nat.le_of_ble_eq_true rfl) rfl rfl (Nat.le_of_ble_eq_true rfl) (Nat.le_of_ble_eq_true rfl) (s_Road_jobs rfl) ?_
    rintro _ _ ⟨rfl, rfl⟩
    refine ok_ic_ge (x := v1) (u := f_Road_jobs V) (L := [some (.inr (.inr (.inl 2))), some (.inl v1), z2, z3, z4, z5]) (S := []) (M := mm V h) rfl rfl (fun c2 => ?_) (fun c2 => ?_)
    ·
      replace hf := (if_neg (Int.not_lt.mpr c2)).symm.trans hf
      obtain rfl := Option.some.inj hf
      refine ok_return (L := [some (.inr (.inr (.inl 2))), some (.inl v1), z2, z3, z4, z5]) (M := mm V h) rfl rfl ?_
      exact ⟨rfl, rfl⟩
    ·
      replace hf := (if_pos c2).symm.trans hf
      obtain ⟨q3, e3, hf⟩ := obind hf
      refine ok_callA (L := [some (.inr (.inr (.inl 2))), some (.inl v1), z2, z3, z4, z5]) (M := mm V h) (args := [.inr (.inr (.inl 2)), .inl v1]) (rest := []) (y2 := 26) rfl rfl rfl (Or.inl rfl) rfl rfl (Nat.le_of_ble_eq_true rfl) rfl rfl (Nat.le_of_ble_eq_true rfl) (Nat.le_of_ble_eq_true rfl) (s_Road_sectionOf e3) ?_
      rintro _ _ ⟨rfl, rfl⟩
      refine ok_callA (L := [some (.inr (.inr (.inl 2))), some (.inl v1), some (.inl q3), z3, z4, z5]) (M := mm V h) (args := [.inr (.inr (.inl 2)), .inl v1]) (rest := []) (y2 := 27) rfl rfl rfl (Or.inl rfl) rfl rfl (Nat.le_of_ble_eq_true rfl) rfl rfl (Nat.le_of_ble_eq_true rfl) (Nat.le_of_ble_eq_true rfl) (s_Road_layerOf rfl) ?_
      rintro _ _ ⟨rfl, rfl⟩
      have JN5 : Ok X (d + 3) 24 11 ([some (.inr (.inr (.inl 2))), some (.inl v1), some (.inl q3), some (.inl (f_Road_layerOf V v1)), z4, z5], [.inl (if (f_Road_layerOf V v1) = 0 then max 0 (w32 ((atV V 4 12 q3) - (atV V 3 12 q3))) else 0 : Int)], mm V h) QQ := by
        refine ok_callA (L := [some (.inr (.inr (.inl 2))), some (.inl v1), some (.inl q3), some (.inl (f_Road_layerOf V v1)), some (.inl (if (f_Road_layerOf V v1) = 0 then max 0 (w32 ((atV V 4 12 q3) - (atV V 3 12 q3))) else 0 : Int)), z5]) (M := mm V h) (args := [.inr (.inr (.inl 7)), .inl (f_Road_layerOf V v1)]) (rest := []) (y2 := 21) rfl rfl rfl (Or.inr (Or.inl rfl)) rfl rfl (Nat.le_of_ble_eq_true rfl) rfl rfl (Nat.le_of_ble_eq_true rfl) (Nat.le_of_ble_eq_true rfl) (w_at rfl rfl) ?_
        rintro _ _ ⟨rfl, rfl⟩
        obtain ⟨q7, e7, hf⟩ := lt_x hf
        refine ok_callA (L := [some (.inr (.inr (.inl 2))), some (.inl v1), some (.inl q3), some (.inl (f_Road_layerOf V v1)), some (.inl (if (f_Road_layerOf V v1) = 0 then max 0 (w32 ((atV V 4 12 q3) - (atV V 3 12 q3))) else 0 : Int)), some (.inl (w32 ((atV V 6 3 (f_Road_layerOf V v1)) + (if (f_Road_layerOf V v1) = 0 then max 0 (w32 ((atV V 4 12 q3) - (atV V 3 12 q3))) else 0 : Int))))]) (M := mm V h) (args := [.inr (.inr (.inl 9)), .inl v1, .inl (w32 ((atV V 6 3 (f_Road_layerOf V v1)) + (if (f_Road_layerOf V v1) = 0 then max 0 (w32 ((atV V 4 12 q3) - (atV V 3 12 q3))) else 0 : Int)))]) (rest := []) (y2 := 9) rfl rfl rfl (Or.inr (Or.inl rfl)) rfl rfl (Nat.le_of_ble_eq_true rfl) rfl rfl (Nat.le_of_ble_eq_true rfl) (Nat.le_of_ble_eq_true rfl) (w_set rfl e7) ?_
        rintro _ _ ⟨rfl, rfl⟩
        refine ok_callA (L := [some (.inr (.inr (.inl 2))), some (.inl v1), some (.inl q3), some (.inl (f_Road_layerOf V v1)), some (.inl (if (f_Road_layerOf V v1) = 0 then max 0 (w32 ((atV V 4 12 q3) - (atV V 3 12 q3))) else 0 : Int)), some (.inl (w32 ((atV V 6 3 (f_Road_layerOf V v1)) + (if (f_Road_layerOf V v1) = 0 then max 0 (w32 ((atV V 4 12 q3) - (atV V 3 12 q3))) else 0 : Int))))]) (M := mm q7 h) (args := [.inr (.inr (.inl 3)), .inl q3]) (rest := [.inl v1, .inr (.inr (.inl 10))]) (y2 := 21) rfl rfl rfl (Or.inr (Or.inl rfl)) rfl rfl (Nat.le_of_ble_eq_true rfl) rfl rfl (Nat.le_of_ble_eq_true rfl) (Nat.le_of_ble_eq_true rfl) (w_at rfl rfl) ?_
        rintro _ _ ⟨rfl, rfl⟩
        refine ok_idiv (u := w32 ((w32 ((w32 ((w32 ((atV q7 2 12 q3) * (q7 1 10))) * (w32 ((atV V 6 3 (f_Road_layerOf V v1)) + (if (f_Road_layerOf V v1) = 0 then max 0 (w32 ((atV V 4 12 q3) - (atV V 3 12 q3))) else 0 : Int))))) * 24)) + 99999)) (v := 100000) (L := [some (.inr (.inr (.inl 2))), some (.inl v1), some (.inl q3), some (.inl (f_Road_layerOf V v1)), some (.inl (if (f_Road_layerOf V v1) = 0 then max 0 (w32 ((atV V 4 12 q3) - (atV V 3 12 q3))) else 0 : Int)), some (.inl (w32 ((atV V 6 3 (f_Road_layerOf V v1)) + (if (f_Road_layerOf V v1) = 0 then max 0 (w32 ((atV V 4 12 q3) - (atV V 3 12 q3))) else 0 : Int))))]) (S := [.inl v1, .inr (.inr (.inl 10))]) (M := mm q7 h) rfl rfl (by decide) ?_
        obtain ⟨q10, e10, hf⟩ := lt_x hf
        refine ok_callA (L := [some (.inr (.inr (.inl 2))), some (.inl v1), some (.inl q3), some (.inl (f_Road_layerOf V v1)), some (.inl (if (f_Road_layerOf V v1) = 0 then max 0 (w32 ((atV V 4 12 q3) - (atV V 3 12 q3))) else 0 : Int)), some (.inl (w32 ((atV V 6 3 (f_Road_layerOf V v1)) + (if (f_Road_layerOf V v1) = 0 then max 0 (w32 ((atV V 4 12 q3) - (atV V 3 12 q3))) else 0 : Int))))]) (M := mm q7 h) (args := [.inr (.inr (.inl 10)), .inl v1, .inl (w32 (Int.tdiv (w32 ((w32 ((w32 ((w32 ((atV q7 2 12 q3) * (q7 1 10))) * (w32 ((atV V 6 3 (f_Road_layerOf V v1)) + (if (f_Road_layerOf V v1) = 0 then max 0 (w32 ((atV V 4 12 q3) - (atV V 3 12 q3))) else 0 : Int))))) * 24)) + 99999)) 100000))]) (rest := []) (y2 := 9) rfl rfl rfl (Or.inr (Or.inl rfl)) rfl rfl (Nat.le_of_ble_eq_true rfl) rfl rfl (Nat.le_of_ble_eq_true rfl) (Nat.le_of_ble_eq_true rfl) (w_set rfl e10) ?_
        rintro _ _ ⟨rfl, rfl⟩
        refine ok_goto (L := [some (.inr (.inr (.inl 2))), some (.inl (w32 (v1 + 1))), some (.inl q3), some (.inl (f_Road_layerOf V v1)), some (.inl (if (f_Road_layerOf V v1) = 0 then max 0 (w32 ((atV V 4 12 q3) - (atV V 3 12 q3))) else 0 : Int)), some (.inl (w32 ((atV V 6 3 (f_Road_layerOf V v1)) + (if (f_Road_layerOf V v1) = 0 then max 0 (w32 ((atV V 4 12 q3) - (atV V 3 12 q3))) else 0 : Int))))]) (S := []) (M := mm q10 h) rfl rfl ?_
        exact ih q10 (w32 (v1 + 1)) (some (.inl q3)) (some (.inl (f_Road_layerOf V v1))) (some (.inl (if (f_Road_layerOf V v1) = 0 then max 0 (w32 ((atV V 4 12 q3) - (atV V 3 12 q3))) else 0 : Int))) (some (.inl (w32 ((atV V 6 3 (f_Road_layerOf V v1)) + (if (f_Road_layerOf V v1) = 0 then max 0 (w32 ((atV V 4 12 q3) - (atV V 3 12 q3))) else 0 : Int))))) hf
      clear hf
      refine ok_if_ne (x := f_Road_layerOf V v1) (L := [some (.inr (.inr (.inl 2))), some (.inl v1), some (.inl q3), some (.inl (f_Road_layerOf V v1)), z4, z5]) (S := []) (M := mm V h) rfl rfl (fun c11 => ?_) (fun c11 => ?_)
      ·
        simp only [if_neg c11] at JN5
        refine ok_thru (L := [some (.inr (.inr (.inl 2))), some (.inl v1), some (.inl q3), some (.inl (f_Road_layerOf V v1)), z4, z5]) (S := [.inl 0]) (M := mm V h) rfl rfl ?_
        first | exact JN5 | (simp only [if_neg c11]; exact JN5)
      ·
        simp only [if_pos c11] at JN5
        refine ok_callA (L := [some (.inr (.inr (.inl 2))), some (.inl v1), some (.inl q3), some (.inl (f_Road_layerOf V v1)), z4, z5]) (M := mm V h) (args := [.inr (.inr (.inl 5)), .inl q3]) (rest := [.inl 0]) (y2 := 21) rfl rfl rfl (Or.inr (Or.inl rfl)) rfl rfl (Nat.le_of_ble_eq_true rfl) rfl rfl (Nat.le_of_ble_eq_true rfl) (Nat.le_of_ble_eq_true rfl) (w_at rfl rfl) ?_
        rintro _ _ ⟨rfl, rfl⟩
        refine ok_callA (L := [some (.inr (.inr (.inl 2))), some (.inl v1), some (.inl q3), some (.inl (f_Road_layerOf V v1)), z4, z5]) (M := mm V h) (args := [.inr (.inr (.inl 4)), .inl q3]) (rest := [.inl (atV V 4 12 q3), .inl 0]) (y2 := 21) rfl rfl rfl (Or.inr (Or.inl rfl)) rfl rfl (Nat.le_of_ble_eq_true rfl) rfl rfl (Nat.le_of_ble_eq_true rfl) (Nat.le_of_ble_eq_true rfl) (w_at rfl rfl) ?_
        rintro _ _ ⟨rfl, rfl⟩
        refine ok_mmax (u := 0) (v := w32 ((atV V 4 12 q3) - (atV V 3 12 q3))) (L := [some (.inr (.inr (.inl 2))), some (.inl v1), some (.inl q3), some (.inl (f_Road_layerOf V v1)), z4, z5]) (S := []) (M := mm V h) rfl rfl rfl (Nat.le_of_ble_eq_true rfl) ?_
        refine ok_goto (L := [some (.inr (.inr (.inl 2))), some (.inl v1), some (.inl q3), some (.inl (f_Road_layerOf V v1)), z4, z5]) (S := [.inl (max 0 (w32 ((atV V 4 12 q3) - (atV V 3 12 q3))))]) (M := mm V h) rfl rfl ?_
        first | exact JN5 | (simp only [if_pos c11]; exact JN5)
theorem s_Road_measureJobs_1 {X : Xs} {d : Nat} {h : HP} {V : VV} {v1 : Int} {z2 : Option AV} {z3 : Option AV} {z4 : Option AV} {z5 : Option AV} {n : Nat} {q : VV} (hf : f_Road_measureJobs_1 n V v1 = some q) : Ok X (d + 3) 24 1 ([some (.inr (.inr (.inl 2))), some (.inl v1), z2, z3, z4, z5], [], mm V h) (fun M r => M = mm q h ∧ r = none) :=
  s_Road_measureJobs_1_n n V v1 z2 z3 z4 z5 hf
def f_Road_measureJobs (V : VV)  : Option (VV) := f_Road_measureJobs_1 FU V 0
set_option maxRecDepth 20000 in
set_option maxHeartbeats 4000000 in
theorem s_Road_measureJobs {X : Xs} {d : Nat} {V : VV} {h : HP} {q : VV} (hf : f_Road_measureJobs V = some q) : Ok X (d + 3) 24 0 ([some (.inr (.inr (.inl 2))), none, none, none, none, none], [], mm V h) (fun M r => M = mm q h ∧ r = none) := by
  let QQ : Mm → Option AV → Prop := fun M r => M = mm q h ∧ r = none
  show Ok X (d + 3) 24 0 ([some (.inr (.inr (.inl 2))), none, none, none, none, none], [], mm V h) QQ
  refine ok_thru (L := [some (.inr (.inr (.inl 2))), some (.inl 0), none, none, none, none]) (S := []) (M := mm V h) rfl rfl ?_
  exact s_Road_measureJobs_1 hf
def f_Road_settle (V : VV)  : Option (VV) := Option.bind (f_Road_weighHeights V) (fun q1 => Option.bind (f_Road_chooseLevels q1) (fun q2 => Option.bind (f_Road_measureJobs q2) (fun q3 => some q3)))
set_option maxRecDepth 20000 in
set_option maxHeartbeats 4000000 in
theorem s_Road_settle {X : Xs} {d : Nat} {V : VV} {h : HP} {q : VV} (hf : f_Road_settle V = some q) : Ok X (d + 5) 18 0 ([some (.inr (.inr (.inl 2)))], [], mm V h) (fun M r => M = mm q h ∧ r = none) := by
  let QQ : Mm → Option AV → Prop := fun M r => M = mm q h ∧ r = none
  show Ok X (d + 5) 18 0 ([some (.inr (.inr (.inl 2)))], [], mm V h) QQ
  obtain ⟨q1, e1, hf⟩ := obind hf
  refine ok_callA (L := [some (.inr (.inr (.inl 2)))]) (M := mm V h) (args := [.inr (.inr (.inl 2))]) (rest := []) (y2 := 19) rfl rfl rfl (Or.inl rfl) rfl rfl (Nat.le_of_ble_eq_true rfl) rfl rfl (Nat.le_of_ble_eq_true rfl) (Nat.le_of_ble_eq_true rfl) (s_Road_weighHeights e1) ?_
  rintro _ _ ⟨rfl, rfl⟩
  obtain ⟨q2, e2, hf⟩ := obind hf
  refine ok_callA (L := [some (.inr (.inr (.inl 2)))]) (M := mm q1 h) (args := [.inr (.inr (.inl 2))]) (rest := []) (y2 := 23) rfl rfl rfl (Or.inl rfl) rfl rfl (Nat.le_of_ble_eq_true rfl) rfl rfl (Nat.le_of_ble_eq_true rfl) (Nat.le_of_ble_eq_true rfl) (s_Road_chooseLevels e2) ?_
  rintro _ _ ⟨rfl, rfl⟩
  obtain ⟨q3, e3, hf⟩ := obind hf
  refine ok_callA (L := [some (.inr (.inr (.inl 2)))]) (M := mm q2 h) (args := [.inr (.inr (.inl 2))]) (rest := []) (y2 := 24) rfl rfl rfl (Or.inl rfl) rfl rfl (Nat.le_of_ble_eq_true rfl) rfl rfl (Nat.le_of_ble_eq_true rfl) (Nat.le_of_ble_eq_true rfl) (s_Road_measureJobs e3) ?_
  rintro _ _ ⟨rfl, rfl⟩
  obtain rfl := Option.some.inj hf
  refine ok_return (L := [some (.inr (.inr (.inl 2)))]) (M := mm q3 h) rfl rfl ?_
  exact ⟨rfl, rfl⟩
def f_Road_allTonnes_6 (V : VV) (v1 : Int) : Option (Int) := some v1
set_option maxRecDepth 20000 in
set_option maxHeartbeats 4000000 in
theorem s_Road_allTonnes_6 {X : Xs} {d : Nat} {V : VV} {h : HP} {v1 : Int} {w2 : Int} {q : Int} (hf : f_Road_allTonnes_6 V v1 = some q) : Ok X (d + 2) 149 6 ([some (.inr (.inr (.inl 2))), some (.inl v1), some (.inl w2)], [], mm V h) (fun M r => M = mm V h ∧ r = some (.inl q)) := by
  let QQ : Mm → Option AV → Prop := fun M r => M = mm V h ∧ r = some (.inl q)
  show Ok X (d + 2) 149 6 ([some (.inr (.inr (.inl 2))), some (.inl v1), some (.inl w2)], [], mm V h) QQ
  obtain rfl := Option.some.inj hf
  refine ok_ireturn (L := [some (.inr (.inr (.inl 2))), some (.inl v1), some (.inl w2)]) (M := mm V h) (x := v1) rfl rfl ?_
  exact ⟨rfl, rfl⟩
def f_Road_allTonnes_1 : Nat → VV → Int → Int → (Option (Int))
  | 0, _, _, _ => none
  | n + 1, V, v1, v2 => if v2 < (f_Road_jobs V) then if (V 1 15) = (-1) then f_Road_allTonnes_6 V v1 else f_Road_allTonnes_1 n V (w32 (v1 + (atV V 9 36 v2))) (w32 (v2 + 1)) else f_Road_allTonnes_6 V v1
set_option maxRecDepth 20000 in
set_option maxHeartbeats 4000000 in
theorem s_Road_allTonnes_1_n {X : Xs} {d : Nat} {V : VV} {h : HP} {q : Int} : ∀ (n : Nat) (v1 : Int) (v2 : Int), f_Road_allTonnes_1 n V v1 v2 = some q → Ok X (d + 2) 149 1 ([some (.inr (.inr (.inl 2))), some (.inl v1), some (.inl v2)], [], mm V h) (fun M r => M = mm V h ∧ r = some (.inl q)) := by
  intro n
  induction n with
  | zero => intro v1 v2 hf; cases hf
  | succ n ih =>
    intro v1 v2 hf
    let QQ : Mm → Option AV → Prop := fun M r => M = mm V h ∧ r = some (.inl q)
    show Ok X (d + 2) 149 1 ([some (.inr (.inr (.inl 2))), some (.inl v1), some (.inl v2)], [], mm V h) QQ
    refine ok_callA (L := [some (.inr (.inr (.inl 2))), some (.inl v1), some (.inl v2)]) (M := mm V h) (args := [.inr (.inr (.inl 2))]) (rest := [.inl v2]) (y2 := 25) rfl rfl rfl (Or.inl rfl) rfl rfl (Nat.le_of_ble_eq_true rfl) rfl rfl (Nat.le_of_ble_eq_true rfl) (Nat.le_of_ble_eq_true rfl) (s_Road_jobs rfl) ?_
    rintro _ _ ⟨rfl, rfl⟩
    refine ok_ic_ge (x := v2) (u := f_Road_jobs V) (L := [some (.inr (.inr (.inl 2))), some (.inl v1), some (.inl v2)]) (S := []) (M := mm V h) rfl rfl (fun c2 => ?_) (fun c2 => ?_)
    ·
      replace hf := (if_neg (Int.not_lt.mpr c2)).symm.trans hf
      exact s_Road_allTonnes_6 hf
    ·
      replace hf := (if_pos c2).symm.trans hf
      refine ok_ic_eq (x := V 1 15) (u := (-1)) (L := [some (.inr (.inr (.inl 2))), some (.inl v1), some (.inl v2)]) (S := []) (M := mm V h) rfl rfl (fun c3 => ?_) (fun c3 => ?_)
      ·
        replace hf := (if_pos c3).symm.trans hf
        exact s_Road_allTonnes_6 hf
      ·
        replace hf := (if_neg c3).symm.trans hf
        refine ok_callA (L := [some (.inr (.inr (.inl 2))), some (.inl v1), some (.inl v2)]) (M := mm V h) (args := [.inr (.inr (.inl 10)), .inl v2]) (rest := [.inl v1]) (y2 := 21) rfl rfl rfl (Or.inr (Or.inl rfl)) rfl rfl (Nat.le_of_ble_eq_true rfl) rfl rfl (Nat.le_of_ble_eq_true rfl) (Nat.le_of_ble_eq_true rfl) (w_at rfl rfl) ?_
        rintro _ _ ⟨rfl, rfl⟩
        refine ok_goto (L := [some (.inr (.inr (.inl 2))), some (.inl (w32 (v1 + (atV V 9 36 v2)))), some (.inl (w32 (v2 + 1)))]) (S := []) (M := mm V h) rfl rfl ?_
        exact ih (w32 (v1 + (atV V 9 36 v2))) (w32 (v2 + 1)) hf
theorem s_Road_allTonnes_1 {X : Xs} {d : Nat} {V : VV} {h : HP} {v1 : Int} {v2 : Int} {n : Nat} {q : Int} (hf : f_Road_allTonnes_1 n V v1 v2 = some q) : Ok X (d + 2) 149 1 ([some (.inr (.inr (.inl 2))), some (.inl v1), some (.inl v2)], [], mm V h) (fun M r => M = mm V h ∧ r = some (.inl q)) :=
  s_Road_allTonnes_1_n n v1 v2 hf
def f_Road_allTonnes (V : VV)  : Option (Int) := f_Road_allTonnes_1 FU V 0 0
set_option maxRecDepth 20000 in
set_option maxHeartbeats 4000000 in
theorem s_Road_allTonnes {X : Xs} {d : Nat} {V : VV} {h : HP} {q : Int} (hf : f_Road_allTonnes V = some q) : Ok X (d + 2) 149 0 ([some (.inr (.inr (.inl 2))), none, none], [], mm V h) (fun M r => M = mm V h ∧ r = some (.inl q)) := by
  let QQ : Mm → Option AV → Prop := fun M r => M = mm V h ∧ r = some (.inl q)
  show Ok X (d + 2) 149 0 ([some (.inr (.inr (.inl 2))), none, none], [], mm V h) QQ
  refine ok_thru (L := [some (.inr (.inr (.inl 2))), some (.inl 0), some (.inl 0)]) (S := []) (M := mm V h) rfl rfl ?_
  exact s_Road_allTonnes_1 hf
def f_Road_addSection (V : VV) (v1 : Int) (v2 : Int) : Option (VV × Int) := if (V 1 8) < 12 then lt_ (setV V 2 12 (V 1 8) v1) (fun q2 => lt_ (setV q2 3 12 (q2 1 8) v2) (fun q3 => Option.bind (f_Road_settle (up q3 1 8 (w32 ((q3 1 8) + 1)))) (fun q4 => some (q4, w32 ((q4 1 8) - 1))))) else some (V, (-1))
set_option maxRecDepth 20000 in
set_option maxHeartbeats 4000000 in
theorem s_Road_addSection {X : Xs} {d : Nat} {V : VV} {h : HP} {v1 : Int} {v2 : Int} {q : VV × Int} (hf : f_Road_addSection V v1 v2 = some q) : Ok X (d + 6) 17 0 ([some (.inr (.inr (.inl 2))), some (.inl v1), some (.inl v2)], [], mm V h) (fun M r => M = mm q.1 h ∧ r = some (.inl q.2)) := by
  let QQ : Mm → Option AV → Prop := fun M r => M = mm q.1 h ∧ r = some (.inl q.2)
  show Ok X (d + 6) 17 0 ([some (.inr (.inr (.inl 2))), some (.inl v1), some (.inl v2)], [], mm V h) QQ
  refine ok_ic_lt (x := V 1 8) (u := 12) (L := [some (.inr (.inr (.inl 2))), some (.inl v1), some (.inl v2)]) (S := []) (M := mm V h) rfl rfl (fun c1 => ?_) (fun c1 => ?_)
  ·
    replace hf := (if_pos c1).symm.trans hf
    obtain ⟨q2, e2, hf⟩ := lt_x hf
    refine ok_callA (L := [some (.inr (.inr (.inl 2))), some (.inl v1), some (.inl v2)]) (M := mm V h) (args := [.inr (.inr (.inl 3)), .inl (V 1 8), .inl v1]) (rest := []) (y2 := 9) rfl rfl rfl (Or.inr (Or.inl rfl)) rfl rfl (Nat.le_of_ble_eq_true rfl) rfl rfl (Nat.le_of_ble_eq_true rfl) (Nat.le_of_ble_eq_true rfl) (w_set rfl e2) ?_
    rintro _ _ ⟨rfl, rfl⟩
    obtain ⟨q3, e3, hf⟩ := lt_x hf
    refine ok_callA (L := [some (.inr (.inr (.inl 2))), some (.inl v1), some (.inl v2)]) (M := mm q2 h) (args := [.inr (.inr (.inl 4)), .inl (q2 1 8), .inl v2]) (rest := []) (y2 := 9) rfl rfl rfl (Or.inr (Or.inl rfl)) rfl rfl (Nat.le_of_ble_eq_true rfl) rfl rfl (Nat.le_of_ble_eq_true rfl) (Nat.le_of_ble_eq_true rfl) (w_set rfl e3) ?_
    rintro _ _ ⟨rfl, rfl⟩
    obtain ⟨q4, e4, hf⟩ := obind hf
    refine ok_callA (L := [some (.inr (.inr (.inl 2))), some (.inl v1), some (.inl v2)]) (M := mm (up q3 1 8 (w32 ((q3 1 8) + 1))) h) (args := [.inr (.inr (.inl 2))]) (rest := []) (y2 := 18) rfl rfl rfl (Or.inl rfl) rfl rfl (Nat.le_of_ble_eq_true rfl) rfl rfl (Nat.le_of_ble_eq_true rfl) (Nat.le_of_ble_eq_true rfl) (s_Road_settle e4) ?_
    rintro _ _ ⟨rfl, rfl⟩
    obtain rfl := Option.some.inj hf
    refine ok_ireturn (L := [some (.inr (.inr (.inl 2))), some (.inl v1), some (.inl v2)]) (M := mm q4 h) (x := w32 ((q4 1 8) - 1)) rfl rfl ?_
    exact ⟨rfl, rfl⟩
  ·
    replace hf := (if_neg (Int.not_lt.mpr c1)).symm.trans hf
    obtain rfl := Option.some.inj hf
    refine ok_ireturn (L := [some (.inr (.inr (.inl 2))), some (.inl v1), some (.inl v2)]) (M := mm V h) (x := (-1)) rfl rfl ?_
    exact ⟨rfl, rfl⟩
def f_Road_addLayer (V : VV) (v1 : Int) (v2 : Int) : Option (VV × Int) := if (V 1 9) < 3 then lt_ (setV V 6 3 (V 1 9) v1) (fun q2 => lt_ (setV q2 7 3 (q2 1 9) v2) (fun q3 => Option.bind (f_Road_settle (up q3 1 9 (w32 ((q3 1 9) + 1)))) (fun q4 => some (q4, w32 ((q4 1 9) - 1))))) else some (V, (-1))
set_option maxRecDepth 20000 in
set_option maxHeartbeats 4000000 in
theorem s_Road_addLayer {X : Xs} {d : Nat} {V : VV} {h : HP} {v1 : Int} {v2 : Int} {q : VV × Int} (hf : f_Road_addLayer V v1 v2 = some q) : Ok X (d + 6) 35 0 ([some (.inr (.inr (.inl 2))), some (.inl v1), some (.inl v2)], [], mm V h) (fun M r => M = mm q.1 h ∧ r = some (.inl q.2)) := by
  let QQ : Mm → Option AV → Prop := fun M r => M = mm q.1 h ∧ r = some (.inl q.2)
  show Ok X (d + 6) 35 0 ([some (.inr (.inr (.inl 2))), some (.inl v1), some (.inl v2)], [], mm V h) QQ
  refine ok_ic_lt (x := V 1 9) (u := 3) (L := [some (.inr (.inr (.inl 2))), some (.inl v1), some (.inl v2)]) (S := []) (M := mm V h) rfl rfl (fun c1 => ?_) (fun c1 => ?_)
  ·
    replace hf := (if_pos c1).symm.trans hf
    obtain ⟨q2, e2, hf⟩ := lt_x hf
    refine ok_callA (L := [some (.inr (.inr (.inl 2))), some (.inl v1), some (.inl v2)]) (M := mm V h) (args := [.inr (.inr (.inl 7)), .inl (V 1 9), .inl v1]) (rest := []) (y2 := 9) rfl rfl rfl (Or.inr (Or.inl rfl)) rfl rfl (Nat.le_of_ble_eq_true rfl) rfl rfl (Nat.le_of_ble_eq_true rfl) (Nat.le_of_ble_eq_true rfl) (w_set rfl e2) ?_
    rintro _ _ ⟨rfl, rfl⟩
    obtain ⟨q3, e3, hf⟩ := lt_x hf
    refine ok_callA (L := [some (.inr (.inr (.inl 2))), some (.inl v1), some (.inl v2)]) (M := mm q2 h) (args := [.inr (.inr (.inl 8)), .inl (q2 1 9), .inl v2]) (rest := []) (y2 := 9) rfl rfl rfl (Or.inr (Or.inl rfl)) rfl rfl (Nat.le_of_ble_eq_true rfl) rfl rfl (Nat.le_of_ble_eq_true rfl) (Nat.le_of_ble_eq_true rfl) (w_set rfl e3) ?_
    rintro _ _ ⟨rfl, rfl⟩
    obtain ⟨q4, e4, hf⟩ := obind hf
    refine ok_callA (L := [some (.inr (.inr (.inl 2))), some (.inl v1), some (.inl v2)]) (M := mm (up q3 1 9 (w32 ((q3 1 9) + 1))) h) (args := [.inr (.inr (.inl 2))]) (rest := []) (y2 := 18) rfl rfl rfl (Or.inl rfl) rfl rfl (Nat.le_of_ble_eq_true rfl) rfl rfl (Nat.le_of_ble_eq_true rfl) (Nat.le_of_ble_eq_true rfl) (s_Road_settle e4) ?_
    rintro _ _ ⟨rfl, rfl⟩
    obtain rfl := Option.some.inj hf
    refine ok_ireturn (L := [some (.inr (.inr (.inl 2))), some (.inl v1), some (.inl v2)]) (M := mm q4 h) (x := w32 ((q4 1 9) - 1)) rfl rfl ?_
    exact ⟨rfl, rfl⟩
  ·
    replace hf := (if_neg (Int.not_lt.mpr c1)).symm.trans hf
    obtain rfl := Option.some.inj hf
    refine ok_ireturn (L := [some (.inr (.inr (.inl 2))), some (.inl v1), some (.inl v2)]) (M := mm V h) (x := (-1)) rfl rfl ?_
    exact ⟨rfl, rfl⟩
end
section
/-! contracts written by hand: texts, and the loads' rows that grow -/
def lenW (j : Nat) : Int := ((gl SBY j).getD []).length
def chrO (j : Nat) (i : Int) : Option Int := if 0 ≤ i ∧ i < lenW j then some ((gl ((gl SBY j).getD []) i.toNat).getD 0) else none
theorem j_13 {P : Nat → Prop} (h0 : P 0) (h1 : P 1) (h2 : P 2) (h3 : P 3) (h4 : P 4) (h5 : P 5) (h6 : P 6) (h7 : P 7) (h8 : P 8) (h9 : P 9) (h10 : P 10) (h11 : P 11) (h12 : P 12) {j : Nat} (h : j < 13) : P j := by
  have : j = 0 ∨ j = 1 ∨ j = 2 ∨ j = 3 ∨ j = 4 ∨ j = 5 ∨ j = 6 ∨ j = 7 ∨ j = 8 ∨ j = 9 ∨ j = 10 ∨ j = 11 ∨ j = 12 := by omega
  rcases this with rfl | rfl | rfl | rfl | rfl | rfl | rfl | rfl | rfl | rfl | rfl | rfl | rfl <;> assumption
theorem t_13 {j : Nat} (h : j < 13) : (Nat.ble 10 (10 + j) && Nat.blt (10 + j) 23) = true := j_13 (P := fun j => (Nat.ble 10 (10 + j) && Nat.blt (10 + j) 23) = true) rfl rfl rfl rfl rfl rfl rfl rfl rfl rfl rfl rfl rfl h
theorem t_rcv {y j : Nat} {a : List AV} {M : Mm} (hj : j < 13) (hy : (gl RCV y).getD 99 = 50) : rcvOk y (.inr (.inr (.inr (10 + j))) :: a) M = true := by
  unfold rcvOk
  rw [hy]
  show (Nat.beq 50 50 && (Nat.ble 10 (10 + j) && Nat.blt (10 + j) 23)) = true
  rw [t_13 hj]; rfl
theorem t_op1 {X : Xs} {j : Nat} {L : List (Option AV)} {S : List AV} {M : Mm} (hj : j < 13) : op1 X (.instanceof 1) L (.inr (.inr (.inr (10 + j))) :: S) M = some (L, .inl 0 :: S, M) := by
  unfold op1
  simp only [t_13 hj]
theorem t_op0 {X : Xs} {j : Nat} {L : List (Option AV)} {S : List AV} {M : Mm} (hj : j < 13) : op1 X (.instanceof 0) L (.inr (.inr (.inr (10 + j))) :: S) M = some (L, .inr (.inr (.inr (10 + j + 30))) :: S, M) := by
  unfold op1
  simp only [t_13 hj]
theorem t_opl {X : Xs} {j : Nat} {L : List (Option AV)} {S : List AV} {M : Mm} (hj : j < 13) : op1 X .fsub L (.inr (.inr (.inr (10 + j + 30))) :: S) M = some (L, .inl (lenW j) :: S, M) :=
  j_13 (P := fun j => op1 X .fsub L (.inr (.inr (.inr (10 + j + 30))) :: S) M = some (L, .inl (lenW j) :: S, M)) rfl rfl rfl rfl rfl rfl rfl rfl rfl rfl rfl rfl rfl hj
theorem runB_2 {X : Xs} {i : Instr} {is : List Instr} {s u : Fr} (h : op1 X i s.1 s.2.1 s.2.2 = some u) : runB X (i :: is) s = runB X is u := by
  show (match op1 X i s.1 s.2.1 s.2.2 with | some s' => runB X is s' | none => none) = _
  rw [h]

set_option maxRecDepth 20000 in
set_option maxHeartbeats 4000000 in
theorem w_coder {X : Xs} {d j : Nat} {V : VV} {h : HP} (hj : j < 13) : Ok X (d + 1) 61 0 ([some (.inr (.inr (.inr (10 + j))))], [], mm V h) (fun M r => M = mm V h ∧ r = some (.inl 0)) := by
  refine ok_if_eq (x := 1) (L := [some (.inr (.inr (.inr (10 + j))))]) (S := []) (M := mm V h) rfl rfl (fun c => absurd c (by decide)) (fun _ => ?_)
  refine ok_goto (L := [some (.inr (.inr (.inr (10 + j))))]) (S := [.inl 0]) (M := mm V h) rfl (by rw [runB_2 (u := ([some (.inr (.inr (.inr (10 + j))))], [.inr (.inr (.inr (10 + j)))], mm V h)) rfl, runB_2 (t_op1 hj)]; rfl) ?_
  exact ok_creturn (L := [some (.inr (.inr (.inr (10 + j))))]) (M := mm V h) (x := 0) rfl rfl (by decide) ⟨rfl, rfl⟩
set_option maxRecDepth 20000 in
set_option maxHeartbeats 4000000 in
theorem w_latin {X : Xs} {d j : Nat} {V : VV} {h : HP} (hj : j < 13) : Ok X (d + 1) 63 0 ([some (.inr (.inr (.inr (10 + j))))], [], mm V h) (fun M r => M = mm V h ∧ r = some (.inl 1)) := by
  refine ok_if_eq (x := 1) (L := [some (.inr (.inr (.inr (10 + j))))]) (S := []) (M := mm V h) rfl rfl (fun c => absurd c (by decide)) (fun _ => ?_)
  refine ok_if_ne (x := 0) (L := [some (.inr (.inr (.inr (10 + j))))]) (S := []) (M := mm V h) rfl (by rw [runB_2 (u := ([some (.inr (.inr (.inr (10 + j))))], [.inr (.inr (.inr (10 + j)))], mm V h)) rfl, runB_2 (t_op1 hj)]; rfl) (fun c => absurd rfl c) (fun _ => ?_)
  refine ok_goto (L := [some (.inr (.inr (.inr (10 + j))))]) (S := [.inl 1]) (M := mm V h) rfl rfl ?_
  exact ok_zreturn (L := [some (.inr (.inr (.inr (10 + j))))]) (M := mm V h) (x := 1) rfl rfl (Or.inr rfl) ⟨rfl, rfl⟩
theorem t_shr : SBY.all (fun l => decide (ishrI (l.length : Int) 0 = (l.length : Int)) && l.all (fun v => decide (iandI v 255 % 65536 = v ∧ 0 ≤ v ∧ v < 128))) = true := by decide +kernel
theorem t_shr2 {j : Nat} (hj : j < 13) : ishrI (lenW j) 0 = lenW j := j_13 (P := fun j => ishrI (lenW j) 0 = lenW j) (by decide +kernel) (by decide +kernel) (by decide +kernel) (by decide +kernel) (by decide +kernel) (by decide +kernel) (by decide +kernel) (by decide +kernel) (by decide +kernel) (by decide +kernel) (by decide +kernel) (by decide +kernel) (by decide +kernel) hj
theorem gl_mem_ {α : Type} {l : List α} {k : Nat} {a : α} (h : gl l k = some a) : a ∈ l := by
  induction l generalizing k with
  | nil => cases h
  | cons b l ih =>
    cases k with
    | zero => cases h; exact List.mem_cons_self ..
    | succ k => exact List.mem_cons_of_mem _ (ih h)
theorem t_chr {j i : Nat} {v : Int} (h : gl ((gl SBY j).getD []) i = some v) : iandI v 255 % 65536 = v ∧ 0 ≤ v ∧ v < 128 := by
  cases hl : gl SBY j with
  | none => rw [hl] at h; cases h
  | some l =>
    rw [hl] at h
    have h1 := List.all_eq_true.mp t_shr l (gl_mem_ hl)
    rw [Bool.and_eq_true] at h1
    exact of_decide_eq_true (List.all_eq_true.mp h1.2 v (gl_mem_ h))
theorem gl_some_ {α : Type} {l : List α} {k : Nat} (h : k < l.length) : ∃ a, gl l k = some a := by
  induction l generalizing k with
  | nil => exact absurd h (Nat.not_lt_zero _)
  | cons b l ih =>
    cases k with
    | zero => exact ⟨b, rfl⟩
    | succ k => exact ih (Nat.lt_of_succ_lt_succ h)
set_option maxRecDepth 20000 in
set_option maxHeartbeats 4000000 in
theorem w_strlen {X : Xs} {d j : Nat} {V : VV} {h : HP} {q : Int} (hj : j < 13) (e : lenW j = q) : Ok X (d + 3) 60 0 ([some (.inr (.inr (.inr (10 + j))))], [], mm V h) (fun M r => M = mm V h ∧ r = some (.inl q)) := by
  subst e
  refine ok_callA (L := [some (.inr (.inr (.inr (10 + j))))]) (S := [.inr (.inr (.inr (10 + j))), .inl (lenW j)]) (M := mm V h) (args := [.inr (.inr (.inr (10 + j)))]) (rest := [.inl (lenW j)]) (y2 := 61) rfl rfl (by rw [runB_2 (u := ([some (.inr (.inr (.inr (10 + j))))], [.inr (.inr (.inr (10 + j)))], mm V h)) rfl, runB_2 (t_op0 hj), runB_2 (t_opl hj)]; rfl) (Or.inl rfl) rfl rfl (Nat.le_of_ble_eq_true rfl) rfl (t_rcv hj rfl) (Nat.le_of_ble_eq_true rfl) (Nat.le_of_ble_eq_true rfl) (w_coder hj) ?_
  rintro _ _ ⟨rfl, rfl⟩
  exact ok_ireturn (L := [some (.inr (.inr (.inr (10 + j))))]) (M := mm V h) (x := ishrI (lenW j) 0) rfl rfl ⟨rfl, by rw [t_shr2 hj]⟩
set_option maxRecDepth 20000 in
set_option maxHeartbeats 4000000 in
theorem w_chkI {X : Xs} {d : Nat} {V : VV} {h : HP} {i n : Int} (h0 : 0 ≤ i) (h1 : i < n) : Ok X (d + 1) 66 0 ([some (.inl i), some (.inl n), some (.inr (.inr (.inr 1)))], [], mm V h) (fun M r => M = mm V h ∧ r = some (.inl i)) := by
  refine ok_if_lt (x := i) (L := [some (.inl i), some (.inl n), some (.inr (.inr (.inr 1)))]) (S := []) (M := mm V h) rfl rfl (fun c => absurd c (Int.not_lt.mpr h0)) (fun _ => ?_)
  refine ok_ic_lt (x := i) (u := n) (L := [some (.inl i), some (.inl n), some (.inr (.inr (.inr 1)))]) (S := []) (M := mm V h) rfl rfl (fun _ => ?_) (fun c => absurd h1 (Int.not_lt.mpr c))
  exact ok_ireturn (L := [some (.inl i), some (.inl n), some (.inr (.inr (.inr 1)))]) (M := mm V h) (x := i) rfl rfl ⟨rfl, rfl⟩
set_option maxRecDepth 20000 in
set_option maxHeartbeats 4000000 in
theorem w_chkJ {X : Xs} {d : Nat} {V : VV} {h : HP} {i n : Int} (h0 : 0 ≤ i) (h1 : i < n) : Ok X (d + 2) 65 0 ([some (.inl i), some (.inl n)], [], mm V h) (fun M r => M = mm V h ∧ r = none) := by
  refine ok_callA (L := [some (.inl i), some (.inl n)]) (M := mm V h) (args := [.inl i, .inl n, .inr (.inr (.inr 1))]) (rest := []) (y2 := 66) rfl rfl rfl (Or.inr (Or.inl rfl)) rfl rfl (Nat.le_of_ble_eq_true rfl) rfl rfl (Nat.le_of_ble_eq_true rfl) (Nat.le_of_ble_eq_true rfl) (w_chkI h0 h1) ?_
  rintro _ _ ⟨rfl, rfl⟩
  exact ok_return (L := [some (.inl i), some (.inl n)]) (M := mm V h) rfl rfl ⟨rfl, rfl⟩
set_option maxRecDepth 20000 in
set_option maxHeartbeats 4000000 in
theorem w_latc {X : Xs} {d j : Nat} {V : VV} {h : HP} {i q : Int} (hj : j < 13) (e : chrO j i = some q) : Ok X (d + 3) 64 0 ([some (.inr (.inr (.inr (10 + j + 30)))), some (.inl i)], [], mm V h) (fun M r => M = mm V h ∧ r = some (.inl q) ∧ (0 ≤ q ∧ q < 128)) := by
  unfold chrO at e
  split at e
  case isFalse => cases e
  case isTrue hi =>
  have hl : i.toNat < ((gl SBY j).getD []).length := by
    have := hi.2; unfold lenW at this; omega
  obtain ⟨v, hv⟩ := gl_some_ hl
  have hq : v = q := by rw [hv] at e; exact Option.some.inj e
  have hc := t_chr hv
  refine ok_callA (L := [some (.inr (.inr (.inr (10 + j + 30)))), some (.inl i)]) (S := [.inl (lenW j), .inl i]) (M := mm V h) (args := [.inl i, .inl (lenW j)]) (rest := []) (y2 := 65) rfl rfl (by rw [runB_2 (u := ([some (.inr (.inr (.inr (10 + j + 30)))), some (.inl i)], [.inl i], mm V h)) rfl, runB_2 (u := ([some (.inr (.inr (.inr (10 + j + 30)))), some (.inl i)], [.inr (.inr (.inr (10 + j + 30))), .inl i], mm V h)) rfl, runB_2 (t_opl hj)]; rfl) (Or.inr (Or.inl rfl)) rfl rfl (Nat.le_of_ble_eq_true rfl) rfl rfl (Nat.le_of_ble_eq_true rfl) (Nat.le_of_ble_eq_true rfl) (w_chkJ hi.1 hi.2) ?_
  rintro _ _ ⟨rfl, rfl⟩
  have hg : gl (SBY.getD (10 + j + 30 - 40) []) i.toNat = some v := by
    rw [show 10 + j + 30 - 40 = j by omega, ← hv]
    exact congrArg (fun z => gl z i.toNat) (j_13 (P := fun j => SBY.getD j [] = (gl SBY j).getD []) rfl rfl rfl rfl rfl rfl rfl rfl rfl rfl rfl rfl rfl hj)
  refine Ok.of (ops := [.aload 0, .iload 1]) (t := .baload) (tg := [2]) (d2 := d + 3) (y2 := 64) (b2 := 2) (s2 := ([some (.inr (.inr (.inr (10 + j + 30)))), some (.inl i)], [.inl v], mm V h)) (L := [some (.inr (.inr (.inr (10 + j + 30)))), some (.inl i)]) (S := [.inl i, .inr (.inr (.inr (10 + j + 30)))]) (M := mm V h) rfl rfl (fun rec => ?_) ?_
  · show (match gl (SBY.getD (10 + j + 30 - 40) []) i.toNat with | some v => if 40 ≤ 10 + j + 30 ∧ 0 ≤ i then rec (d + 3) 64 (tb [2] 0) ([some (.inr (.inr (.inr (10 + j + 30)))), some (.inl i)], [.inl v], mm V h) else none | none => none) = _
    rw [hg]
    exact if_pos ⟨by omega, hi.1⟩
  refine ok_creturn (L := [some (.inr (.inr (.inr (10 + j + 30)))), some (.inl i)]) (M := mm V h) (x := iandI v 255 % 65536) rfl rfl ?_ ⟨rfl, ?_, ?_⟩
  · rw [hc.1]; exact hc.2
  · rw [hc.1, hq]
  · rw [← hq]; exact hc.2
set_option maxRecDepth 20000 in
set_option maxHeartbeats 4000000 in
theorem w_strchar {X : Xs} {d j : Nat} {V : VV} {h : HP} {i q : Int} (hj : j < 13) (e : chrO j i = some q) : Ok X (d + 5) 62 0 ([some (.inr (.inr (.inr (10 + j)))), some (.inl i)], [], mm V h) (fun M r => M = mm V h ∧ r = some (.inl q) ∧ (0 ≤ q ∧ q < 128)) := by
  refine ok_callA (L := [some (.inr (.inr (.inr (10 + j)))), some (.inl i)]) (M := mm V h) (args := [.inr (.inr (.inr (10 + j)))]) (rest := []) (y2 := 63) rfl rfl rfl (Or.inl rfl) rfl rfl (Nat.le_of_ble_eq_true rfl) rfl (t_rcv hj rfl) (Nat.le_of_ble_eq_true rfl) (Nat.le_of_ble_eq_true rfl) (w_latin hj) ?_
  rintro _ _ ⟨rfl, rfl⟩
  refine ok_if_eq (x := 1) (L := [some (.inr (.inr (.inr (10 + j)))), some (.inl i)]) (S := []) (M := mm V h) rfl rfl (fun c => absurd c (by decide)) (fun _ => ?_)
  refine ok_callA (L := [some (.inr (.inr (.inr (10 + j)))), some (.inl i)]) (S := [.inl i, .inr (.inr (.inr (10 + j + 30)))]) (M := mm V h) (args := [.inr (.inr (.inr (10 + j + 30))), .inl i]) (rest := []) (y2 := 64) rfl rfl (by rw [runB_2 (u := ([some (.inr (.inr (.inr (10 + j)))), some (.inl i)], [.inr (.inr (.inr (10 + j)))], mm V h)) rfl, runB_2 (t_op0 hj)]; rfl) (Or.inr (Or.inl rfl)) rfl rfl (Nat.le_of_ble_eq_true rfl) rfl rfl (Nat.le_of_ble_eq_true rfl) (Nat.le_of_ble_eq_true rfl) (w_latc hj e) ?_
  rintro _ _ ⟨rfl, rfl, hz⟩
  exact ok_creturn (L := [some (.inr (.inr (.inr (10 + j)))), some (.inl i)]) (M := mm V h) (x := q) rfl rfl hz ⟨rfl, rfl, hz⟩
/-- the rows of loads, copied into longer ones -/
def growV (V : VV) (h h2 : HP) : VV := fun a b => if a = h2.2.1 then (if b < ordN h then V h.2.1 b else 0) else if a = h2.1 then (if b < rowN h then V h.1 b else 0) else V a b
def noteV (V : VV) (h : HP) (l f x : Int) : VV := setV V h.1 (rowN h) (w32 (w32 (l * 9) + f)) x
def addV (V : VV) (h : HP) (l j t k p m : Int) : VV := noteV (noteV (noteV (noteV (noteV (noteV (noteV (noteV (noteV V h l 0 j) h l 1 t) h l 2 k) h l 3 p) h l 4 m) h l 5 (-1)) h l 6 (-1)) h l 7 (-1)) h l 8 0
def f_Loads_add (V : VV) (h : HP) (j t k p m : Int) : (VV × HP) × Int :=
  if 17280 ≤ V 28 3 then ((V, h), -1)
  else if V 28 3 < (ordN h : Int) then ((addV (up V 28 3 (w32 (V 28 3 + 1))) h (V 28 3) j t k p m, h), V 28 3)
  else ((addV (up (growV V h (hg (h.2.2.length / 2 + 1))) 28 3 (w32 (V 28 3 + 1))) (hg (h.2.2.length / 2 + 1)) (V 28 3) j t k p m, hg (h.2.2.length / 2 + 1)), V 28 3)
set_option maxRecDepth 20000 in
set_option maxHeartbeats 4000000 in
theorem w_note {X : Xs} {d : Nat} {V : VV} {h : HP} {l f x : Int} (hh : HOK h) : Ok X (d + 2) 106 0 ([some (.inr (.inr (.inl 29))), some (.inl l), some (.inl f), some (.inl x)], [], mm V h) (fun M r => M = mm (noteV V h l f x) h ∧ r = none) := by
  refine ok_callA (L := [some (.inr (.inr (.inl 29))), some (.inl l), some (.inl f), some (.inl x)]) (M := mm V h) (args := [.inr (.inr (.inl (h.1 + 1))), .inl (w32 ((w32 (l * 9)) + f)), .inl x]) (rest := []) (y2 := 9) rfl rfl rfl (Or.inr (Or.inl rfl)) rfl rfl (Nat.le_of_ble_eq_true rfl) rfl rfl (Nat.le_of_ble_eq_true rfl) (Nat.le_of_ble_eq_true rfl) (w_set hh.row rfl) ?_
  rintro _ _ ⟨rfl, rfl⟩
  exact ok_return (L := [some (.inr (.inr (.inl 29))), some (.inl l), some (.inl f), some (.inl x)]) (M := mm (noteV V h l f x) h) rfl rfl ⟨rfl, rfl⟩
set_option maxRecDepth 20000 in
set_option maxHeartbeats 4000000 in
theorem w_addT {X : Xs} {d : Nat} {V : VV} {h : HP} {j t k p m : Int} {z : Option AV} (hz : z = none ∨ ∃ x, z = some (.inl x)) (hh : HOK h) : Ok X (d + 3) 112 9 ([some (.inr (.inr (.inl 29))), some (.inl j), some (.inl t), some (.inl k), some (.inl p), some (.inl m), z], [], mm V h) (fun M r => M = mm (addV (up V 28 3 (w32 (V 28 3 + 1))) h (V 28 3) j t k p m) h ∧ r = some (.inl (V 28 3))) := by
  have hz2 : Ok X (d + 3) 112 9 ([some (.inr (.inr (.inl 29))), some (.inl j), some (.inl t), some (.inl k), some (.inl p), some (.inl m), z], [], mm V h) (fun M r => M = mm (addV (up V 28 3 (w32 (V 28 3 + 1))) h (V 28 3) j t k p m) h ∧ r = some (.inl (V 28 3))) := by
    refine ok_callA (L := [some (.inr (.inr (.inl 29))), some (.inl j), some (.inl t), some (.inl k), some (.inl p), some (.inl m), some (.inl (V 28 3))]) (M := mm (up V 28 3 (w32 (V 28 3 + 1))) h) (args := [.inr (.inr (.inl 29)), .inl (V 28 3), .inl 0, .inl j]) (rest := []) (y2 := 106) rfl rfl rfl (Or.inl rfl) rfl rfl (Nat.le_of_ble_eq_true rfl) rfl rfl (Nat.le_of_ble_eq_true rfl) (Nat.le_of_ble_eq_true rfl) (w_note hh) ?_
    rintro _ _ ⟨rfl, rfl⟩
    refine ok_callA (L := [some (.inr (.inr (.inl 29))), some (.inl j), some (.inl t), some (.inl k), some (.inl p), some (.inl m), some (.inl (V 28 3))]) (M := mm (noteV (up V 28 3 (w32 (V 28 3 + 1))) h (V 28 3) 0 j) h) (args := [.inr (.inr (.inl 29)), .inl (V 28 3), .inl 1, .inl t]) (rest := []) (y2 := 106) rfl rfl rfl (Or.inl rfl) rfl rfl (Nat.le_of_ble_eq_true rfl) rfl rfl (Nat.le_of_ble_eq_true rfl) (Nat.le_of_ble_eq_true rfl) (w_note hh) ?_
    rintro _ _ ⟨rfl, rfl⟩
    refine ok_callA (L := [some (.inr (.inr (.inl 29))), some (.inl j), some (.inl t), some (.inl k), some (.inl p), some (.inl m), some (.inl (V 28 3))]) (M := mm (noteV (noteV (up V 28 3 (w32 (V 28 3 + 1))) h (V 28 3) 0 j) h (V 28 3) 1 t) h) (args := [.inr (.inr (.inl 29)), .inl (V 28 3), .inl 2, .inl k]) (rest := []) (y2 := 106) rfl rfl rfl (Or.inl rfl) rfl rfl (Nat.le_of_ble_eq_true rfl) rfl rfl (Nat.le_of_ble_eq_true rfl) (Nat.le_of_ble_eq_true rfl) (w_note hh) ?_
    rintro _ _ ⟨rfl, rfl⟩
    refine ok_callA (L := [some (.inr (.inr (.inl 29))), some (.inl j), some (.inl t), some (.inl k), some (.inl p), some (.inl m), some (.inl (V 28 3))]) (M := mm (noteV (noteV (noteV (up V 28 3 (w32 (V 28 3 + 1))) h (V 28 3) 0 j) h (V 28 3) 1 t) h (V 28 3) 2 k) h) (args := [.inr (.inr (.inl 29)), .inl (V 28 3), .inl 3, .inl p]) (rest := []) (y2 := 106) rfl rfl rfl (Or.inl rfl) rfl rfl (Nat.le_of_ble_eq_true rfl) rfl rfl (Nat.le_of_ble_eq_true rfl) (Nat.le_of_ble_eq_true rfl) (w_note hh) ?_
    rintro _ _ ⟨rfl, rfl⟩
    refine ok_callA (L := [some (.inr (.inr (.inl 29))), some (.inl j), some (.inl t), some (.inl k), some (.inl p), some (.inl m), some (.inl (V 28 3))]) (M := mm (noteV (noteV (noteV (noteV (up V 28 3 (w32 (V 28 3 + 1))) h (V 28 3) 0 j) h (V 28 3) 1 t) h (V 28 3) 2 k) h (V 28 3) 3 p) h) (args := [.inr (.inr (.inl 29)), .inl (V 28 3), .inl 4, .inl m]) (rest := []) (y2 := 106) rfl rfl rfl (Or.inl rfl) rfl rfl (Nat.le_of_ble_eq_true rfl) rfl rfl (Nat.le_of_ble_eq_true rfl) (Nat.le_of_ble_eq_true rfl) (w_note hh) ?_
    rintro _ _ ⟨rfl, rfl⟩
    refine ok_callA (L := [some (.inr (.inr (.inl 29))), some (.inl j), some (.inl t), some (.inl k), some (.inl p), some (.inl m), some (.inl (V 28 3))]) (M := mm (noteV (noteV (noteV (noteV (noteV (up V 28 3 (w32 (V 28 3 + 1))) h (V 28 3) 0 j) h (V 28 3) 1 t) h (V 28 3) 2 k) h (V 28 3) 3 p) h (V 28 3) 4 m) h) (args := [.inr (.inr (.inl 29)), .inl (V 28 3), .inl 5, .inl (-1)]) (rest := []) (y2 := 106) rfl rfl rfl (Or.inl rfl) rfl rfl (Nat.le_of_ble_eq_true rfl) rfl rfl (Nat.le_of_ble_eq_true rfl) (Nat.le_of_ble_eq_true rfl) (w_note hh) ?_
    rintro _ _ ⟨rfl, rfl⟩
    refine ok_callA (L := [some (.inr (.inr (.inl 29))), some (.inl j), some (.inl t), some (.inl k), some (.inl p), some (.inl m), some (.inl (V 28 3))]) (M := mm (noteV (noteV (noteV (noteV (noteV (noteV (up V 28 3 (w32 (V 28 3 + 1))) h (V 28 3) 0 j) h (V 28 3) 1 t) h (V 28 3) 2 k) h (V 28 3) 3 p) h (V 28 3) 4 m) h (V 28 3) 5 (-1)) h) (args := [.inr (.inr (.inl 29)), .inl (V 28 3), .inl 6, .inl (-1)]) (rest := []) (y2 := 106) rfl rfl rfl (Or.inl rfl) rfl rfl (Nat.le_of_ble_eq_true rfl) rfl rfl (Nat.le_of_ble_eq_true rfl) (Nat.le_of_ble_eq_true rfl) (w_note hh) ?_
    rintro _ _ ⟨rfl, rfl⟩
    refine ok_callA (L := [some (.inr (.inr (.inl 29))), some (.inl j), some (.inl t), some (.inl k), some (.inl p), some (.inl m), some (.inl (V 28 3))]) (M := mm (noteV (noteV (noteV (noteV (noteV (noteV (noteV (up V 28 3 (w32 (V 28 3 + 1))) h (V 28 3) 0 j) h (V 28 3) 1 t) h (V 28 3) 2 k) h (V 28 3) 3 p) h (V 28 3) 4 m) h (V 28 3) 5 (-1)) h (V 28 3) 6 (-1)) h) (args := [.inr (.inr (.inl 29)), .inl (V 28 3), .inl 7, .inl (-1)]) (rest := []) (y2 := 106) rfl rfl rfl (Or.inl rfl) rfl rfl (Nat.le_of_ble_eq_true rfl) rfl rfl (Nat.le_of_ble_eq_true rfl) (Nat.le_of_ble_eq_true rfl) (w_note hh) ?_
    rintro _ _ ⟨rfl, rfl⟩
    refine ok_callA (L := [some (.inr (.inr (.inl 29))), some (.inl j), some (.inl t), some (.inl k), some (.inl p), some (.inl m), some (.inl (V 28 3))]) (M := mm (noteV (noteV (noteV (noteV (noteV (noteV (noteV (noteV (up V 28 3 (w32 (V 28 3 + 1))) h (V 28 3) 0 j) h (V 28 3) 1 t) h (V 28 3) 2 k) h (V 28 3) 3 p) h (V 28 3) 4 m) h (V 28 3) 5 (-1)) h (V 28 3) 6 (-1)) h (V 28 3) 7 (-1)) h) (args := [.inr (.inr (.inl 29)), .inl (V 28 3), .inl 8, .inl 0]) (rest := []) (y2 := 106) rfl rfl rfl (Or.inl rfl) rfl rfl (Nat.le_of_ble_eq_true rfl) rfl rfl (Nat.le_of_ble_eq_true rfl) (Nat.le_of_ble_eq_true rfl) (w_note hh) ?_
    rintro _ _ ⟨rfl, rfl⟩
    exact ok_ireturn (L := [some (.inr (.inr (.inl 29))), some (.inl j), some (.inl t), some (.inl k), some (.inl p), some (.inl m), some (.inl (V 28 3))]) (M := mm (noteV (noteV (noteV (noteV (noteV (noteV (noteV (noteV (noteV (up V 28 3 (w32 (V 28 3 + 1))) h (V 28 3) 0 j) h (V 28 3) 1 t) h (V 28 3) 2 k) h (V 28 3) 3 p) h (V 28 3) 4 m) h (V 28 3) 5 (-1)) h (V 28 3) 6 (-1)) h (V 28 3) 7 (-1)) h (V 28 3) 8 0) h) (x := V 28 3) rfl rfl ⟨rfl, rfl⟩
  exact hz2
theorem ok_cpy {X : Xs} {d y b : Nat} {s : Fr} {ops : List Instr} {L : List (Option AV)} {S : List AV} {M : Mm} {Q : Mm → Option AV → Prop} {k dp sp : Int} {p q b1 n1 n2 : Nat} (hd : 1 ≤ d) (hb : blkOf y b = some (ops, .invokedynamic 0, [b1])) (hr : runB X ops s = some (L, .inl k :: .inl dp :: .inr (.inr (.inl (q + 1))) :: .inl sp :: .inr (.inr (.inl (p + 1))) :: S, M)) (hw : catS S ≤ 8) (hpq : p ≠ q) (hk : 1 ≤ k) (hs : 0 ≤ sp) (hdp : 0 ≤ dp) (e1 : gl M.2.2 p = some (100, n1)) (h1 : sp + k ≤ (n1 : Int)) (e2 : gl M.2.2 q = some (100, n2)) (h2 : dp + k ≤ (n2 : Int)) (kk : Ok X d y b1 (L, S, (upR M.1 q (cpy (M.1 p) (M.1 q) sp.toNat dp.toNat k.toNat), M.2.1, M.2.2)) Q) : Ok X d y b s Q :=
  Ok.of hb hr (fun rec => by
    show (if 1 ≤ d ∧ catS S ≤ 8 ∧ p + 1 ≠ q + 1 ∧ 1 ≤ k ∧ 0 ≤ sp ∧ 0 ≤ dp ∧ aidx 100 (p + 1) (sp + k - 1) M = true ∧ aidx 100 (q + 1) (dp + k - 1) M = true then _ else none) = _
    rw [if_pos ⟨hd, hw, fun e => hpq (Nat.succ.inj e), hk, hs, hdp, aidx_of e1 (by omega) (by omega), aidx_of e2 (by omega) (by omega)⟩]
    rfl) kk
theorem gl_apl {α : Type} {l r : List α} {k : Nat} {a : α} (h : gl l k = some a) : gl (l ++ r) k = some a := by
  rw [gl_get] at h ⊢
  rw [List.getElem?_append_left (List.getElem?_eq_some_iff.mp h).1]; exact h
theorem gl_end {α : Type} {l : List α} {a : α} {n : Nat} (h : n = l.length) : gl (l ++ [a]) n = some a := by
  subst h
  rw [gl_get, List.getElem?_append_right (Nat.le_refl _), Nat.sub_self]; rfl
set_option maxRecDepth 20000 in
set_option maxHeartbeats 4000000 in
theorem w_copy {X : Xs} {d : Nat} {M : Mm} {id n n2 : Nat} (hk : gl M.2.2 id = some (100, n)) (hn : 1 ≤ n) (hn2 : n < n2) (hb : n2 ≤ 1000000) : Ok X (d + 2) 113 0 ([some (.inr (.inr (.inl (id + 1)))), some (.inl (n2 : Int)), none], [], M) (fun M' r => M' = (upR (zr M.1 M.2.2.length) M.2.2.length (cpy (M.1 id) (fun _ => 0) 0 0 n), zrG M.2.1 M.2.2.length, M.2.2 ++ [(100, n2)]) ∧ r = some (.inr (.inr (.inl (M.2.2.length + 1))))) := by
  have hid : id < M.2.2.length := gl_lt hk
  refine ok_alen (id := id) (n := n) (L := [some (.inr (.inr (.inl (id + 1)))), some (.inl (n2 : Int)), none]) (S := [.inl (n2 : Int)]) (M := M) rfl rfl hk ?_
  refine ok_ic_ne (x := (n2 : Int)) (u := (n : Int)) (L := [some (.inr (.inr (.inl (id + 1)))), some (.inl (n2 : Int)), none]) (S := []) (M := M) rfl rfl (fun _ => ?_) (fun c => absurd c (by omega))
  have c9 : (Nat.ble 100 100 && (decide ((0 : Int) ≤ (n2 : Int)) && decide ((n2 : Int) ≤ 1000000))) = true := by
    rw [decide_eq_true (by omega), decide_eq_true (by omega)]; rfl
  have e9 : op1 X (.newarray .int) ([some (.inr (.inr (.inl (id + 1)))), some (.inl (n2 : Int)), none]) [.inl (n2 : Int)] M = some ([some (.inr (.inr (.inl (id + 1)))), some (.inl (n2 : Int)), none], [.inr (.inr (.inl (M.2.2.length + 1)))], (zr M.1 M.2.2.length, zrG M.2.1 M.2.2.length, M.2.2 ++ [(100, n2)])) := by
    unfold op1
    simp only [c9, newA, atK, Int.toNat_natCast]
  refine ok_alen (id := id) (n := n) (L := [some (.inr (.inr (.inl (id + 1)))), some (.inl (n2 : Int)), some (.inr (.inr (.inl (M.2.2.length + 1))))]) (S := [.inl 0, .inr (.inr (.inl (M.2.2.length + 1))), .inl 0, .inr (.inr (.inl (id + 1)))]) (M := (zr M.1 M.2.2.length, zrG M.2.1 M.2.2.length, M.2.2 ++ [(100, n2)])) rfl ?_ (gl_apl hk) ?_
  · rw [runB_2 (u := ([some (.inr (.inr (.inl (id + 1)))), some (.inl (n2 : Int)), none], [.inl (n2 : Int)], M)) rfl, runB_2 e9]; rfl
  refine ok_mmin (u := (n : Int)) (v := (n2 : Int)) (L := [some (.inr (.inr (.inl (id + 1)))), some (.inl (n2 : Int)), some (.inr (.inr (.inl (M.2.2.length + 1))))]) (S := [.inl 0, .inr (.inr (.inl (M.2.2.length + 1))), .inl 0, .inr (.inr (.inl (id + 1)))]) (M := (zr M.1 M.2.2.length, zrG M.2.1 M.2.2.length, M.2.2 ++ [(100, n2)])) rfl rfl rfl (Nat.le_of_ble_eq_true rfl) ?_
  have hm : min (n : Int) (n2 : Int) = (n : Int) := by omega
  refine ok_cpy (k := min (n : Int) (n2 : Int)) (dp := 0) (sp := 0) (p := id) (q := M.2.2.length) (n1 := n) (n2 := n2) (L := [some (.inr (.inr (.inl (id + 1)))), some (.inl (n2 : Int)), some (.inr (.inr (.inl (M.2.2.length + 1))))]) (S := []) (M := (zr M.1 M.2.2.length, zrG M.2.1 M.2.2.length, M.2.2 ++ [(100, n2)])) (by omega) rfl rfl (Nat.le_of_ble_eq_true rfl) (by omega) (by omega) (by omega) (by omega) (gl_apl hk) (by omega) (gl_end rfl) (by omega) ?_
  refine ok_areturn (L := [some (.inr (.inr (.inl (id + 1)))), some (.inl (n2 : Int)), some (.inr (.inr (.inl (M.2.2.length + 1))))]) (r := M.2.2.length) rfl rfl ⟨?_, rfl⟩
  rw [hm]
  refine Prod.ext ?_ rfl
  funext a b
  show (if a = M.2.2.length then cpy (zr M.1 M.2.2.length id) (zr M.1 M.2.2.length M.2.2.length) (0 : Int).toNat (0 : Int).toNat (n : Int).toNat b else zr M.1 M.2.2.length a b) = (if a = M.2.2.length then cpy (M.1 id) (fun _ => 0) 0 0 n b else zr M.1 M.2.2.length a b)
  split
  · unfold cpy zr
    rw [if_neg (show ¬ id = M.2.2.length by omega), if_pos rfl]
    rfl
  · rfl
theorem gl_sl_ne {α : Type} (l : List α) (k j : Nat) (v : α) (h : j ≠ k) : gl (sl l k v) j = gl l j := by
  induction l generalizing k j with
  | nil => rfl
  | cons a l ih =>
    cases k with
    | zero =>
      cases j with
      | zero => exact absurd rfl h
      | succ j => rfl
    | succ k =>
      cases j with
      | zero => rfl
      | succ j => exact ih k j (fun e => h (by rw [e]))
theorem GT_sl (r o : Nat) : GT r o = sl (GT 0 0) 28 [r + 1, o + 1, 0, 0] := rfl
theorem G0_ne {r o i : Nat} (h : i ≠ 28) (k : Nat) : G0 r o i k = G0 0 0 i k := by
  unfold G0
  rw [GT_sl, gl_sl_ne _ _ _ _ h]
theorem G0_hi {r o i : Nat} (h : 123 ≤ i) (k : Nat) : G0 r o i k = 0 := by
  unfold G0
  have : gl (GT r o) i = none := by
    rw [gl_get, List.getElem?_eq_none_iff]
    exact Nat.le_trans (Nat.le_of_ble_eq_true rfl) h
  rw [this]
theorem hg_len {g : Nat} (h : g ≤ 9) : (K0 ++ (hg g).2.2).length = 123 + 2 * g ∧ (hg g).2.2.length = 2 * g :=
  g_10 (P := fun g => (K0 ++ (hg g).2.2).length = 123 + 2 * g ∧ (hg g).2.2.length = 2 * g) ⟨rfl, rfl⟩ ⟨rfl, rfl⟩ ⟨rfl, rfl⟩ ⟨rfl, rfl⟩ ⟨rfl, rfl⟩ ⟨rfl, rfl⟩ ⟨rfl, rfl⟩ ⟨rfl, rfl⟩ ⟨rfl, rfl⟩ ⟨rfl, rfl⟩ h
theorem zrG0 {r o n : Nat} (h : 123 ≤ n) : zrG (G0 r o) n = G0 r o := by
  funext i k
  unfold zrG
  split
  · next e => subst e; rw [G0_hi h]
  · rfl
theorem upG1 (r o x : Nat) : upG (G0 r o) 28 1 (x + 1) = G0 r x := by
  funext i k
  unfold upG
  by_cases hi : i = 28
  · subst hi
    rw [if_pos rfl]
    match k with
    | 0 => rfl
    | 1 => rfl
    | 2 => rfl
    | 3 => rfl
    | k + 4 => rfl
  · exact (if_neg hi).trans ((G0_ne hi k).trans (G0_ne hi k).symm)
theorem upG0 (r o x : Nat) : upG (G0 r o) 28 0 (x + 1) = G0 x o := by
  funext i k
  unfold upG
  by_cases hi : i = 28
  · subst hi
    rw [if_pos rfl]
    match k with
    | 0 => rfl
    | 1 => rfl
    | 2 => rfl
    | 3 => rfl
    | k + 4 => rfl
  · exact (if_neg hi).trans ((G0_ne hi k).trans (G0_ne hi k).symm)
theorem oN_up {g : Nat} (h : g ≤ 8) : 1 ≤ oN g ∧ oN g < oN (g + 1) ∧ oN (g + 1) ≤ 17280 ∧ min (17280 : Int) (w32 (2 * (oN g : Int))) = (oN (g + 1) : Int) ∧ (hg g).1 < 123 + 2 * g ∧ (hg g).2.1 < 123 + 2 * g := by
  have : g = 0 ∨ g = 1 ∨ g = 2 ∨ g = 3 ∨ g = 4 ∨ g = 5 ∨ g = 6 ∨ g = 7 ∨ g = 8 := by omega
  rcases this with rfl | rfl | rfl | rfl | rfl | rfl | rfl | rfl | rfl <;> decide +kernel
theorem upR_ap (V : VV) (a : Nat) (f : Nat → Int) (i j : Nat) : upR V a f i j = if i = a then f j else V i j := rfl
theorem zr_ap (V : VV) (a i j : Nat) : zr V a i j = if i = a then 0 else V i j := rfl
theorem cpy_ap (f g : Nat → Int) (a b n k : Nat) : cpy f g a b n k = if b ≤ k ∧ k < b + n then f (a + (k - b)) else g k := rfl
theorem w_copy2 {X : Xs} {d : Nat} {V : VV} {G : Nat → Nat → Nat} {K : List (Nat × Nat)} {id n n2 len : Nat} (hk : gl K id = some (100, n)) (hn : 1 ≤ n) (hn2 : n < n2) (hb : n2 ≤ 1000000) (hl : K.length = len) (hz : zrG G len = G) : Ok X (d + 2) 113 0 ([some (.inr (.inr (.inl (id + 1)))), some (.inl (n2 : Int)), none], [], (V, G, K)) (fun M' r => M' = (upR (zr V len) len (cpy (V id) (fun _ => 0) 0 0 n), G, K ++ [(100, n2)]) ∧ r = some (.inr (.inr (.inl (len + 1))))) := by
  subst hl
  refine (w_copy (M := (V, G, K)) hk hn hn2 hb).imp (fun M r z => ⟨?_, z.2⟩)
  rw [z.1]
  show (_, zrG G K.length, _) = _
  rw [hz]
theorem growE {V : VV} {g : Nat} (h : g ≤ 8) : (upR (zr (upR (zr V (123 + 2 * g)) (123 + 2 * g) (cpy (V (hg g).2.1) (fun _ => 0) 0 0 (oN g))) ((123 + 2 * g) + 1)) ((123 + 2 * g) + 1) (cpy ((upR (zr V (123 + 2 * g)) (123 + 2 * g) (cpy (V (hg g).2.1) (fun _ => 0) 0 0 (oN g))) (hg g).1) (fun _ => 0) 0 0 (9 * oN g))) = growV V (hg g) (hg (g + 1)) := by
  obtain ⟨-, -, -, -, h1, h2⟩ := oN_up h
  obtain ⟨h3, h4⟩ := rowN_hg (show g ≤ 9 by omega)
  funext a b
  unfold growV
  show _ = (if a = (123 + 2 * g) then (if b < ordN (hg g) then V (hg g).2.1 b else 0) else if a = 124 + 2 * g then (if b < rowN (hg g) then V (hg g).1 b else 0) else V a b)
  rw [h3, h4]
  simp only [upR_ap, zr_ap, cpy_ap]
  by_cases e1 : a = (123 + 2 * g)
  · subst e1
    rw [if_neg (by omega), if_neg (by omega), if_pos rfl, if_pos rfl]
    by_cases e2 : b < oN g
    · rw [if_pos (by omega), if_pos e2, show 0 + (b - 0) = b by omega]
    · rw [if_neg (by omega), if_neg e2]
  · by_cases e3 : a = 124 + 2 * g
    · subst e3
      rw [if_pos (by omega), if_neg e1, if_pos rfl]
      by_cases e2 : b < 9 * oN g
      · rw [if_pos (by omega), if_pos e2, show 0 + (b - 0) = b by omega, if_neg (by omega), if_neg (by omega)]
      · rw [if_neg (by omega), if_neg e2]
    · rw [if_neg (by omega), if_neg (by omega), if_neg e1, if_neg e1, if_neg e1, if_neg e3]
set_option maxRecDepth 20000 in
set_option maxHeartbeats 4000000 in
theorem w_grow {X : Xs} {d : Nat} {V : VV} {g : Nat} {j t k p m : Int} {Q : Mm → Option AV → Prop} (h : g ≤ 8) (kk : Ok X (d + 4) 112 9 ([some (.inr (.inr (.inl 29))), some (.inl j), some (.inl t), some (.inl k), some (.inl p), some (.inl m), some (.inl (oN (g + 1) : Int))], [], mm (growV V (hg g) (hg (g + 1))) (hg (g + 1))) Q) : Ok X (d + 4) 112 4 ([some (.inr (.inr (.inl 29))), some (.inl j), some (.inl t), some (.inl k), some (.inl p), some (.inl m), none], [], mm V (hg g)) Q := by
  obtain ⟨n1, n2, n3, n4, n5, n6⟩ := oN_up h
  obtain ⟨h3, h4⟩ := rowN_hg (show g ≤ 9 by omega)
  have hH : HOK (hg g) := ⟨g, by omega, rfl⟩
  obtain ⟨l1, l2⟩ := hg_len (show g ≤ 9 by omega)
  have ko := hH.ord
  have kr := hH.row
  rw [h4] at ko
  rw [h3] at kr
  refine ok_alen (id := (hg g).2.1) (n := oN g) (L := [some (.inr (.inr (.inl 29))), some (.inl j), some (.inl t), some (.inl k), some (.inl p), some (.inl m), none]) (S := [.inl 2, .inl 17280]) (M := mm V (hg g)) rfl rfl ko ?_
  refine ok_mmin (u := 17280) (v := w32 (2 * (oN g : Int))) (L := [some (.inr (.inr (.inl 29))), some (.inl j), some (.inl t), some (.inl k), some (.inl p), some (.inl m), none]) (S := []) (M := mm V (hg g)) rfl rfl rfl (Nat.le_of_ble_eq_true rfl) ?_
  rw [n4]
  refine ok_callA (L := [some (.inr (.inr (.inl 29))), some (.inl j), some (.inl t), some (.inl k), some (.inl p), some (.inl m), some (.inl (oN (g + 1) : Int))]) (S := [.inl (oN (g + 1) : Int), .inr (.inr (.inl ((hg g).2.1 + 1))), .inr (.inr (.inl 29))]) (M := mm V (hg g)) (args := [.inr (.inr (.inl ((hg g).2.1 + 1))), .inl (oN (g + 1) : Int)]) (rest := [.inr (.inr (.inl 29))]) (y2 := 113) rfl rfl rfl (Or.inr (Or.inl rfl)) rfl rfl (Nat.le_of_ble_eq_true rfl) rfl rfl (Nat.le_of_ble_eq_true rfl) (Nat.le_of_ble_eq_true rfl) (w_copy2 (len := (123 + 2 * g)) ko n1 n2 (by omega) l1 (zrG0 (by omega))) ?_
  rintro _ _ ⟨rfl, rfl⟩
  have q1 := upG1 (hg g).1 (hg g).2.1 (123 + 2 * g)
  refine ok_callA (L := [some (.inr (.inr (.inl 29))), some (.inl j), some (.inl t), some (.inl k), some (.inl p), some (.inl m), some (.inl (oN (g + 1) : Int))]) (S := [.inl (w32 ((oN (g + 1) : Int) * 9)), .inr (.inr (.inl ((hg g).1 + 1))), .inr (.inr (.inl 29))]) (M := ((upR (zr V (123 + 2 * g)) (123 + 2 * g) (cpy (V (hg g).2.1) (fun _ => 0) 0 0 (oN g))), G0 (hg g).1 (123 + 2 * g), (K0 ++ (hg g).2.2 ++ [(100, oN (g + 1))]))) (args := [.inr (.inr (.inl ((hg g).1 + 1))), .inl ((9 * oN (g + 1) : Nat) : Int)]) (rest := [.inr (.inr (.inl 29))]) (y2 := 113) rfl rfl ?_ (Or.inr (Or.inl rfl)) ?_ rfl (Nat.le_of_ble_eq_true rfl) rfl rfl (Nat.le_of_ble_eq_true rfl) (Nat.le_of_ble_eq_true rfl) (w_copy2 (id := (hg g).1) (n := 9 * oN g) (n2 := 9 * oN (g + 1)) (len := (123 + 2 * g) + 1) (gl_apl kr) (by omega) (by omega) (by omega) (by rw [List.length_append, l1]; rfl) (zrG0 (by omega))) ?_
  · rw [← q1]; rfl
  · rw [show ((9 * oN (g + 1) : Nat) : Int) = w32 ((oN (g + 1) : Int) * 9) by rw [w32_id (by omega) (by omega)]; omega]; rfl
  rintro _ _ ⟨rfl, rfl⟩
  have q2 := upG0 (hg g).1 (123 + 2 * g) ((123 + 2 * g) + 1)
  refine ok_thru (L := [some (.inr (.inr (.inl 29))), some (.inl j), some (.inl t), some (.inl k), some (.inl p), some (.inl m), some (.inl (oN (g + 1) : Int))]) (S := []) (M := ((upR (zr (upR (zr V (123 + 2 * g)) (123 + 2 * g) (cpy (V (hg g).2.1) (fun _ => 0) 0 0 (oN g))) ((123 + 2 * g) + 1)) ((123 + 2 * g) + 1) (cpy ((upR (zr V (123 + 2 * g)) (123 + 2 * g) (cpy (V (hg g).2.1) (fun _ => 0) 0 0 (oN g))) (hg g).1) (fun _ => 0) 0 0 (9 * oN g))), G0 ((123 + 2 * g) + 1) (123 + 2 * g), ((K0 ++ (hg g).2.2 ++ [(100, oN (g + 1))]) ++ [(100, 9 * oN (g + 1))]))) rfl (by rw [← q2]; rfl) ?_
  refine Ok.at kk ?_
  refine congrArg (fun z : Mm => (([some (.inr (.inr (.inl 29))), some (.inl j), some (.inl t), some (.inl k), some (.inl p), some (.inl m), some (.inl (oN (g + 1) : Int))] : List (Option AV)), ([] : List AV), z)) ?_
  rw [growE h]
  show (_, _, K0 ++ (hg g).2.2 ++ [(100, oN (g + 1))] ++ [(100, 9 * oN (g + 1))]) = (_, G0 (124 + 2 * g) (123 + 2 * g), K0 ++ (kxG g ++ [(100, oN (g + 1)), (100, 9 * oN (g + 1))]))
  have hk2 : (hg g).2.2 = kxG g := by cases g <;> rfl
  rw [hk2, List.append_assoc, List.append_assoc, show 123 + 2 * g + 1 = 124 + 2 * g by omega]
  rfl
set_option maxRecDepth 20000 in
set_option maxHeartbeats 4000000 in
theorem s_Loads_add {X : Xs} {d : Nat} {V : VV} {h : HP} {j t k p m : Int} {q : (VV × HP) × Int} (hh : HOK h) (e : f_Loads_add V h j t k p m = q) : Ok X (d + 4) 112 0 ([some (.inr (.inr (.inl 29))), some (.inl j), some (.inl t), some (.inl k), some (.inl p), some (.inl m), none], [], mm V h) (fun M r => M = mm q.1.1 q.1.2 ∧ HOK q.1.2 ∧ r = some (.inl q.2)) := by
  unfold f_Loads_add at e
  refine ok_ic_lt (x := V 28 3) (u := 17280) (L := [some (.inr (.inr (.inl 29))), some (.inl j), some (.inl t), some (.inl k), some (.inl p), some (.inl m), none]) (S := []) (M := mm V h) rfl rfl (fun c1 => ?_) (fun c1 => ?_)
  · rw [if_neg (by omega)] at e
    refine ok_alen (id := h.2.1) (n := ordN h) (L := [some (.inr (.inr (.inl 29))), some (.inl j), some (.inl t), some (.inl k), some (.inl p), some (.inl m), none]) (S := [.inl (V 28 3)]) (M := mm V h) rfl rfl hh.ord ?_
    refine ok_ic_lt (x := V 28 3) (u := (ordN h : Int)) (L := [some (.inr (.inr (.inl 29))), some (.inl j), some (.inl t), some (.inl k), some (.inl p), some (.inl m), none]) (S := []) (M := mm V h) rfl rfl (fun c2 => ?_) (fun c2 => ?_)
    · rw [if_pos c2] at e
      subst e
      exact (w_addT (d := d + 1) (Or.inl rfl) hh).imp (fun M r z => ⟨z.1, hh, z.2⟩)
    · rw [if_neg (by omega)] at e
      obtain ⟨g, hg9, rfl⟩ := hh
      obtain ⟨h3, h4⟩ := rowN_hg hg9
      have hg8 : g ≤ 8 := by
        apply Nat.le_of_not_lt
        intro c3
        have : g = 9 := by omega
        subst this
        rw [h4, show oN 9 = 17280 from rfl] at c2
        omega
      have hH : HOK (hg (g + 1)) := ⟨g + 1, by omega, rfl⟩
      obtain ⟨l1, l2⟩ := hg_len hg9
      rw [l2, show 2 * g / 2 + 1 = g + 1 by omega] at e
      subst e
      refine w_grow hg8 ?_
      have e28 : growV V (hg g) (hg (g + 1)) 28 3 = V 28 3 := by
        unfold growV
        show (if 28 = 123 + 2 * g then _ else if 28 = 124 + 2 * g then _ else V 28 3) = V 28 3
        rw [if_neg (by omega), if_neg (by omega)]
      have := w_addT (X := X) (d := d + 1) (V := growV V (hg g) (hg (g + 1))) (j := j) (t := t) (k := k) (p := p) (m := m) (z := some (.inl (oN (g + 1) : Int))) (Or.inr ⟨_, rfl⟩) hH
      rw [e28] at this
      exact this.imp (fun M r z => ⟨z.1, hH, z.2⟩)
  · rw [if_pos c1] at e
    subst e
    exact ok_ireturn (L := [some (.inr (.inr (.inl 29))), some (.inl j), some (.inl t), some (.inl k), some (.inl p), some (.inl m), none]) (M := mm V h) (x := -1) rfl rfl ⟨rfl, hh, rfl⟩
end
