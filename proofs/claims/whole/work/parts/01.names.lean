-- ===== PART A: goes FIRST, ahead of the names: the tables' words, and 'selects' of the private methods out of them =====
/-- a private method of a class that the tables say can be made, by its rows of tables_1 -/
def lw_okq (q : MethodName × Nat) : Prop := (q.1.cls ≠ "java/lang/invoke/MethodHandle" ∧ q.1.cls ≠ "java/lang/invoke/VarHandle") ∧ Cond.instantiable q.1.cls q.2 ∈ tables_1 ∧ Cond.privateMethod q.1 ∈ tables_1 ∧ Cond.instanceMethod q.1 ∈ tables_1
theorem lw_p0 : lw_okq (⟨"TideRakes$Laws", "tellOne", "(II)V"⟩, 5) := ⟨⟨by decide +kernel, by decide +kernel⟩, List.mem_of_getElem? (i := 44) (by decide +kernel), List.mem_of_getElem? (i := 549) (by decide +kernel), List.mem_of_getElem? (i := 550) (by decide +kernel)⟩
theorem lw_p1 : lw_okq (⟨"TideRakes", "beginDay", "()V"⟩, 14) := ⟨⟨by decide +kernel, by decide +kernel⟩, List.mem_of_getElem? (i := 24) (by decide +kernel), List.mem_of_getElem? (i := 557) (by decide +kernel), List.mem_of_getElem? (i := 558) (by decide +kernel)⟩
theorem lw_p2 : lw_okq (⟨"TideRakes$Laws", "setVariables", "(IIIII)V"⟩, 5) := ⟨⟨by decide +kernel, by decide +kernel⟩, List.mem_of_getElem? (i := 44) (by decide +kernel), List.mem_of_getElem? (i := 569) (by decide +kernel), List.mem_of_getElem? (i := 570) (by decide +kernel)⟩
theorem lw_p3 : lw_okq (⟨"TideRakes$Laws", "value", "(I)I"⟩, 5) := ⟨⟨by decide +kernel, by decide +kernel⟩, List.mem_of_getElem? (i := 44) (by decide +kernel), List.mem_of_getElem? (i := 573) (by decide +kernel), List.mem_of_getElem? (i := 574) (by decide +kernel)⟩
theorem lw_p4 : lw_okq (⟨"TideRakes$Shore", "settleErrors", "()V"⟩, 7) := ⟨⟨by decide +kernel, by decide +kernel⟩, List.mem_of_getElem? (i := 250) (by decide +kernel), List.mem_of_getElem? (i := 605) (by decide +kernel), List.mem_of_getElem? (i := 606) (by decide +kernel)⟩
theorem lw_p5 : lw_okq (⟨"TideRakes$Shore", "leastError", "(I)I"⟩, 7) := ⟨⟨by decide +kernel, by decide +kernel⟩, List.mem_of_getElem? (i := 250) (by decide +kernel), List.mem_of_getElem? (i := 623) (by decide +kernel), List.mem_of_getElem? (i := 624) (by decide +kernel)⟩
theorem lw_p6 : lw_okq (⟨"TideRakes$Shore", "measureFrom", "(II)V"⟩, 7) := ⟨⟨by decide +kernel, by decide +kernel⟩, List.mem_of_getElem? (i := 250) (by decide +kernel), List.mem_of_getElem? (i := 627) (by decide +kernel), List.mem_of_getElem? (i := 628) (by decide +kernel)⟩
theorem lw_p7 : lw_okq (⟨"TideRakes", "putBytes", "(I)V"⟩, 14) := ⟨⟨by decide +kernel, by decide +kernel⟩, List.mem_of_getElem? (i := 24) (by decide +kernel), List.mem_of_getElem? (i := 701) (by decide +kernel), List.mem_of_getElem? (i := 702) (by decide +kernel)⟩
theorem lw_p8 : lw_okq (⟨"TideRakes$Reader", "split", "([BI)V"⟩, 12) := ⟨⟨by decide +kernel, by decide +kernel⟩, List.mem_of_getElem? (i := 32) (by decide +kernel), List.mem_of_getElem? (i := 717) (by decide +kernel), List.mem_of_getElem? (i := 718) (by decide +kernel)⟩
theorem lw_p9 : lw_okq (⟨"TideRakes$Reader", "takeLetters", "([BIII)I"⟩, 12) := ⟨⟨by decide +kernel, by decide +kernel⟩, List.mem_of_getElem? (i := 32) (by decide +kernel), List.mem_of_getElem? (i := 727) (by decide +kernel), List.mem_of_getElem? (i := 728) (by decide +kernel)⟩
theorem lw_p10 : lw_okq (⟨"TideRakes$Reader", "kindOf", "(J)I"⟩, 12) := ⟨⟨by decide +kernel, by decide +kernel⟩, List.mem_of_getElem? (i := 32) (by decide +kernel), List.mem_of_getElem? (i := 731) (by decide +kernel), List.mem_of_getElem? (i := 732) (by decide +kernel)⟩
theorem lw_p11 : lw_okq (⟨"TideRakes$Reader", "takeDigits", "([BIII)I"⟩, 12) := ⟨⟨by decide +kernel, by decide +kernel⟩, List.mem_of_getElem? (i := 32) (by decide +kernel), List.mem_of_getElem? (i := 738) (by decide +kernel), List.mem_of_getElem? (i := 739) (by decide +kernel)⟩
theorem lw_p12 : lw_okq (⟨"TideRakes$Reader", "takeTell", "()V"⟩, 12) := ⟨⟨by decide +kernel, by decide +kernel⟩, List.mem_of_getElem? (i := 32) (by decide +kernel), List.mem_of_getElem? (i := 800) (by decide +kernel), List.mem_of_getElem? (i := 801) (by decide +kernel)⟩
theorem lw_p13 : lw_okq (⟨"TideRakes$Reader", "takePart", "()V"⟩, 12) := ⟨⟨by decide +kernel, by decide +kernel⟩, List.mem_of_getElem? (i := 32) (by decide +kernel), List.mem_of_getElem? (i := 804) (by decide +kernel), List.mem_of_getElem? (i := 805) (by decide +kernel)⟩
theorem lw_p14 : lw_okq (⟨"TideRakes$Reader", "fail", "(I)V"⟩, 12) := ⟨⟨by decide +kernel, by decide +kernel⟩, List.mem_of_getElem? (i := 32) (by decide +kernel), List.mem_of_getElem? (i := 808) (by decide +kernel), List.mem_of_getElem? (i := 809) (by decide +kernel)⟩
theorem lw_p15 : lw_okq (⟨"TideRakes$Reader", "accept", "(I)Z"⟩, 12) := ⟨⟨by decide +kernel, by decide +kernel⟩, List.mem_of_getElem? (i := 32) (by decide +kernel), List.mem_of_getElem? (i := 812) (by decide +kernel), List.mem_of_getElem? (i := 813) (by decide +kernel)⟩
def lw_privs_1 : List (MethodName × Nat) := [(⟨"TideRakes$Laws", "tellOne", "(II)V"⟩, 5), (⟨"TideRakes", "beginDay", "()V"⟩, 14), (⟨"TideRakes$Laws", "setVariables", "(IIIII)V"⟩, 5), (⟨"TideRakes$Laws", "value", "(I)I"⟩, 5), (⟨"TideRakes$Shore", "settleErrors", "()V"⟩, 7), (⟨"TideRakes$Shore", "leastError", "(I)I"⟩, 7), (⟨"TideRakes$Shore", "measureFrom", "(II)V"⟩, 7), (⟨"TideRakes", "putBytes", "(I)V"⟩, 14), (⟨"TideRakes$Reader", "split", "([BI)V"⟩, 12), (⟨"TideRakes$Reader", "takeLetters", "([BIII)I"⟩, 12), (⟨"TideRakes$Reader", "kindOf", "(J)I"⟩, 12), (⟨"TideRakes$Reader", "takeDigits", "([BIII)I"⟩, 12), (⟨"TideRakes$Reader", "takeTell", "()V"⟩, 12), (⟨"TideRakes$Reader", "takePart", "()V"⟩, 12), (⟨"TideRakes$Reader", "fail", "(I)V"⟩, 12), (⟨"TideRakes$Reader", "accept", "(I)Z"⟩, 12)]
theorem lw_r1 : ∀ q ∈ lw_privs_1, lw_okq q := List.forall_mem_cons.mpr ⟨lw_p0, List.forall_mem_cons.mpr ⟨lw_p1, List.forall_mem_cons.mpr ⟨lw_p2, List.forall_mem_cons.mpr ⟨lw_p3, List.forall_mem_cons.mpr ⟨lw_p4, List.forall_mem_cons.mpr ⟨lw_p5, List.forall_mem_cons.mpr ⟨lw_p6, List.forall_mem_cons.mpr ⟨lw_p7, List.forall_mem_cons.mpr ⟨lw_p8, List.forall_mem_cons.mpr ⟨lw_p9, List.forall_mem_cons.mpr ⟨lw_p10, List.forall_mem_cons.mpr ⟨lw_p11, List.forall_mem_cons.mpr ⟨lw_p12, List.forall_mem_cons.mpr ⟨lw_p13, List.forall_mem_cons.mpr ⟨lw_p14, List.forall_mem_cons.mpr ⟨lw_p15, fun _ h => absurd h List.not_mem_nil⟩⟩⟩⟩⟩⟩⟩⟩⟩⟩⟩⟩⟩⟩⟩⟩
theorem lw_p16 : lw_okq (⟨"TideRakes$Reader", "takeName", "()V"⟩, 12) := ⟨⟨by decide +kernel, by decide +kernel⟩, List.mem_of_getElem? (i := 32) (by decide +kernel), List.mem_of_getElem? (i := 816) (by decide +kernel), List.mem_of_getElem? (i := 817) (by decide +kernel)⟩
theorem lw_p17 : lw_okq (⟨"TideRakes$Reader", "failMildly", "(II)V"⟩, 12) := ⟨⟨by decide +kernel, by decide +kernel⟩, List.mem_of_getElem? (i := 32) (by decide +kernel), List.mem_of_getElem? (i := 820) (by decide +kernel), List.mem_of_getElem? (i := 821) (by decide +kernel)⟩
theorem lw_p18 : lw_okq (⟨"TideRakes$Reader", "takeNumber", "(II)I"⟩, 12) := ⟨⟨by decide +kernel, by decide +kernel⟩, List.mem_of_getElem? (i := 32) (by decide +kernel), List.mem_of_getElem? (i := 824) (by decide +kernel), List.mem_of_getElem? (i := 825) (by decide +kernel)⟩
theorem lw_p19 : lw_okq (⟨"TideRakes$Reader", "takeWorker", "()V"⟩, 12) := ⟨⟨by decide +kernel, by decide +kernel⟩, List.mem_of_getElem? (i := 32) (by decide +kernel), List.mem_of_getElem? (i := 828) (by decide +kernel), List.mem_of_getElem? (i := 829) (by decide +kernel)⟩
theorem lw_p20 : lw_okq (⟨"TideRakes$Reader", "takeLaw", "(I)V"⟩, 12) := ⟨⟨by decide +kernel, by decide +kernel⟩, List.mem_of_getElem? (i := 32) (by decide +kernel), List.mem_of_getElem? (i := 832) (by decide +kernel), List.mem_of_getElem? (i := 833) (by decide +kernel)⟩
theorem lw_p21 : lw_okq (⟨"TideRakes$Reader", "takeSum", "(I)V"⟩, 12) := ⟨⟨by decide +kernel, by decide +kernel⟩, List.mem_of_getElem? (i := 32) (by decide +kernel), List.mem_of_getElem? (i := 837) (by decide +kernel), List.mem_of_getElem? (i := 838) (by decide +kernel)⟩
theorem lw_p22 : lw_okq (⟨"TideRakes$Reader", "takeProduct", "(I)V"⟩, 12) := ⟨⟨by decide +kernel, by decide +kernel⟩, List.mem_of_getElem? (i := 32) (by decide +kernel), List.mem_of_getElem? (i := 841) (by decide +kernel), List.mem_of_getElem? (i := 842) (by decide +kernel)⟩
theorem lw_p23 : lw_okq (⟨"TideRakes$Reader", "takeUnit", "(I)V"⟩, 12) := ⟨⟨by decide +kernel, by decide +kernel⟩, List.mem_of_getElem? (i := 32) (by decide +kernel), List.mem_of_getElem? (i := 845) (by decide +kernel), List.mem_of_getElem? (i := 846) (by decide +kernel)⟩
theorem lw_p24 : lw_okq (⟨"TideRakes", "isPart", "(I)Z"⟩, 14) := ⟨⟨by decide +kernel, by decide +kernel⟩, List.mem_of_getElem? (i := 24) (by decide +kernel), List.mem_of_getElem? (i := 862) (by decide +kernel), List.mem_of_getElem? (i := 863) (by decide +kernel)⟩
theorem lw_p25 : lw_okq (⟨"TideRakes", "isWorker", "(I)Z"⟩, 14) := ⟨⟨by decide +kernel, by decide +kernel⟩, List.mem_of_getElem? (i := 24) (by decide +kernel), List.mem_of_getElem? (i := 870) (by decide +kernel), List.mem_of_getElem? (i := 871) (by decide +kernel)⟩
theorem lw_p26 : lw_okq (⟨"TideRakes$Stand", "addAct", "(III)V"⟩, 9) := ⟨⟨by decide +kernel, by decide +kernel⟩, List.mem_of_getElem? (i := 331) (by decide +kernel), List.mem_of_getElem? (i := 931) (by decide +kernel), List.mem_of_getElem? (i := 932) (by decide +kernel)⟩
theorem lw_p27 : lw_okq (⟨"TideRakes", "keepIfDone", "(I)I"⟩, 14) := ⟨⟨by decide +kernel, by decide +kernel⟩, List.mem_of_getElem? (i := 24) (by decide +kernel), List.mem_of_getElem? (i := 935) (by decide +kernel), List.mem_of_getElem? (i := 936) (by decide +kernel)⟩
theorem lw_p28 : lw_okq (⟨"TideRakes", "picture", "(I)I"⟩, 14) := ⟨⟨by decide +kernel, by decide +kernel⟩, List.mem_of_getElem? (i := 24) (by decide +kernel), List.mem_of_getElem? (i := 990) (by decide +kernel), List.mem_of_getElem? (i := 991) (by decide +kernel)⟩
theorem lw_p29 : lw_okq (⟨"TideRakes$Rows", "measure", "(LTideRakes$Walker;)V"⟩, 7) := ⟨⟨by decide +kernel, by decide +kernel⟩, List.mem_of_getElem? (i := 445) (by decide +kernel), List.mem_of_getElem? (i := 1022) (by decide +kernel), List.mem_of_getElem? (i := 1023) (by decide +kernel)⟩
theorem lw_p30 : lw_okq (⟨"TideRakes$Rows", "endOf", "(II)I"⟩, 7) := ⟨⟨by decide +kernel, by decide +kernel⟩, List.mem_of_getElem? (i := 445) (by decide +kernel), List.mem_of_getElem? (i := 1029) (by decide +kernel), List.mem_of_getElem? (i := 1030) (by decide +kernel)⟩
theorem lw_p31 : lw_okq (⟨"TideRakes$Rows", "endFrom", "(II)I"⟩, 7) := ⟨⟨by decide +kernel, by decide +kernel⟩, List.mem_of_getElem? (i := 445) (by decide +kernel), List.mem_of_getElem? (i := 1033) (by decide +kernel), List.mem_of_getElem? (i := 1034) (by decide +kernel)⟩
def lw_privs_2 : List (MethodName × Nat) := [(⟨"TideRakes$Reader", "takeName", "()V"⟩, 12), (⟨"TideRakes$Reader", "failMildly", "(II)V"⟩, 12), (⟨"TideRakes$Reader", "takeNumber", "(II)I"⟩, 12), (⟨"TideRakes$Reader", "takeWorker", "()V"⟩, 12), (⟨"TideRakes$Reader", "takeLaw", "(I)V"⟩, 12), (⟨"TideRakes$Reader", "takeSum", "(I)V"⟩, 12), (⟨"TideRakes$Reader", "takeProduct", "(I)V"⟩, 12), (⟨"TideRakes$Reader", "takeUnit", "(I)V"⟩, 12), (⟨"TideRakes", "isPart", "(I)Z"⟩, 14), (⟨"TideRakes", "isWorker", "(I)Z"⟩, 14), (⟨"TideRakes$Stand", "addAct", "(III)V"⟩, 9), (⟨"TideRakes", "keepIfDone", "(I)I"⟩, 14), (⟨"TideRakes", "picture", "(I)I"⟩, 14), (⟨"TideRakes$Rows", "measure", "(LTideRakes$Walker;)V"⟩, 7), (⟨"TideRakes$Rows", "endOf", "(II)I"⟩, 7), (⟨"TideRakes$Rows", "endFrom", "(II)I"⟩, 7)]
theorem lw_r2 : ∀ q ∈ lw_privs_2, lw_okq q := List.forall_mem_cons.mpr ⟨lw_p16, List.forall_mem_cons.mpr ⟨lw_p17, List.forall_mem_cons.mpr ⟨lw_p18, List.forall_mem_cons.mpr ⟨lw_p19, List.forall_mem_cons.mpr ⟨lw_p20, List.forall_mem_cons.mpr ⟨lw_p21, List.forall_mem_cons.mpr ⟨lw_p22, List.forall_mem_cons.mpr ⟨lw_p23, List.forall_mem_cons.mpr ⟨lw_p24, List.forall_mem_cons.mpr ⟨lw_p25, List.forall_mem_cons.mpr ⟨lw_p26, List.forall_mem_cons.mpr ⟨lw_p27, List.forall_mem_cons.mpr ⟨lw_p28, List.forall_mem_cons.mpr ⟨lw_p29, List.forall_mem_cons.mpr ⟨lw_p30, List.forall_mem_cons.mpr ⟨lw_p31, fun _ h => absurd h List.not_mem_nil⟩⟩⟩⟩⟩⟩⟩⟩⟩⟩⟩⟩⟩⟩⟩⟩
theorem lw_p32 : lw_okq (⟨"TideRakes", "answer", "(LTideRakes$Rows;II)I"⟩, 14) := ⟨⟨by decide +kernel, by decide +kernel⟩, List.mem_of_getElem? (i := 24) (by decide +kernel), List.mem_of_getElem? (i := 1038) (by decide +kernel), List.mem_of_getElem? (i := 1039) (by decide +kernel)⟩
theorem lw_p33 : lw_okq (⟨"TideRakes$Rows", "firstLast", "(III)I"⟩, 7) := ⟨⟨by decide +kernel, by decide +kernel⟩, List.mem_of_getElem? (i := 445) (by decide +kernel), List.mem_of_getElem? (i := 1066) (by decide +kernel), List.mem_of_getElem? (i := 1067) (by decide +kernel)⟩
theorem lw_p34 : lw_okq (⟨"TideRakes$Planner", "worthLater", "(LTideRakes$Shore;LTideRakes$Stand;III)I"⟩, 10) := ⟨⟨by decide +kernel, by decide +kernel⟩, List.mem_of_getElem? (i := 438) (by decide +kernel), List.mem_of_getElem? (i := 1110) (by decide +kernel), List.mem_of_getElem? (i := 1111) (by decide +kernel)⟩
theorem lw_p35 : lw_okq (⟨"TideRakes", "lastHolding", "(LTideRakes$Sand;I)I"⟩, 14) := ⟨⟨by decide +kernel, by decide +kernel⟩, List.mem_of_getElem? (i := 24) (by decide +kernel), List.mem_of_getElem? (i := 1153) (by decide +kernel), List.mem_of_getElem? (i := 1154) (by decide +kernel)⟩
theorem lw_p36 : lw_okq (⟨"TideRakes$Planner", "spanOf", "(LTideRakes$Shore;I)I"⟩, 10) := ⟨⟨by decide +kernel, by decide +kernel⟩, List.mem_of_getElem? (i := 438) (by decide +kernel), List.mem_of_getElem? (i := 1165) (by decide +kernel), List.mem_of_getElem? (i := 1166) (by decide +kernel)⟩
theorem lw_p37 : lw_okq (⟨"TideRakes", "letDogsRun", "(II)V"⟩, 14) := ⟨⟨by decide +kernel, by decide +kernel⟩, List.mem_of_getElem? (i := 24) (by decide +kernel), List.mem_of_getElem? (i := 1176) (by decide +kernel), List.mem_of_getElem? (i := 1177) (by decide +kernel)⟩
theorem lw_p38 : lw_okq (⟨"TideRakes", "letDogsRunOver", "(III)V"⟩, 14) := ⟨⟨by decide +kernel, by decide +kernel⟩, List.mem_of_getElem? (i := 24) (by decide +kernel), List.mem_of_getElem? (i := 1184) (by decide +kernel), List.mem_of_getElem? (i := 1185) (by decide +kernel)⟩
theorem lw_p39 : lw_okq (⟨"TideRakes", "isRunOver", "(IIII)Z"⟩, 14) := ⟨⟨by decide +kernel, by decide +kernel⟩, List.mem_of_getElem? (i := 24) (by decide +kernel), List.mem_of_getElem? (i := 1197) (by decide +kernel), List.mem_of_getElem? (i := 1198) (by decide +kernel)⟩
theorem lw_p40 : lw_okq (⟨"TideRakes$Told", "replay", "(LTideRakes$Shore;LTideRakes$Stand;II)V"⟩, 5) := ⟨⟨by decide +kernel, by decide +kernel⟩, List.mem_of_getElem? (i := 512) (by decide +kernel), List.mem_of_getElem? (i := 1237) (by decide +kernel), List.mem_of_getElem? (i := 1238) (by decide +kernel)⟩
theorem lw_p41 : lw_okq (⟨"TideRakes$Told", "agrees", "(LTideRakes$Shore;I)Z"⟩, 5) := ⟨⟨by decide +kernel, by decide +kernel⟩, List.mem_of_getElem? (i := 512) (by decide +kernel), List.mem_of_getElem? (i := 1246) (by decide +kernel), List.mem_of_getElem? (i := 1247) (by decide +kernel)⟩
theorem lw_p42 : lw_okq (⟨"TideRakes", "heldSlots", "()I"⟩, 14) := ⟨⟨by decide +kernel, by decide +kernel⟩, List.mem_of_getElem? (i := 24) (by decide +kernel), List.mem_of_getElem? (i := 1277) (by decide +kernel), List.mem_of_getElem? (i := 1278) (by decide +kernel)⟩
theorem lw_p43 : lw_okq (⟨"TideRakesModel", "plain", "(I)V"⟩, 86) := ⟨⟨by decide +kernel, by decide +kernel⟩, List.mem_of_getElem? (i := 1281) (by decide +kernel), List.mem_of_getElem? (i := 1287) (by decide +kernel), List.mem_of_getElem? (i := 1288) (by decide +kernel)⟩
theorem lw_p44 : lw_okq (⟨"TideRakesModel", "layOut", "()V"⟩, 86) := ⟨⟨by decide +kernel, by decide +kernel⟩, List.mem_of_getElem? (i := 1281) (by decide +kernel), List.mem_of_getElem? (i := 1298) (by decide +kernel), List.mem_of_getElem? (i := 1299) (by decide +kernel)⟩
theorem lw_p45 : lw_okq (⟨"TideRakesModel", "setsOf", "(IIIII)V"⟩, 86) := ⟨⟨by decide +kernel, by decide +kernel⟩, List.mem_of_getElem? (i := 1281) (by decide +kernel), List.mem_of_getElem? (i := 1302) (by decide +kernel), List.mem_of_getElem? (i := 1303) (by decide +kernel)⟩
theorem lw_p46 : lw_okq (⟨"TideRakesModel", "tells", "(IIII)I"⟩, 86) := ⟨⟨by decide +kernel, by decide +kernel⟩, List.mem_of_getElem? (i := 1281) (by decide +kernel), List.mem_of_getElem? (i := 1306) (by decide +kernel), List.mem_of_getElem? (i := 1307) (by decide +kernel)⟩
theorem lw_p47 : lw_okq (⟨"TideRakesModel", "termOf", "(II)I"⟩, 86) := ⟨⟨by decide +kernel, by decide +kernel⟩, List.mem_of_getElem? (i := 1281) (by decide +kernel), List.mem_of_getElem? (i := 1310) (by decide +kernel), List.mem_of_getElem? (i := 1311) (by decide +kernel)⟩
def lw_privs_3 : List (MethodName × Nat) := [(⟨"TideRakes", "answer", "(LTideRakes$Rows;II)I"⟩, 14), (⟨"TideRakes$Rows", "firstLast", "(III)I"⟩, 7), (⟨"TideRakes$Planner", "worthLater", "(LTideRakes$Shore;LTideRakes$Stand;III)I"⟩, 10), (⟨"TideRakes", "lastHolding", "(LTideRakes$Sand;I)I"⟩, 14), (⟨"TideRakes$Planner", "spanOf", "(LTideRakes$Shore;I)I"⟩, 10), (⟨"TideRakes", "letDogsRun", "(II)V"⟩, 14), (⟨"TideRakes", "letDogsRunOver", "(III)V"⟩, 14), (⟨"TideRakes", "isRunOver", "(IIII)Z"⟩, 14), (⟨"TideRakes$Told", "replay", "(LTideRakes$Shore;LTideRakes$Stand;II)V"⟩, 5), (⟨"TideRakes$Told", "agrees", "(LTideRakes$Shore;I)Z"⟩, 5), (⟨"TideRakes", "heldSlots", "()I"⟩, 14), (⟨"TideRakesModel", "plain", "(I)V"⟩, 86), (⟨"TideRakesModel", "layOut", "()V"⟩, 86), (⟨"TideRakesModel", "setsOf", "(IIIII)V"⟩, 86), (⟨"TideRakesModel", "tells", "(IIII)I"⟩, 86), (⟨"TideRakesModel", "termOf", "(II)I"⟩, 86)]
theorem lw_r3 : ∀ q ∈ lw_privs_3, lw_okq q := List.forall_mem_cons.mpr ⟨lw_p32, List.forall_mem_cons.mpr ⟨lw_p33, List.forall_mem_cons.mpr ⟨lw_p34, List.forall_mem_cons.mpr ⟨lw_p35, List.forall_mem_cons.mpr ⟨lw_p36, List.forall_mem_cons.mpr ⟨lw_p37, List.forall_mem_cons.mpr ⟨lw_p38, List.forall_mem_cons.mpr ⟨lw_p39, List.forall_mem_cons.mpr ⟨lw_p40, List.forall_mem_cons.mpr ⟨lw_p41, List.forall_mem_cons.mpr ⟨lw_p42, List.forall_mem_cons.mpr ⟨lw_p43, List.forall_mem_cons.mpr ⟨lw_p44, List.forall_mem_cons.mpr ⟨lw_p45, List.forall_mem_cons.mpr ⟨lw_p46, List.forall_mem_cons.mpr ⟨lw_p47, fun _ h => absurd h List.not_mem_nil⟩⟩⟩⟩⟩⟩⟩⟩⟩⟩⟩⟩⟩⟩⟩⟩
theorem lw_p48 : lw_okq (⟨"TideRakesModel", "laysPart", "(I)V"⟩, 86) := ⟨⟨by decide +kernel, by decide +kernel⟩, List.mem_of_getElem? (i := 1281) (by decide +kernel), List.mem_of_getElem? (i := 1314) (by decide +kernel), List.mem_of_getElem? (i := 1315) (by decide +kernel)⟩
theorem lw_p49 : lw_okq (⟨"TideRakesModel", "isHolding", "(II)Z"⟩, 86) := ⟨⟨by decide +kernel, by decide +kernel⟩, List.mem_of_getElem? (i := 1281) (by decide +kernel), List.mem_of_getElem? (i := 1318) (by decide +kernel), List.mem_of_getElem? (i := 1319) (by decide +kernel)⟩
theorem lw_p50 : lw_okq (⟨"TideRakesModel", "begins", "()V"⟩, 86) := ⟨⟨by decide +kernel, by decide +kernel⟩, List.mem_of_getElem? (i := 1281) (by decide +kernel), List.mem_of_getElem? (i := 1325) (by decide +kernel), List.mem_of_getElem? (i := 1326) (by decide +kernel)⟩
theorem lw_p51 : lw_okq (⟨"TideRakesModel", "keepsRow", "()V"⟩, 86) := ⟨⟨by decide +kernel, by decide +kernel⟩, List.mem_of_getElem? (i := 1281) (by decide +kernel), List.mem_of_getElem? (i := 1329) (by decide +kernel), List.mem_of_getElem? (i := 1330) (by decide +kernel)⟩
theorem lw_p52 : lw_okq (⟨"TideRakesModel", "put", "(I)V"⟩, 86) := ⟨⟨by decide +kernel, by decide +kernel⟩, List.mem_of_getElem? (i := 1281) (by decide +kernel), List.mem_of_getElem? (i := 1595) (by decide +kernel), List.mem_of_getElem? (i := 1596) (by decide +kernel)⟩
theorem lw_p53 : lw_okq (⟨"TideRakesModel", "cut", "()V"⟩, 86) := ⟨⟨by decide +kernel, by decide +kernel⟩, List.mem_of_getElem? (i := 1281) (by decide +kernel), List.mem_of_getElem? (i := 1607) (by decide +kernel), List.mem_of_getElem? (i := 1608) (by decide +kernel)⟩
theorem lw_p54 : lw_okq (⟨"TideRakesModel", "byteAt", "(I)I"⟩, 86) := ⟨⟨by decide +kernel, by decide +kernel⟩, List.mem_of_getElem? (i := 1281) (by decide +kernel), List.mem_of_getElem? (i := 1611) (by decide +kernel), List.mem_of_getElem? (i := 1612) (by decide +kernel)⟩
theorem lw_p55 : lw_okq (⟨"TideRakesModel", "token", "(IIIJ)V"⟩, 86) := ⟨⟨by decide +kernel, by decide +kernel⟩, List.mem_of_getElem? (i := 1281) (by decide +kernel), List.mem_of_getElem? (i := 1615) (by decide +kernel), List.mem_of_getElem? (i := 1616) (by decide +kernel)⟩
theorem lw_p56 : lw_okq (⟨"TideRakesModel", "sign", "(III)I"⟩, 86) := ⟨⟨by decide +kernel, by decide +kernel⟩, List.mem_of_getElem? (i := 1281) (by decide +kernel), List.mem_of_getElem? (i := 1625) (by decide +kernel), List.mem_of_getElem? (i := 1626) (by decide +kernel)⟩
theorem lw_p57 : lw_okq (⟨"TideRakesModel", "is", "(I)Z"⟩, 86) := ⟨⟨by decide +kernel, by decide +kernel⟩, List.mem_of_getElem? (i := 1281) (by decide +kernel), List.mem_of_getElem? (i := 1629) (by decide +kernel), List.mem_of_getElem? (i := 1630) (by decide +kernel)⟩
theorem lw_p58 : lw_okq (⟨"TideRakesModel", "tellOne", "()V"⟩, 86) := ⟨⟨by decide +kernel, by decide +kernel⟩, List.mem_of_getElem? (i := 1281) (by decide +kernel), List.mem_of_getElem? (i := 1633) (by decide +kernel), List.mem_of_getElem? (i := 1634) (by decide +kernel)⟩
theorem lw_p59 : lw_okq (⟨"TideRakesModel", "roomFor", "(II)V"⟩, 86) := ⟨⟨by decide +kernel, by decide +kernel⟩, List.mem_of_getElem? (i := 1281) (by decide +kernel), List.mem_of_getElem? (i := 1637) (by decide +kernel), List.mem_of_getElem? (i := 1638) (by decide +kernel)⟩
theorem lw_p60 : lw_okq (⟨"TideRakesModel", "fail", "(I)V"⟩, 86) := ⟨⟨by decide +kernel, by decide +kernel⟩, List.mem_of_getElem? (i := 1281) (by decide +kernel), List.mem_of_getElem? (i := 1641) (by decide +kernel), List.mem_of_getElem? (i := 1642) (by decide +kernel)⟩
theorem lw_p61 : lw_okq (⟨"TideRakesModel", "goesOn", "()V"⟩, 86) := ⟨⟨by decide +kernel, by decide +kernel⟩, List.mem_of_getElem? (i := 1281) (by decide +kernel), List.mem_of_getElem? (i := 1645) (by decide +kernel), List.mem_of_getElem? (i := 1646) (by decide +kernel)⟩
theorem lw_p62 : lw_okq (⟨"TideRakesModel", "tellPart", "()V"⟩, 86) := ⟨⟨by decide +kernel, by decide +kernel⟩, List.mem_of_getElem? (i := 1281) (by decide +kernel), List.mem_of_getElem? (i := 1649) (by decide +kernel), List.mem_of_getElem? (i := 1650) (by decide +kernel)⟩
theorem lw_p63 : lw_okq (⟨"TideRakesModel", "named", "()I"⟩, 86) := ⟨⟨by decide +kernel, by decide +kernel⟩, List.mem_of_getElem? (i := 1281) (by decide +kernel), List.mem_of_getElem? (i := 1653) (by decide +kernel), List.mem_of_getElem? (i := 1654) (by decide +kernel)⟩
def lw_privs_4 : List (MethodName × Nat) := [(⟨"TideRakesModel", "laysPart", "(I)V"⟩, 86), (⟨"TideRakesModel", "isHolding", "(II)Z"⟩, 86), (⟨"TideRakesModel", "begins", "()V"⟩, 86), (⟨"TideRakesModel", "keepsRow", "()V"⟩, 86), (⟨"TideRakesModel", "put", "(I)V"⟩, 86), (⟨"TideRakesModel", "cut", "()V"⟩, 86), (⟨"TideRakesModel", "byteAt", "(I)I"⟩, 86), (⟨"TideRakesModel", "token", "(IIIJ)V"⟩, 86), (⟨"TideRakesModel", "sign", "(III)I"⟩, 86), (⟨"TideRakesModel", "is", "(I)Z"⟩, 86), (⟨"TideRakesModel", "tellOne", "()V"⟩, 86), (⟨"TideRakesModel", "roomFor", "(II)V"⟩, 86), (⟨"TideRakesModel", "fail", "(I)V"⟩, 86), (⟨"TideRakesModel", "goesOn", "()V"⟩, 86), (⟨"TideRakesModel", "tellPart", "()V"⟩, 86), (⟨"TideRakesModel", "named", "()I"⟩, 86)]
theorem lw_r4 : ∀ q ∈ lw_privs_4, lw_okq q := List.forall_mem_cons.mpr ⟨lw_p48, List.forall_mem_cons.mpr ⟨lw_p49, List.forall_mem_cons.mpr ⟨lw_p50, List.forall_mem_cons.mpr ⟨lw_p51, List.forall_mem_cons.mpr ⟨lw_p52, List.forall_mem_cons.mpr ⟨lw_p53, List.forall_mem_cons.mpr ⟨lw_p54, List.forall_mem_cons.mpr ⟨lw_p55, List.forall_mem_cons.mpr ⟨lw_p56, List.forall_mem_cons.mpr ⟨lw_p57, List.forall_mem_cons.mpr ⟨lw_p58, List.forall_mem_cons.mpr ⟨lw_p59, List.forall_mem_cons.mpr ⟨lw_p60, List.forall_mem_cons.mpr ⟨lw_p61, List.forall_mem_cons.mpr ⟨lw_p62, List.forall_mem_cons.mpr ⟨lw_p63, fun _ h => absurd h List.not_mem_nil⟩⟩⟩⟩⟩⟩⟩⟩⟩⟩⟩⟩⟩⟩⟩⟩
theorem lw_p64 : lw_okq (⟨"TideRakesModel", "must", "(I)V"⟩, 86) := ⟨⟨by decide +kernel, by decide +kernel⟩, List.mem_of_getElem? (i := 1281) (by decide +kernel), List.mem_of_getElem? (i := 1657) (by decide +kernel), List.mem_of_getElem? (i := 1658) (by decide +kernel)⟩
theorem lw_p65 : lw_okq (⟨"TideRakesModel", "wrong", "(II)V"⟩, 86) := ⟨⟨by decide +kernel, by decide +kernel⟩, List.mem_of_getElem? (i := 1281) (by decide +kernel), List.mem_of_getElem? (i := 1661) (by decide +kernel), List.mem_of_getElem? (i := 1662) (by decide +kernel)⟩
theorem lw_p66 : lw_okq (⟨"TideRakesModel", "bounded", "(II)I"⟩, 86) := ⟨⟨by decide +kernel, by decide +kernel⟩, List.mem_of_getElem? (i := 1281) (by decide +kernel), List.mem_of_getElem? (i := 1665) (by decide +kernel), List.mem_of_getElem? (i := 1666) (by decide +kernel)⟩
theorem lw_p67 : lw_okq (⟨"TideRakesModel", "tellWorker", "()V"⟩, 86) := ⟨⟨by decide +kernel, by decide +kernel⟩, List.mem_of_getElem? (i := 1281) (by decide +kernel), List.mem_of_getElem? (i := 1669) (by decide +kernel), List.mem_of_getElem? (i := 1670) (by decide +kernel)⟩
theorem lw_p68 : lw_okq (⟨"TideRakesModel", "tellLaw", "(I)V"⟩, 86) := ⟨⟨by decide +kernel, by decide +kernel⟩, List.mem_of_getElem? (i := 1281) (by decide +kernel), List.mem_of_getElem? (i := 1673) (by decide +kernel), List.mem_of_getElem? (i := 1674) (by decide +kernel)⟩
theorem lw_p69 : lw_okq (⟨"TideRakesModel", "expression", "()V"⟩, 86) := ⟨⟨by decide +kernel, by decide +kernel⟩, List.mem_of_getElem? (i := 1281) (by decide +kernel), List.mem_of_getElem? (i := 1677) (by decide +kernel), List.mem_of_getElem? (i := 1678) (by decide +kernel)⟩
theorem lw_p70 : lw_okq (⟨"TideRakesModel", "unit", "()V"⟩, 86) := ⟨⟨by decide +kernel, by decide +kernel⟩, List.mem_of_getElem? (i := 1281) (by decide +kernel), List.mem_of_getElem? (i := 1681) (by decide +kernel), List.mem_of_getElem? (i := 1682) (by decide +kernel)⟩
theorem lw_p71 : lw_okq (⟨"TideRakesModel", "emit", "(II)V"⟩, 86) := ⟨⟨by decide +kernel, by decide +kernel⟩, List.mem_of_getElem? (i := 1281) (by decide +kernel), List.mem_of_getElem? (i := 1685) (by decide +kernel), List.mem_of_getElem? (i := 1686) (by decide +kernel)⟩
theorem lw_p72 : lw_okq (⟨"TideRakesModel", "comesOut", "(Z)V"⟩, 86) := ⟨⟨by decide +kernel, by decide +kernel⟩, List.mem_of_getElem? (i := 1281) (by decide +kernel), List.mem_of_getElem? (i := 1689) (by decide +kernel), List.mem_of_getElem? (i := 1690) (by decide +kernel)⟩
theorem lw_p73 : lw_okq (⟨"TideRakesModel", "term", "()V"⟩, 86) := ⟨⟨by decide +kernel, by decide +kernel⟩, List.mem_of_getElem? (i := 1281) (by decide +kernel), List.mem_of_getElem? (i := 1693) (by decide +kernel), List.mem_of_getElem? (i := 1694) (by decide +kernel)⟩
theorem lw_p74 : lw_okq (⟨"TideRakesModel", "isPart", "(I)Z"⟩, 86) := ⟨⟨by decide +kernel, by decide +kernel⟩, List.mem_of_getElem? (i := 1281) (by decide +kernel), List.mem_of_getElem? (i := 1705) (by decide +kernel), List.mem_of_getElem? (i := 1706) (by decide +kernel)⟩
theorem lw_p75 : lw_okq (⟨"TideRakesModel", "isWorker", "(I)Z"⟩, 86) := ⟨⟨by decide +kernel, by decide +kernel⟩, List.mem_of_getElem? (i := 1281) (by decide +kernel), List.mem_of_getElem? (i := 1713) (by decide +kernel), List.mem_of_getElem? (i := 1714) (by decide +kernel)⟩
theorem lw_p76 : lw_okq (⟨"TideRakesModel", "firstFrom", "(II)I"⟩, 86) := ⟨⟨by decide +kernel, by decide +kernel⟩, List.mem_of_getElem? (i := 1281) (by decide +kernel), List.mem_of_getElem? (i := 1736) (by decide +kernel), List.mem_of_getElem? (i := 1737) (by decide +kernel)⟩
theorem lw_p77 : lw_okq (⟨"TideRakesModel", "copies", "()V"⟩, 86) := ⟨⟨by decide +kernel, by decide +kernel⟩, List.mem_of_getElem? (i := 1281) (by decide +kernel), List.mem_of_getElem? (i := 1752) (by decide +kernel), List.mem_of_getElem? (i := 1753) (by decide +kernel)⟩
theorem lw_p78 : lw_okq (⟨"TideRakesModel", "sends", "(II)I"⟩, 86) := ⟨⟨by decide +kernel, by decide +kernel⟩, List.mem_of_getElem? (i := 1281) (by decide +kernel), List.mem_of_getElem? (i := 1756) (by decide +kernel), List.mem_of_getElem? (i := 1757) (by decide +kernel)⟩
theorem lw_p79 : lw_okq (⟨"TideRakesModel", "comesAt", "(II)I"⟩, 86) := ⟨⟨by decide +kernel, by decide +kernel⟩, List.mem_of_getElem? (i := 1281) (by decide +kernel), List.mem_of_getElem? (i := 1760) (by decide +kernel), List.mem_of_getElem? (i := 1761) (by decide +kernel)⟩
def lw_privs_5 : List (MethodName × Nat) := [(⟨"TideRakesModel", "must", "(I)V"⟩, 86), (⟨"TideRakesModel", "wrong", "(II)V"⟩, 86), (⟨"TideRakesModel", "bounded", "(II)I"⟩, 86), (⟨"TideRakesModel", "tellWorker", "()V"⟩, 86), (⟨"TideRakesModel", "tellLaw", "(I)V"⟩, 86), (⟨"TideRakesModel", "expression", "()V"⟩, 86), (⟨"TideRakesModel", "unit", "()V"⟩, 86), (⟨"TideRakesModel", "emit", "(II)V"⟩, 86), (⟨"TideRakesModel", "comesOut", "(Z)V"⟩, 86), (⟨"TideRakesModel", "term", "()V"⟩, 86), (⟨"TideRakesModel", "isPart", "(I)Z"⟩, 86), (⟨"TideRakesModel", "isWorker", "(I)Z"⟩, 86), (⟨"TideRakesModel", "firstFrom", "(II)I"⟩, 86), (⟨"TideRakesModel", "copies", "()V"⟩, 86), (⟨"TideRakesModel", "sends", "(II)I"⟩, 86), (⟨"TideRakesModel", "comesAt", "(II)I"⟩, 86)]
theorem lw_r5 : ∀ q ∈ lw_privs_5, lw_okq q := List.forall_mem_cons.mpr ⟨lw_p64, List.forall_mem_cons.mpr ⟨lw_p65, List.forall_mem_cons.mpr ⟨lw_p66, List.forall_mem_cons.mpr ⟨lw_p67, List.forall_mem_cons.mpr ⟨lw_p68, List.forall_mem_cons.mpr ⟨lw_p69, List.forall_mem_cons.mpr ⟨lw_p70, List.forall_mem_cons.mpr ⟨lw_p71, List.forall_mem_cons.mpr ⟨lw_p72, List.forall_mem_cons.mpr ⟨lw_p73, List.forall_mem_cons.mpr ⟨lw_p74, List.forall_mem_cons.mpr ⟨lw_p75, List.forall_mem_cons.mpr ⟨lw_p76, List.forall_mem_cons.mpr ⟨lw_p77, List.forall_mem_cons.mpr ⟨lw_p78, List.forall_mem_cons.mpr ⟨lw_p79, fun _ h => absurd h List.not_mem_nil⟩⟩⟩⟩⟩⟩⟩⟩⟩⟩⟩⟩⟩⟩⟩⟩
theorem lw_p80 : lw_okq (⟨"TideRakesModel", "wayOf", "(IIIII)I"⟩, 86) := ⟨⟨by decide +kernel, by decide +kernel⟩, List.mem_of_getElem? (i := 1281) (by decide +kernel), List.mem_of_getElem? (i := 1764) (by decide +kernel), List.mem_of_getElem? (i := 1765) (by decide +kernel)⟩
theorem lw_p81 : lw_okq (⟨"TideRakesModel", "isCovered", "(III)Z"⟩, 86) := ⟨⟨by decide +kernel, by decide +kernel⟩, List.mem_of_getElem? (i := 1281) (by decide +kernel), List.mem_of_getElem? (i := 1771) (by decide +kernel), List.mem_of_getElem? (i := 1772) (by decide +kernel)⟩
theorem lw_p82 : lw_okq (⟨"TideRakesModel", "goesThere", "(III)V"⟩, 86) := ⟨⟨by decide +kernel, by decide +kernel⟩, List.mem_of_getElem? (i := 1281) (by decide +kernel), List.mem_of_getElem? (i := 1775) (by decide +kernel), List.mem_of_getElem? (i := 1776) (by decide +kernel)⟩
theorem lw_p83 : lw_okq (⟨"TideRakesModel", "keeps", "(III)V"⟩, 86) := ⟨⟨by decide +kernel, by decide +kernel⟩, List.mem_of_getElem? (i := 1281) (by decide +kernel), List.mem_of_getElem? (i := 1779) (by decide +kernel), List.mem_of_getElem? (i := 1780) (by decide +kernel)⟩
theorem lw_p84 : lw_okq (⟨"TideRakesModel", "crosses", "(I)Z"⟩, 86) := ⟨⟨by decide +kernel, by decide +kernel⟩, List.mem_of_getElem? (i := 1281) (by decide +kernel), List.mem_of_getElem? (i := 1787) (by decide +kernel), List.mem_of_getElem? (i := 1788) (by decide +kernel)⟩
theorem lw_p85 : lw_okq (⟨"TideRakesModel", "mendsOne", "(II)I"⟩, 86) := ⟨⟨by decide +kernel, by decide +kernel⟩, List.mem_of_getElem? (i := 1281) (by decide +kernel), List.mem_of_getElem? (i := 1795) (by decide +kernel), List.mem_of_getElem? (i := 1796) (by decide +kernel)⟩
theorem lw_p86 : lw_okq (⟨"TideRakesModel", "isSeen", "(II)Z"⟩, 86) := ⟨⟨by decide +kernel, by decide +kernel⟩, List.mem_of_getElem? (i := 1281) (by decide +kernel), List.mem_of_getElem? (i := 1807) (by decide +kernel), List.mem_of_getElem? (i := 1808) (by decide +kernel)⟩
theorem lw_p87 : lw_okq (⟨"TideRakesModel", "photoOf", "(I)I"⟩, 86) := ⟨⟨by decide +kernel, by decide +kernel⟩, List.mem_of_getElem? (i := 1281) (by decide +kernel), List.mem_of_getElem? (i := 1815) (by decide +kernel), List.mem_of_getElem? (i := 1816) (by decide +kernel)⟩
theorem lw_p88 : lw_okq (⟨"TideRakesModel", "planNow", "(III)I"⟩, 86) := ⟨⟨by decide +kernel, by decide +kernel⟩, List.mem_of_getElem? (i := 1281) (by decide +kernel), List.mem_of_getElem? (i := 1830) (by decide +kernel), List.mem_of_getElem? (i := 1831) (by decide +kernel)⟩
theorem lw_p89 : lw_okq (⟨"TideRakesModel", "startsAs", "(II)V"⟩, 86) := ⟨⟨by decide +kernel, by decide +kernel⟩, List.mem_of_getElem? (i := 1281) (by decide +kernel), List.mem_of_getElem? (i := 1834) (by decide +kernel), List.mem_of_getElem? (i := 1835) (by decide +kernel)⟩
theorem lw_p90 : lw_okq (⟨"TideRakesModel", "neverDone", "()I"⟩, 86) := ⟨⟨by decide +kernel, by decide +kernel⟩, List.mem_of_getElem? (i := 1281) (by decide +kernel), List.mem_of_getElem? (i := 1838) (by decide +kernel), List.mem_of_getElem? (i := 1839) (by decide +kernel)⟩
theorem lw_p91 : lw_okq (⟨"TideRakesModel", "bestRow", "(III)I"⟩, 86) := ⟨⟨by decide +kernel, by decide +kernel⟩, List.mem_of_getElem? (i := 1281) (by decide +kernel), List.mem_of_getElem? (i := 1842) (by decide +kernel), List.mem_of_getElem? (i := 1843) (by decide +kernel)⟩
theorem lw_p92 : lw_okq (⟨"TideRakesModel", "fillsRows", "(II)V"⟩, 86) := ⟨⟨by decide +kernel, by decide +kernel⟩, List.mem_of_getElem? (i := 1281) (by decide +kernel), List.mem_of_getElem? (i := 1846) (by decide +kernel), List.mem_of_getElem? (i := 1847) (by decide +kernel)⟩
theorem lw_p93 : lw_okq (⟨"TideRakesModel", "readyBehind", "(IIII)I"⟩, 86) := ⟨⟨by decide +kernel, by decide +kernel⟩, List.mem_of_getElem? (i := 1281) (by decide +kernel), List.mem_of_getElem? (i := 1850) (by decide +kernel), List.mem_of_getElem? (i := 1851) (by decide +kernel)⟩
theorem lw_p94 : lw_okq (⟨"TideRakesModel", "stepTo", "(IIIII)I"⟩, 86) := ⟨⟨by decide +kernel, by decide +kernel⟩, List.mem_of_getElem? (i := 1281) (by decide +kernel), List.mem_of_getElem? (i := 1854) (by decide +kernel), List.mem_of_getElem? (i := 1855) (by decide +kernel)⟩
theorem lw_p95 : lw_okq (⟨"TideRakesModel", "canBy", "(II)Z"⟩, 86) := ⟨⟨by decide +kernel, by decide +kernel⟩, List.mem_of_getElem? (i := 1281) (by decide +kernel), List.mem_of_getElem? (i := 1859) (by decide +kernel), List.mem_of_getElem? (i := 1860) (by decide +kernel)⟩
def lw_privs_6 : List (MethodName × Nat) := [(⟨"TideRakesModel", "wayOf", "(IIIII)I"⟩, 86), (⟨"TideRakesModel", "isCovered", "(III)Z"⟩, 86), (⟨"TideRakesModel", "goesThere", "(III)V"⟩, 86), (⟨"TideRakesModel", "keeps", "(III)V"⟩, 86), (⟨"TideRakesModel", "crosses", "(I)Z"⟩, 86), (⟨"TideRakesModel", "mendsOne", "(II)I"⟩, 86), (⟨"TideRakesModel", "isSeen", "(II)Z"⟩, 86), (⟨"TideRakesModel", "photoOf", "(I)I"⟩, 86), (⟨"TideRakesModel", "planNow", "(III)I"⟩, 86), (⟨"TideRakesModel", "startsAs", "(II)V"⟩, 86), (⟨"TideRakesModel", "neverDone", "()I"⟩, 86), (⟨"TideRakesModel", "bestRow", "(III)I"⟩, 86), (⟨"TideRakesModel", "fillsRows", "(II)V"⟩, 86), (⟨"TideRakesModel", "readyBehind", "(IIII)I"⟩, 86), (⟨"TideRakesModel", "stepTo", "(IIIII)I"⟩, 86), (⟨"TideRakesModel", "canBy", "(II)Z"⟩, 86)]
theorem lw_r6 : ∀ q ∈ lw_privs_6, lw_okq q := List.forall_mem_cons.mpr ⟨lw_p80, List.forall_mem_cons.mpr ⟨lw_p81, List.forall_mem_cons.mpr ⟨lw_p82, List.forall_mem_cons.mpr ⟨lw_p83, List.forall_mem_cons.mpr ⟨lw_p84, List.forall_mem_cons.mpr ⟨lw_p85, List.forall_mem_cons.mpr ⟨lw_p86, List.forall_mem_cons.mpr ⟨lw_p87, List.forall_mem_cons.mpr ⟨lw_p88, List.forall_mem_cons.mpr ⟨lw_p89, List.forall_mem_cons.mpr ⟨lw_p90, List.forall_mem_cons.mpr ⟨lw_p91, List.forall_mem_cons.mpr ⟨lw_p92, List.forall_mem_cons.mpr ⟨lw_p93, List.forall_mem_cons.mpr ⟨lw_p94, List.forall_mem_cons.mpr ⟨lw_p95, fun _ h => absurd h List.not_mem_nil⟩⟩⟩⟩⟩⟩⟩⟩⟩⟩⟩⟩⟩⟩⟩⟩
theorem lw_p96 : lw_okq (⟨"TideRakesModel", "leastReady", "(I)I"⟩, 86) := ⟨⟨by decide +kernel, by decide +kernel⟩, List.mem_of_getElem? (i := 1281) (by decide +kernel), List.mem_of_getElem? (i := 1863) (by decide +kernel), List.mem_of_getElem? (i := 1864) (by decide +kernel)⟩
theorem lw_p97 : lw_okq (⟨"TideRakesModel", "worthBy", "(I)I"⟩, 86) := ⟨⟨by decide +kernel, by decide +kernel⟩, List.mem_of_getElem? (i := 1281) (by decide +kernel), List.mem_of_getElem? (i := 1867) (by decide +kernel), List.mem_of_getElem? (i := 1868) (by decide +kernel)⟩
theorem lw_p98 : lw_okq (⟨"TideRakesModel", "fillsPlan", "(II)V"⟩, 86) := ⟨⟨by decide +kernel, by decide +kernel⟩, List.mem_of_getElem? (i := 1281) (by decide +kernel), List.mem_of_getElem? (i := 1875) (by decide +kernel), List.mem_of_getElem? (i := 1876) (by decide +kernel)⟩
theorem lw_p99 : lw_okq (⟨"TideRakesModel", "crossedNow", "()I"⟩, 86) := ⟨⟨by decide +kernel, by decide +kernel⟩, List.mem_of_getElem? (i := 1281) (by decide +kernel), List.mem_of_getElem? (i := 1886) (by decide +kernel), List.mem_of_getElem? (i := 1887) (by decide +kernel)⟩
theorem lw_p100 : lw_okq (⟨"TideRakesModel", "fillsCan", "(III)V"⟩, 86) := ⟨⟨by decide +kernel, by decide +kernel⟩, List.mem_of_getElem? (i := 1281) (by decide +kernel), List.mem_of_getElem? (i := 1906) (by decide +kernel), List.mem_of_getElem? (i := 1907) (by decide +kernel)⟩
theorem lw_p101 : lw_okq (⟨"TideRakesModel", "sharesAll", "()V"⟩, 86) := ⟨⟨by decide +kernel, by decide +kernel⟩, List.mem_of_getElem? (i := 1281) (by decide +kernel), List.mem_of_getElem? (i := 1914) (by decide +kernel), List.mem_of_getElem? (i := 1915) (by decide +kernel)⟩
theorem lw_p102 : lw_okq (⟨"TideRakesModel", "isLarge", "(II)Z"⟩, 86) := ⟨⟨by decide +kernel, by decide +kernel⟩, List.mem_of_getElem? (i := 1281) (by decide +kernel), List.mem_of_getElem? (i := 1922) (by decide +kernel), List.mem_of_getElem? (i := 1923) (by decide +kernel)⟩
theorem lw_p103 : lw_okq (⟨"TideRakesModel", "photoBy", "(II)I"⟩, 86) := ⟨⟨by decide +kernel, by decide +kernel⟩, List.mem_of_getElem? (i := 1281) (by decide +kernel), List.mem_of_getElem? (i := 1930) (by decide +kernel), List.mem_of_getElem? (i := 1931) (by decide +kernel)⟩
theorem lw_p104 : lw_okq (⟨"TideRakesModel", "isRunOver", "(III)Z"⟩, 86) := ⟨⟨by decide +kernel, by decide +kernel⟩, List.mem_of_getElem? (i := 1281) (by decide +kernel), List.mem_of_getElem? (i := 1934) (by decide +kernel), List.mem_of_getElem? (i := 1935) (by decide +kernel)⟩
theorem lw_p105 : lw_okq (⟨"TideRakesModel", "settles", "()V"⟩, 86) := ⟨⟨by decide +kernel, by decide +kernel⟩, List.mem_of_getElem? (i := 1281) (by decide +kernel), List.mem_of_getElem? (i := 1953) (by decide +kernel), List.mem_of_getElem? (i := 1954) (by decide +kernel)⟩
theorem lw_p106 : lw_okq (⟨"TideRakesModel", "errorFrom", "(II)I"⟩, 86) := ⟨⟨by decide +kernel, by decide +kernel⟩, List.mem_of_getElem? (i := 1281) (by decide +kernel), List.mem_of_getElem? (i := 1957) (by decide +kernel), List.mem_of_getElem? (i := 1958) (by decide +kernel)⟩
theorem lw_p107 : lw_okq (⟨"TideRakesModel", "isSo", "(III)Z"⟩, 86) := ⟨⟨by decide +kernel, by decide +kernel⟩, List.mem_of_getElem? (i := 1281) (by decide +kernel), List.mem_of_getElem? (i := 1977) (by decide +kernel), List.mem_of_getElem? (i := 1978) (by decide +kernel)⟩
def lw_privs_7 : List (MethodName × Nat) := [(⟨"TideRakesModel", "leastReady", "(I)I"⟩, 86), (⟨"TideRakesModel", "worthBy", "(I)I"⟩, 86), (⟨"TideRakesModel", "fillsPlan", "(II)V"⟩, 86), (⟨"TideRakesModel", "crossedNow", "()I"⟩, 86), (⟨"TideRakesModel", "fillsCan", "(III)V"⟩, 86), (⟨"TideRakesModel", "sharesAll", "()V"⟩, 86), (⟨"TideRakesModel", "isLarge", "(II)Z"⟩, 86), (⟨"TideRakesModel", "photoBy", "(II)I"⟩, 86), (⟨"TideRakesModel", "isRunOver", "(III)Z"⟩, 86), (⟨"TideRakesModel", "settles", "()V"⟩, 86), (⟨"TideRakesModel", "errorFrom", "(II)I"⟩, 86), (⟨"TideRakesModel", "isSo", "(III)Z"⟩, 86)]
theorem lw_r7 : ∀ q ∈ lw_privs_7, lw_okq q := List.forall_mem_cons.mpr ⟨lw_p96, List.forall_mem_cons.mpr ⟨lw_p97, List.forall_mem_cons.mpr ⟨lw_p98, List.forall_mem_cons.mpr ⟨lw_p99, List.forall_mem_cons.mpr ⟨lw_p100, List.forall_mem_cons.mpr ⟨lw_p101, List.forall_mem_cons.mpr ⟨lw_p102, List.forall_mem_cons.mpr ⟨lw_p103, List.forall_mem_cons.mpr ⟨lw_p104, List.forall_mem_cons.mpr ⟨lw_p105, List.forall_mem_cons.mpr ⟨lw_p106, List.forall_mem_cons.mpr ⟨lw_p107, fun _ h => absurd h List.not_mem_nil⟩⟩⟩⟩⟩⟩⟩⟩⟩⟩⟩⟩
def lw_privs : List (MethodName × Nat) := lw_privs_1 ++ (lw_privs_2 ++ (lw_privs_3 ++ (lw_privs_4 ++ (lw_privs_5 ++ (lw_privs_6 ++ (lw_privs_7))))))
def lw_tbl : List Cond := k2_sels lw_privs ++ tables_1
theorem lw_privs_ok : ∀ q ∈ lw_privs, lw_okq q := by
  show ∀ q ∈ lw_privs_1 ++ (lw_privs_2 ++ (lw_privs_3 ++ (lw_privs_4 ++ (lw_privs_5 ++ (lw_privs_6 ++ (lw_privs_7)))))), lw_okq q
  exact List.forall_mem_append.mpr ⟨lw_r1, List.forall_mem_append.mpr ⟨lw_r2, List.forall_mem_append.mpr ⟨lw_r3, List.forall_mem_append.mpr ⟨lw_r4, List.forall_mem_append.mpr ⟨lw_r5, List.forall_mem_append.mpr ⟨lw_r6, lw_r7⟩⟩⟩⟩⟩⟩
def RX0 : String := "TideRakes$Laws"
def TX0 : u_T := fun k => match k with
  | 0 => ("TideRakes$Laws", "steps", "[I", true)
  | 1 => ("TideRakes$Laws", "starts", "[I", true)
  | 2 => ("TideRakes$Laws", "variables", "[I", true)
  | 3 => ("TideRakes$Laws", "stack", "[I", true)
  | _ => ("TideRakes$Laws", "used", "I", false)
def tyX0 : Nat → FieldType := fun k => match k with
  | 0 => .array .int
  | 1 => .array .int
  | 2 => .array .int
  | 3 => .array .int
  | _ => .int
theorem nmX0 : ∀ a, a < 5 → ∀ b, b < 5 → a ≠ b → (TX0 a).2.1 ≠ (TX0 b).2.1 := by decide +kernel
theorem tyX0_ok : ∀ k, k < 5 → parseFieldDescriptor (TX0 k).2.2.1 = some (tyX0 k) := by decide +kernel
abbrev cX0_init : ByteArray := prog_2_method_1_code
def yX0_init : MethodName := ⟨RX0, "<init>", "()V"⟩
abbrev cX0_clear : ByteArray := prog_2_method_2_code
def yX0_clear : MethodName := ⟨RX0, "clear", "()V"⟩
abbrev cX0_tellOne : ByteArray := prog_2_method_3_code
def yX0_tellOne : MethodName := ⟨RX0, "tellOne", "(II)V"⟩
abbrev cX0_begin : ByteArray := prog_2_method_4_code
def yX0_begin : MethodName := ⟨RX0, "begin", "(I)V"⟩
abbrev cX0_emit : ByteArray := prog_2_method_5_code
def yX0_emit : MethodName := ⟨RX0, "emit", "(II)I"⟩
abbrev cX0_jumpHere : ByteArray := prog_2_method_6_code
def yX0_jumpHere : MethodName := ⟨RX0, "jumpHere", "(I)V"⟩
abbrev cX0_high : ByteArray := prog_2_method_7_code
def yX0_high : MethodName := ⟨RX0, "high", "(II)I"⟩
abbrev cX0_tide : ByteArray := prog_2_method_8_code
def yX0_tide : MethodName := ⟨RX0, "tide", "(I)I"⟩
abbrev cX0_sun : ByteArray := prog_2_method_9_code
def yX0_sun : MethodName := ⟨RX0, "sun", "(I)I"⟩
abbrev cX0_slip : ByteArray := prog_2_method_10_code
def yX0_slip : MethodName := ⟨RX0, "slip", "(II)I"⟩
abbrev cX0_loose : ByteArray := prog_2_method_11_code
def yX0_loose : MethodName := ⟨RX0, "loose", "(III)I"⟩
abbrev cX0_within : ByteArray := prog_2_method_12_code
def yX0_within : MethodName := ⟨RX0, "within", "(III)I"⟩
abbrev cX0_setVariables : ByteArray := prog_2_method_13_code
def yX0_setVariables : MethodName := ⟨RX0, "setVariables", "(IIIII)V"⟩
abbrev cX0_value : ByteArray := prog_2_method_14_code
def yX0_value : MethodName := ⟨RX0, "value", "(I)I"⟩
abbrev cX0_combined : ByteArray := prog_2_method_15_code
def yX0_combined : MethodName := ⟨RX0, "combined", "(III)I"⟩
def RX1 : String := "TideRakes$Past"
def TX1 : u_T := fun k => match k with
  | 0 => ("TideRakes$Past", "notes", "[I", true)
  | 1 => ("TideRakes$Past", "next", "I", false)
  | _ => ("TideRakes$Past", "size", "I", false)
def tyX1 : Nat → FieldType := fun k => match k with
  | 0 => .array .int
  | 1 => .int
  | _ => .int
theorem nmX1 : ∀ a, a < 3 → ∀ b, b < 3 → a ≠ b → (TX1 a).2.1 ≠ (TX1 b).2.1 := by decide +kernel
theorem tyX1_ok : ∀ k, k < 3 → parseFieldDescriptor (TX1 k).2.2.1 = some (tyX1 k) := by decide +kernel
abbrev cX1_init : ByteArray := prog_3_method_1_code
def yX1_init : MethodName := ⟨RX1, "<init>", "()V"⟩
abbrev cX1_note : ByteArray := prog_3_method_2_code
def yX1_note : MethodName := ⟨RX1, "note", "(LTideRakes$Stand;II)V"⟩
abbrev cX1_keep : ByteArray := prog_3_method_3_code
def yX1_keep : MethodName := ⟨RX1, "keep", "()V"⟩
abbrev cX1_takeBack : ByteArray := prog_3_method_4_code
def yX1_takeBack : MethodName := ⟨RX1, "takeBack", "(LTideRakes$Stand;)Z"⟩
def RX2 : String := "TideRakes$Planner"
def TX2 : u_T := fun k => match k with
  | 0 => ("TideRakes$Planner", "rows", "[LTideRakes$Rows;", true)
  | 1 => ("TideRakes$Planner", "known", "[Z", true)
  | 2 => ("TideRakes$Planner", "otherRows", "LTideRakes$Rows;", true)
  | 3 => ("TideRakes$Planner", "walker", "LTideRakes$Walker;", true)
  | 4 => ("TideRakes$Planner", "row", "[I", true)
  | 5 => ("TideRakes$Planner", "sharedSpans", "[I", true)
  | 6 => ("TideRakes$Planner", "sharedKnown", "Z", false)
  | 7 => ("TideRakes$Planner", "sizedSpans", "[I", true)
  | 8 => ("TideRakes$Planner", "sizedSands", "[LTideRakes$Sand;", true)
  | _ => ("TideRakes$Planner", "spanOfSize", "[I", true)
def tyX2 : Nat → FieldType := fun k => match k with
  | 0 => .array (.object "TideRakes$Rows")
  | 1 => .array .boolean
  | 2 => .object "TideRakes$Rows"
  | 3 => .object "TideRakes$Walker"
  | 4 => .array .int
  | 5 => .array .int
  | 6 => .boolean
  | 7 => .array .int
  | 8 => .array (.object "TideRakes$Sand")
  | _ => .array .int
theorem nmX2 : ∀ a, a < 10 → ∀ b, b < 10 → a ≠ b → (TX2 a).2.1 ≠ (TX2 b).2.1 := by decide +kernel
theorem tyX2_ok : ∀ k, k < 10 → parseFieldDescriptor (TX2 k).2.2.1 = some (tyX2 k) := by decide +kernel
abbrev cX2_init : ByteArray := prog_4_method_1_code
def yX2_init : MethodName := ⟨RX2, "<init>", "()V"⟩
abbrev cX2_forgetRows : ByteArray := prog_4_method_2_code
def yX2_forgetRows : MethodName := ⟨RX2, "forgetRows", "()V"⟩
abbrev cX2_rowsOf : ByteArray := prog_4_method_3_code
def yX2_rowsOf : MethodName := ⟨RX2, "rowsOf", "(LTideRakes$Shore;LTideRakes$Stand;I)LTideRakes$Rows;"⟩
abbrev cX2_mendingRows : ByteArray := prog_4_method_4_code
def yX2_mendingRows : MethodName := ⟨RX2, "mendingRows", "(LTideRakes$Shore;LTideRakes$Stand;I)LTideRakes$Rows;"⟩
abbrev cX2_trace : ByteArray := prog_4_method_5_code
def yX2_trace : MethodName := ⟨RX2, "trace", "(LTideRakes$Shore;LTideRakes$Stand;II)I"⟩
abbrev cX2_visibleAfter : ByteArray := prog_4_method_6_code
def yX2_visibleAfter : MethodName := ⟨RX2, "visibleAfter", "(LTideRakes$Shore;LTideRakes$Stand;III)I"⟩
abbrev cX2_bestPair : ByteArray := prog_4_method_7_code
def yX2_bestPair : MethodName := ⟨RX2, "bestPair", "(LTideRakes$Shore;LTideRakes$Rows;LTideRakes$Rows;I)I"⟩
abbrev cX2_sharedSet : ByteArray := prog_4_method_8_code
def yX2_sharedSet : MethodName := ⟨RX2, "sharedSet", "(LTideRakes$Shore;LTideRakes$Stand;I)I"⟩
abbrev cX2_beginSpans : ByteArray := prog_4_method_9_code
def yX2_beginSpans : MethodName := ⟨RX2, "beginSpans", "([I)V"⟩
abbrev cX2_slack : ByteArray := prog_4_method_10_code
def yX2_slack : MethodName := ⟨RX2, "slack", "(LTideRakes$Shore;LTideRakes$Stand;II)I"⟩
abbrev cX2_worthLater : ByteArray := prog_4_method_11_code
def yX2_worthLater : MethodName := ⟨RX2, "worthLater", "(LTideRakes$Shore;LTideRakes$Stand;III)I"⟩
abbrev cX2_forgetSizes : ByteArray := prog_4_method_12_code
def yX2_forgetSizes : MethodName := ⟨RX2, "forgetSizes", "()V"⟩
abbrev cX2_largest : ByteArray := prog_4_method_13_code
def yX2_largest : MethodName := ⟨RX2, "largest", "(LTideRakes$Shore;I)I"⟩
abbrev cX2_spanOf : ByteArray := prog_4_method_14_code
def yX2_spanOf : MethodName := ⟨RX2, "spanOf", "(LTideRakes$Shore;I)I"⟩
def RX3 : String := "TideRakes$Reader"
def TX3 : u_T := fun k => match k with
  | 0 => ("TideRakes$Reader", "words", "[J", true)
  | 1 => ("TideRakes$Reader", "kinds", "[I", true)
  | 2 => ("TideRakes$Reader", "values", "[J", true)
  | 3 => ("TideRakes$Reader", "places", "[I", true)
  | 4 => ("TideRakes$Reader", "names", "[J", true)
  | 5 => ("TideRakes$Reader", "script", "LTideRakes$Script;", false)
  | 6 => ("TideRakes$Reader", "known", "I", false)
  | 7 => ("TideRakes$Reader", "at", "I", false)
  | 8 => ("TideRakes$Reader", "fault", "I", false)
  | 9 => ("TideRakes$Reader", "faultPlace", "I", false)
  | 10 => ("TideRakes$Reader", "milder", "I", false)
  | _ => ("TideRakes$Reader", "milderPlace", "I", false)
def tyX3 : Nat → FieldType := fun k => match k with
  | 0 => .array .long
  | 1 => .array .int
  | 2 => .array .long
  | 3 => .array .int
  | 4 => .array .long
  | 5 => .object "TideRakes$Script"
  | 6 => .int
  | 7 => .int
  | 8 => .int
  | 9 => .int
  | 10 => .int
  | _ => .int
theorem nmX3 : ∀ a, a < 12 → ∀ b, b < 12 → a ≠ b → (TX3 a).2.1 ≠ (TX3 b).2.1 := by decide +kernel
theorem tyX3_ok : ∀ k, k < 12 → parseFieldDescriptor (TX3 k).2.2.1 = some (tyX3 k) := by decide +kernel
abbrev cX3_init : ByteArray := prog_5_method_1_code
def yX3_init : MethodName := ⟨RX3, "<init>", "()V"⟩
abbrev cX3_readText : ByteArray := prog_5_method_2_code
def yX3_readText : MethodName := ⟨RX3, "readText", "([BI)I"⟩
abbrev cX3_split : ByteArray := prog_5_method_3_code
def yX3_split : MethodName := ⟨RX3, "split", "([BI)V"⟩
abbrev cX3_takeLetters : ByteArray := prog_5_method_4_code
def yX3_takeLetters : MethodName := ⟨RX3, "takeLetters", "([BIII)I"⟩
abbrev cX3_kindOf : ByteArray := prog_5_method_5_code
def yX3_kindOf : MethodName := ⟨RX3, "kindOf", "(J)I"⟩
abbrev cX3_takeDigits : ByteArray := prog_5_method_6_code
def yX3_takeDigits : MethodName := ⟨RX3, "takeDigits", "([BIII)I"⟩
abbrev cX3_withLetter : ByteArray := prog_5_method_7_code
def yX3_withLetter : MethodName := ⟨RX3, "withLetter", "(JI)J"⟩
abbrev cX3_isBlank : ByteArray := prog_5_method_8_code
def yX3_isBlank : MethodName := ⟨RX3, "isBlank", "(I)Z"⟩
abbrev cX3_isLetter : ByteArray := prog_5_method_9_code
def yX3_isLetter : MethodName := ⟨RX3, "isLetter", "(I)Z"⟩
abbrev cX3_isDigit : ByteArray := prog_5_method_10_code
def yX3_isDigit : MethodName := ⟨RX3, "isDigit", "(I)Z"⟩
abbrev cX3_takeTell : ByteArray := prog_5_method_11_code
def yX3_takeTell : MethodName := ⟨RX3, "takeTell", "()V"⟩
abbrev cX3_takePart : ByteArray := prog_5_method_12_code
def yX3_takePart : MethodName := ⟨RX3, "takePart", "()V"⟩
abbrev cX3_takeWorker : ByteArray := prog_5_method_13_code
def yX3_takeWorker : MethodName := ⟨RX3, "takeWorker", "()V"⟩
abbrev cX3_takeName : ByteArray := prog_5_method_14_code
def yX3_takeName : MethodName := ⟨RX3, "takeName", "()V"⟩
abbrev cX3_takeNumber : ByteArray := prog_5_method_15_code
def yX3_takeNumber : MethodName := ⟨RX3, "takeNumber", "(II)I"⟩
abbrev cX3_takeLaw : ByteArray := prog_5_method_16_code
def yX3_takeLaw : MethodName := ⟨RX3, "takeLaw", "(I)V"⟩
abbrev cX3_takeSum : ByteArray := prog_5_method_17_code
def yX3_takeSum : MethodName := ⟨RX3, "takeSum", "(I)V"⟩
abbrev cX3_takeProduct : ByteArray := prog_5_method_18_code
def yX3_takeProduct : MethodName := ⟨RX3, "takeProduct", "(I)V"⟩
abbrev cX3_takeUnit : ByteArray := prog_5_method_19_code
def yX3_takeUnit : MethodName := ⟨RX3, "takeUnit", "(I)V"⟩
abbrev cX3_accept : ByteArray := prog_5_method_20_code
def yX3_accept : MethodName := ⟨RX3, "accept", "(I)Z"⟩
abbrev cX3_fail : ByteArray := prog_5_method_21_code
def yX3_fail : MethodName := ⟨RX3, "fail", "(I)V"⟩
abbrev cX3_failMildly : ByteArray := prog_5_method_22_code
def yX3_failMildly : MethodName := ⟨RX3, "failMildly", "(II)V"⟩
def RX4 : String := "TideRakes$Rows"
def TX4 : u_T := fun k => match k with
  | 0 => ("TideRakes$Rows", "sands", "[LTideRakes$Sand;", false)
  | 1 => ("TideRakes$Rows", "parts", "I", false)
  | 2 => ("TideRakes$Rows", "mending", "Z", false)
  | 3 => ("TideRakes$Rows", "ways", "[I", true)
  | 4 => ("TideRakes$Rows", "firstComes", "[I", true)
  | 5 => ("TideRakes$Rows", "ends", "[I", false)
  | _ => ("TideRakes$Rows", "soonest", "[I", false)
def tyX4 : Nat → FieldType := fun k => match k with
  | 0 => .array (.object "TideRakes$Sand")
  | 1 => .int
  | 2 => .boolean
  | 3 => .array .int
  | 4 => .array .int
  | 5 => .array .int
  | _ => .array .int
theorem nmX4 : ∀ a, a < 7 → ∀ b, b < 7 → a ≠ b → (TX4 a).2.1 ≠ (TX4 b).2.1 := by decide +kernel
theorem tyX4_ok : ∀ k, k < 7 → parseFieldDescriptor (TX4 k).2.2.1 = some (tyX4 k) := by decide +kernel
abbrev cX4_init : ByteArray := prog_6_method_1_code
def yX4_init : MethodName := ⟨RX4, "<init>", "()V"⟩
abbrev cX4_fill : ByteArray := prog_6_method_2_code
def yX4_fill : MethodName := ⟨RX4, "fill", "([LTideRakes$Sand;IILTideRakes$Walker;Z)V"⟩
abbrev cX4_measure : ByteArray := prog_6_method_3_code
def yX4_measure : MethodName := ⟨RX4, "measure", "(LTideRakes$Walker;)V"⟩
abbrev cX4_endOf : ByteArray := prog_6_method_4_code
def yX4_endOf : MethodName := ⟨RX4, "endOf", "(II)I"⟩
abbrev cX4_endFrom : ByteArray := prog_6_method_5_code
def yX4_endFrom : MethodName := ⟨RX4, "endFrom", "(II)I"⟩
abbrev cX4_bestSet : ByteArray := prog_6_method_6_code
def yX4_bestSet : MethodName := ⟨RX4, "bestSet", "([II)I"⟩
abbrev cX4_isBy : ByteArray := prog_6_method_7_code
def yX4_isBy : MethodName := ⟨RX4, "isBy", "(II)Z"⟩
abbrev cX4_trace : ByteArray := prog_6_method_8_code
def yX4_trace : MethodName := ⟨RX4, "trace", "(I[I)I"⟩
abbrev cX4_shareIn : ByteArray := prog_6_method_9_code
def yX4_shareIn : MethodName := ⟨RX4, "shareIn", "([I)V"⟩
abbrev cX4_firstLast : ByteArray := prog_6_method_10_code
def yX4_firstLast : MethodName := ⟨RX4, "firstLast", "(III)I"⟩
def RX5 : String := "TideRakes$Sand"
def TX5 : u_T := fun k => match k with
  | 0 => ("TideRakes$Sand", "x", "I", false)
  | 1 => ("TideRakes$Sand", "y", "I", false)
  | 2 => ("TideRakes$Sand", "high", "I", false)
  | 3 => ("TideRakes$Sand", "minutes", "I", false)
  | 4 => ("TideRakes$Sand", "free", "[I", false)
  | _ => ("TideRakes$Sand", "starts", "[I", false)
def tyX5 : Nat → FieldType := fun k => match k with
  | 0 => .int
  | 1 => .int
  | 2 => .int
  | 3 => .int
  | 4 => .array .int
  | _ => .array .int
theorem nmX5 : ∀ a, a < 6 → ∀ b, b < 6 → a ≠ b → (TX5 a).2.1 ≠ (TX5 b).2.1 := by decide +kernel
theorem tyX5_ok : ∀ k, k < 6 → parseFieldDescriptor (TX5 k).2.2.1 = some (tyX5 k) := by decide +kernel
abbrev cX5_init : ByteArray := prog_7_method_1_code
def yX5_init : MethodName := ⟨RX5, "<init>", "()V"⟩
abbrev cX5_settle : ByteArray := prog_7_method_2_code
def yX5_settle : MethodName := ⟨RX5, "settle", "([III)V"⟩
abbrev cX5_freeFor : ByteArray := prog_7_method_3_code
def yX5_freeFor : MethodName := ⟨RX5, "freeFor", "(I)I"⟩
abbrev cX5_startFrom : ByteArray := prog_7_method_4_code
def yX5_startFrom : MethodName := ⟨RX5, "startFrom", "(I)I"⟩
abbrev cX5_washed : ByteArray := prog_7_method_5_code
def yX5_washed : MethodName := ⟨RX5, "washed", "(II)Z"⟩
def RX6 : String := "TideRakes$Script"
def TX6 : u_T := fun k => match k with
  | 0 => ("TideRakes$Script", "partX", "[I", true)
  | 1 => ("TideRakes$Script", "partY", "[I", true)
  | 2 => ("TideRakes$Script", "worth", "[I", true)
  | 3 => ("TideRakes$Script", "minutes", "[I", true)
  | 4 => ("TideRakes$Script", "parts", "I", false)
  | 5 => ("TideRakes$Script", "workerX", "[I", true)
  | 6 => ("TideRakes$Script", "workerY", "[I", true)
  | 7 => ("TideRakes$Script", "speed", "[I", true)
  | 8 => ("TideRakes$Script", "workers", "I", false)
  | 9 => ("TideRakes$Script", "holdsFrom", "I", false)
  | 10 => ("TideRakes$Script", "holdsTo", "I", false)
  | 11 => ("TideRakes$Script", "pegX", "I", false)
  | 12 => ("TideRakes$Script", "pegY", "I", false)
  | 13 => ("TideRakes$Script", "seed", "I", false)
  | _ => ("TideRakes$Script", "laws", "LTideRakes$Laws;", true)
def tyX6 : Nat → FieldType := fun k => match k with
  | 0 => .array .int
  | 1 => .array .int
  | 2 => .array .int
  | 3 => .array .int
  | 4 => .int
  | 5 => .array .int
  | 6 => .array .int
  | 7 => .array .int
  | 8 => .int
  | 9 => .int
  | 10 => .int
  | 11 => .int
  | 12 => .int
  | 13 => .int
  | _ => .object "TideRakes$Laws"
theorem nmX6 : ∀ a, a < 15 → ∀ b, b < 15 → a ≠ b → (TX6 a).2.1 ≠ (TX6 b).2.1 := by decide +kernel
theorem tyX6_ok : ∀ k, k < 15 → parseFieldDescriptor (TX6 k).2.2.1 = some (tyX6 k) := by decide +kernel
abbrev cX6_init : ByteArray := prog_8_method_1_code
def yX6_init : MethodName := ⟨RX6, "<init>", "()V"⟩
abbrev cX6_clear : ByteArray := prog_8_method_2_code
def yX6_clear : MethodName := ⟨RX6, "clear", "()V"⟩
abbrev cX6_farFromPeg : ByteArray := prog_8_method_3_code
def yX6_farFromPeg : MethodName := ⟨RX6, "farFromPeg", "(I)I"⟩
abbrev cX6_farBetween : ByteArray := prog_8_method_4_code
def yX6_farBetween : MethodName := ⟨RX6, "farBetween", "(II)I"⟩
def RX7 : String := "TideRakes$Shore"
def TX7 : u_T := fun k => match k with
  | 0 => ("TideRakes$Shore", "script", "LTideRakes$Script;", false)
  | 1 => ("TideRakes$Shore", "tide", "[I", true)
  | 2 => ("TideRakes$Shore", "sun", "[I", true)
  | 3 => ("TideRakes$Shore", "sands", "[LTideRakes$Sand;", true)
  | 4 => ("TideRakes$Shore", "worthOf", "[I", true)
  | 5 => ("TideRakes$Shore", "errors", "[I", true)
  | _ => ("TideRakes$Shore", "measuredFrom", "[I", true)
def tyX7 : Nat → FieldType := fun k => match k with
  | 0 => .object "TideRakes$Script"
  | 1 => .array .int
  | 2 => .array .int
  | 3 => .array (.object "TideRakes$Sand")
  | 4 => .array .int
  | 5 => .array .int
  | _ => .array .int
theorem nmX7 : ∀ a, a < 7 → ∀ b, b < 7 → a ≠ b → (TX7 a).2.1 ≠ (TX7 b).2.1 := by decide +kernel
theorem tyX7_ok : ∀ k, k < 7 → parseFieldDescriptor (TX7 k).2.2.1 = some (tyX7 k) := by decide +kernel
abbrev cX7_init : ByteArray := prog_9_method_1_code
def yX7_init : MethodName := ⟨RX7, "<init>", "()V"⟩
abbrev cX7_settle : ByteArray := prog_9_method_2_code
def yX7_settle : MethodName := ⟨RX7, "settle", "()V"⟩
abbrev cX7_layOut : ByteArray := prog_9_method_3_code
def yX7_layOut : MethodName := ⟨RX7, "layOut", "(LTideRakes$Sand;)V"⟩
abbrev cX7_holds : ByteArray := prog_9_method_4_code
def yX7_holds : MethodName := ⟨RX7, "holds", "(LTideRakes$Sand;I)Z"⟩
abbrev cX7_dogTells : ByteArray := prog_9_method_5_code
def yX7_dogTells : MethodName := ⟨RX7, "dogTells", "(II)I"⟩
abbrev cX7_allParts : ByteArray := prog_9_method_6_code
def yX7_allParts : MethodName := ⟨RX7, "allParts", "()I"⟩
abbrev cX7_settleErrors : ByteArray := prog_9_method_7_code
def yX7_settleErrors : MethodName := ⟨RX7, "settleErrors", "()V"⟩
abbrev cX7_leastError : ByteArray := prog_9_method_8_code
def yX7_leastError : MethodName := ⟨RX7, "leastError", "(I)I"⟩
abbrev cX7_measureFrom : ByteArray := prog_9_method_9_code
def yX7_measureFrom : MethodName := ⟨RX7, "measureFrom", "(II)V"⟩
def RX8 : String := "TideRakes$Stand"
def TX8 : u_T := fun k => match k with
  | 0 => ("TideRakes$Stand", "walkers", "[LTideRakes$Walker;", true)
  | 1 => ("TideRakes$Stand", "done", "[I", true)
  | 2 => ("TideRakes$Stand", "mended", "[I", true)
  | 3 => ("TideRakes$Stand", "rakedBy", "[I", true)
  | 4 => ("TideRakes$Stand", "crossed", "[Z", true)
  | 5 => ("TideRakes$Stand", "actKinds", "[I", true)
  | 6 => ("TideRakes$Stand", "actWorkers", "[I", true)
  | 7 => ("TideRakes$Stand", "actParts", "[I", true)
  | _ => ("TideRakes$Stand", "acts", "I", false)
def tyX8 : Nat → FieldType := fun k => match k with
  | 0 => .array (.object "TideRakes$Walker")
  | 1 => .array .int
  | 2 => .array .int
  | 3 => .array .int
  | 4 => .array .boolean
  | 5 => .array .int
  | 6 => .array .int
  | 7 => .array .int
  | _ => .int
theorem nmX8 : ∀ a, a < 9 → ∀ b, b < 9 → a ≠ b → (TX8 a).2.1 ≠ (TX8 b).2.1 := by decide +kernel
theorem tyX8_ok : ∀ k, k < 9 → parseFieldDescriptor (TX8 k).2.2.1 = some (tyX8 k) := by decide +kernel
abbrev cX8_init : ByteArray := prog_10_method_1_code
def yX8_init : MethodName := ⟨RX8, "<init>", "()V"⟩
abbrev cX8_begin : ByteArray := prog_10_method_2_code
def yX8_begin : MethodName := ⟨RX8, "begin", "(LTideRakes$Script;)V"⟩
abbrev cX8_copy : ByteArray := prog_10_method_3_code
def yX8_copy : MethodName := ⟨RX8, "copy", "(LTideRakes$Stand;)V"⟩
abbrev cX8_wouldBeDone : ByteArray := prog_10_method_4_code
def yX8_wouldBeDone : MethodName := ⟨RX8, "wouldBeDone", "(LTideRakes$Shore;II)I"⟩
abbrev cX8_rake : ByteArray := prog_10_method_5_code
def yX8_rake : MethodName := ⟨RX8, "rake", "(LTideRakes$Shore;II)I"⟩
abbrev cX8_strike : ByteArray := prog_10_method_6_code
def yX8_strike : MethodName := ⟨RX8, "strike", "(I)Z"⟩
abbrev cX8_repair : ByteArray := prog_10_method_7_code
def yX8_repair : MethodName := ⟨RX8, "repair", "(LTideRakes$Shore;II)I"⟩
abbrev cX8_addAct : ByteArray := prog_10_method_8_code
def yX8_addAct : MethodName := ⟨RX8, "addAct", "(III)V"⟩
abbrev cX8_visibleFrom : ByteArray := prog_10_method_9_code
def yX8_visibleFrom : MethodName := ⟨RX8, "visibleFrom", "(I)I"⟩
abbrev cX8_isVisible : ByteArray := prog_10_method_10_code
def yX8_isVisible : MethodName := ⟨RX8, "isVisible", "(LTideRakes$Shore;II)Z"⟩
abbrev cX8_visible : ByteArray := prog_10_method_11_code
def yX8_visible : MethodName := ⟨RX8, "visible", "(LTideRakes$Shore;I)I"⟩
abbrev cX8_neverDone : ByteArray := prog_10_method_12_code
def yX8_neverDone : MethodName := ⟨RX8, "neverDone", "()I"⟩
abbrev cX8_crossedSet : ByteArray := prog_10_method_13_code
def yX8_crossedSet : MethodName := ⟨RX8, "crossedSet", "()I"⟩
def RX9 : String := "TideRakes$Told"
def TX9 : u_T := fun k => match k with
  | 0 => ("TideRakes$Told", "parts", "[I", true)
  | 1 => ("TideRakes$Told", "minutes", "[I", true)
  | 2 => ("TideRakes$Told", "there", "[Z", true)
  | 3 => ("TideRakes$Told", "again", "LTideRakes$Stand;", true)
  | _ => ("TideRakes$Told", "size", "I", false)
def tyX9 : Nat → FieldType := fun k => match k with
  | 0 => .array .int
  | 1 => .array .int
  | 2 => .array .boolean
  | 3 => .object "TideRakes$Stand"
  | _ => .int
theorem nmX9 : ∀ a, a < 5 → ∀ b, b < 5 → a ≠ b → (TX9 a).2.1 ≠ (TX9 b).2.1 := by decide +kernel
theorem tyX9_ok : ∀ k, k < 5 → parseFieldDescriptor (TX9 k).2.2.1 = some (tyX9 k) := by decide +kernel
abbrev cX9_init : ByteArray := prog_11_method_1_code
def yX9_init : MethodName := ⟨RX9, "<init>", "()V"⟩
abbrev cX9_add : ByteArray := prog_11_method_2_code
def yX9_add : MethodName := ⟨RX9, "add", "(IIZ)I"⟩
abbrev cX9_way : ByteArray := prog_11_method_3_code
def yX9_way : MethodName := ⟨RX9, "way", "(LTideRakes$Shore;LTideRakes$Stand;II)I"⟩
abbrev cX9_replay : ByteArray := prog_11_method_4_code
def yX9_replay : MethodName := ⟨RX9, "replay", "(LTideRakes$Shore;LTideRakes$Stand;II)V"⟩
abbrev cX9_agrees : ByteArray := prog_11_method_5_code
def yX9_agrees : MethodName := ⟨RX9, "agrees", "(LTideRakes$Shore;I)Z"⟩
def RX10 : String := "TideRakes$Walker"
def TX10 : u_T := fun k => match k with
  | 0 => ("TideRakes$Walker", "x", "I", false)
  | 1 => ("TideRakes$Walker", "y", "I", false)
  | 2 => ("TideRakes$Walker", "speed", "I", false)
  | 3 => ("TideRakes$Walker", "ready", "I", false)
  | _ => ("TideRakes$Walker", "raked", "I", false)
def tyX10 : Nat → FieldType := fun k => match k with
  | 0 => .int
  | 1 => .int
  | 2 => .int
  | 3 => .int
  | _ => .int
theorem nmX10 : ∀ a, a < 5 → ∀ b, b < 5 → a ≠ b → (TX10 a).2.1 ≠ (TX10 b).2.1 := by decide +kernel
theorem tyX10_ok : ∀ k, k < 5 → parseFieldDescriptor (TX10 k).2.2.1 = some (tyX10 k) := by decide +kernel
abbrev cX10_init : ByteArray := prog_12_method_1_code
def yX10_init : MethodName := ⟨RX10, "<init>", "()V"⟩
abbrev cX10_copy : ByteArray := prog_12_method_2_code
def yX10_copy : MethodName := ⟨RX10, "copy", "(LTideRakes$Walker;)V"⟩
abbrev cX10_begin : ByteArray := prog_12_method_3_code
def yX10_begin : MethodName := ⟨RX10, "begin", "(LTideRakes$Script;I)V"⟩
abbrev cX10_comesTo : ByteArray := prog_12_method_4_code
def yX10_comesTo : MethodName := ⟨RX10, "comesTo", "(LTideRakes$Sand;)I"⟩
abbrev cX10_goTo : ByteArray := prog_12_method_5_code
def yX10_goTo : MethodName := ⟨RX10, "goTo", "(LTideRakes$Sand;I)V"⟩
def RX11 : String := "TideRakes"
def TX11 : u_T := fun k => match k with
  | 0 => ("TideRakes", "tape", "[B", true)
  | 1 => ("TideRakes", "length", "I", false)
  | 2 => ("TideRakes", "faultPlace", "I", false)
  | 3 => ("TideRakes", "reader", "LTideRakes$Reader;", true)
  | 4 => ("TideRakes", "shore", "LTideRakes$Shore;", true)
  | 5 => ("TideRakes", "stand", "LTideRakes$Stand;", true)
  | 6 => ("TideRakes", "past", "LTideRakes$Past;", true)
  | 7 => ("TideRakes", "slots", "[LTideRakes$Stand;", true)
  | 8 => ("TideRakes", "held", "[Z", true)
  | 9 => ("TideRakes", "planner", "LTideRakes$Planner;", true)
  | 10 => ("TideRakes", "told", "LTideRakes$Told;", true)
  | 11 => ("TideRakes", "left", "[I", true)
  | 12 => ("TideRakes", "mixedSeeds", "[I", true)
  | _ => ("TideRakes", "dogLimits", "[I", true)
def tyX11 : Nat → FieldType := fun k => match k with
  | 0 => .array .byte
  | 1 => .int
  | 2 => .int
  | 3 => .object "TideRakes$Reader"
  | 4 => .object "TideRakes$Shore"
  | 5 => .object "TideRakes$Stand"
  | 6 => .object "TideRakes$Past"
  | 7 => .array (.object "TideRakes$Stand")
  | 8 => .array .boolean
  | 9 => .object "TideRakes$Planner"
  | 10 => .object "TideRakes$Told"
  | 11 => .array .int
  | 12 => .array .int
  | _ => .array .int
theorem nmX11 : ∀ a, a < 14 → ∀ b, b < 14 → a ≠ b → (TX11 a).2.1 ≠ (TX11 b).2.1 := by decide +kernel
theorem tyX11_ok : ∀ k, k < 14 → parseFieldDescriptor (TX11 k).2.2.1 = some (tyX11 k) := by decide +kernel
abbrev cX11_init : ByteArray := prog_1_method_1_code
def yX11_init : MethodName := ⟨RX11, "<init>", "()V"⟩
abbrev cX11_feed : ByteArray := prog_1_method_2_code
def yX11_feed : MethodName := ⟨RX11, "feed", "(IIIII)I"⟩
abbrev cX11_back : ByteArray := prog_1_method_3_code
def yX11_back : MethodName := ⟨RX11, "back", "(I)I"⟩
abbrev cX11_read : ByteArray := prog_1_method_4_code
def yX11_read : MethodName := ⟨RX11, "read", "()I"⟩
abbrev cX11_place : ByteArray := prog_1_method_5_code
def yX11_place : MethodName := ⟨RX11, "place", "()I"⟩
abbrev cX11_part : ByteArray := prog_1_method_6_code
def yX11_part : MethodName := ⟨RX11, "part", "(II)I"⟩
abbrev cX11_worker : ByteArray := prog_1_method_7_code
def yX11_worker : MethodName := ⟨RX11, "worker", "(II)I"⟩
abbrev cX11_minute : ByteArray := prog_1_method_8_code
def yX11_minute : MethodName := ⟨RX11, "minute", "(II)I"⟩
abbrev cX11_free : ByteArray := prog_1_method_9_code
def yX11_free : MethodName := ⟨RX11, "free", "(II)I"⟩
abbrev cX11_when : ByteArray := prog_1_method_10_code
def yX11_when : MethodName := ⟨RX11, "when", "(II)I"⟩
abbrev cX11_send : ByteArray := prog_1_method_11_code
def yX11_send : MethodName := ⟨RX11, "send", "(II)I"⟩
abbrev cX11_cross : ByteArray := prog_1_method_12_code
def yX11_cross : MethodName := ⟨RX11, "cross", "(I)Z"⟩
abbrev cX11_mend : ByteArray := prog_1_method_13_code
def yX11_mend : MethodName := ⟨RX11, "mend", "(II)I"⟩
abbrev cX11_undo : ByteArray := prog_1_method_14_code
def yX11_undo : MethodName := ⟨RX11, "undo", "()Z"⟩
abbrev cX11_seen : ByteArray := prog_1_method_15_code
def yX11_seen : MethodName := ⟨RX11, "seen", "(I)I"⟩
abbrev cX11_photo : ByteArray := prog_1_method_16_code
def yX11_photo : MethodName := ⟨RX11, "photo", "(I)I"⟩
abbrev cX11_bestMinute : ByteArray := prog_1_method_17_code
def yX11_bestMinute : MethodName := ⟨RX11, "bestMinute", "()I"⟩
abbrev cX11_stays : ByteArray := prog_1_method_18_code
def yX11_stays : MethodName := ⟨RX11, "stays", "(II)I"⟩
abbrev cX11_plan : ByteArray := prog_1_method_19_code
def yX11_plan : MethodName := ⟨RX11, "plan", "(III)I"⟩
abbrev cX11_planAt : ByteArray := prog_1_method_20_code
def yX11_planAt : MethodName := ⟨RX11, "planAt", "(III)I"⟩
abbrev cX11_two : ByteArray := prog_1_method_21_code
def yX11_two : MethodName := ⟨RX11, "two", "(IIII)I"⟩
abbrev cX11_hands : ByteArray := prog_1_method_22_code
def yX11_hands : MethodName := ⟨RX11, "hands", "(II)I"⟩
abbrev cX11_spare : ByteArray := prog_1_method_23_code
def yX11_spare : MethodName := ⟨RX11, "spare", "(II)I"⟩
abbrev cX11_quickest : ByteArray := prog_1_method_24_code
def yX11_quickest : MethodName := ⟨RX11, "quickest", "(II)I"⟩
abbrev cX11_mends : ByteArray := prog_1_method_25_code
def yX11_mends : MethodName := ⟨RX11, "mends", "(III)I"⟩
abbrev cX11_after : ByteArray := prog_1_method_26_code
def yX11_after : MethodName := ⟨RX11, "after", "(III)I"⟩
abbrev cX11_window : ByteArray := prog_1_method_27_code
def yX11_window : MethodName := ⟨RX11, "window", "(IIZ)I"⟩
abbrev cX11_large : ByteArray := prog_1_method_28_code
def yX11_large : MethodName := ⟨RX11, "large", "(I)I"⟩
abbrev cX11_hopes : ByteArray := prog_1_method_29_code
def yX11_hopes : MethodName := ⟨RX11, "hopes", "(III)I"⟩
abbrev cX11_hope : ByteArray := prog_1_method_30_code
def yX11_hope : MethodName := ⟨RX11, "hope", "(II)I"⟩
abbrev cX11_dog : ByteArray := prog_1_method_31_code
def yX11_dog : MethodName := ⟨RX11, "dog", "(II)I"⟩
abbrev cX11_error : ByteArray := prog_1_method_32_code
def yX11_error : MethodName := ⟨RX11, "error", "(IZ)I"⟩
abbrev cX11_fails : ByteArray := prog_1_method_33_code
def yX11_fails : MethodName := ⟨RX11, "fails", "(I)I"⟩
abbrev cX11_tell : ByteArray := prog_1_method_34_code
def yX11_tell : MethodName := ⟨RX11, "tell", "(IIZ)I"⟩
abbrev cX11_forget : ByteArray := prog_1_method_35_code
def yX11_forget : MethodName := ⟨RX11, "forget", "()I"⟩
abbrev cX11_late : ByteArray := prog_1_method_36_code
def yX11_late : MethodName := ⟨RX11, "late", "(II)I"⟩
abbrev cX11_hold : ByteArray := prog_1_method_37_code
def yX11_hold : MethodName := ⟨RX11, "hold", "(I)Z"⟩
abbrev cX11_restore : ByteArray := prog_1_method_38_code
def yX11_restore : MethodName := ⟨RX11, "restore", "(I)Z"⟩
abbrev cX11_count : ByteArray := prog_1_method_39_code
def yX11_count : MethodName := ⟨RX11, "count", "(I)I"⟩
abbrev cX11_putBytes : ByteArray := prog_1_method_40_code
def yX11_putBytes : MethodName := ⟨RX11, "putBytes", "(I)V"⟩
abbrev cX11_beginDay : ByteArray := prog_1_method_41_code
def yX11_beginDay : MethodName := ⟨RX11, "beginDay", "()V"⟩
abbrev cX11_keepIfDone : ByteArray := prog_1_method_42_code
def yX11_keepIfDone : MethodName := ⟨RX11, "keepIfDone", "(I)I"⟩
abbrev cX11_picture : ByteArray := prog_1_method_43_code
def yX11_picture : MethodName := ⟨RX11, "picture", "(I)I"⟩
abbrev cX11_letDogsRun : ByteArray := prog_1_method_44_code
def yX11_letDogsRun : MethodName := ⟨RX11, "letDogsRun", "(II)V"⟩
abbrev cX11_letDogsRunOver : ByteArray := prog_1_method_45_code
def yX11_letDogsRunOver : MethodName := ⟨RX11, "letDogsRunOver", "(III)V"⟩
abbrev cX11_isRunOver : ByteArray := prog_1_method_46_code
def yX11_isRunOver : MethodName := ⟨RX11, "isRunOver", "(IIII)Z"⟩
abbrev cX11_mixed : ByteArray := prog_1_method_47_code
def yX11_mixed : MethodName := ⟨RX11, "mixed", "(II)I"⟩
abbrev cX11_answer : ByteArray := prog_1_method_48_code
def yX11_answer : MethodName := ⟨RX11, "answer", "(LTideRakes$Rows;II)I"⟩
abbrev cX11_lastHolding : ByteArray := prog_1_method_49_code
def yX11_lastHolding : MethodName := ⟨RX11, "lastHolding", "(LTideRakes$Sand;I)I"⟩
abbrev cX11_heldSlots : ByteArray := prog_1_method_50_code
def yX11_heldSlots : MethodName := ⟨RX11, "heldSlots", "()I"⟩
abbrev cX11_isPart : ByteArray := prog_1_method_51_code
def yX11_isPart : MethodName := ⟨RX11, "isPart", "(I)Z"⟩
abbrev cX11_isWorker : ByteArray := prog_1_method_52_code
def yX11_isWorker : MethodName := ⟨RX11, "isWorker", "(I)Z"⟩
abbrev cX11_isMinute : ByteArray := prog_1_method_53_code
def yX11_isMinute : MethodName := ⟨RX11, "isMinute", "(I)Z"⟩
abbrev cX11_isBound : ByteArray := prog_1_method_54_code
def yX11_isBound : MethodName := ⟨RX11, "isBound", "(I)Z"⟩
abbrev cX11_isSlot : ByteArray := prog_1_method_55_code
def yX11_isSlot : MethodName := ⟨RX11, "isSlot", "(I)Z"⟩
abbrev cX11_far : ByteArray := prog_1_method_56_code
def yX11_far : MethodName := ⟨RX11, "far", "(IIII)I"⟩
abbrev cX11_roundedUp : ByteArray := prog_1_method_57_code
def yX11_roundedUp : MethodName := ⟨RX11, "roundedUp", "(II)I"⟩
def RX12 : String := "TideRakesModel"
def TX12 : u_T := fun k => match k with
  | 0 => ("TideRakesModel", "thrown", "I", false)
  | 1 => ("TideRakesModel", "tape", "[B", true)
  | 2 => ("TideRakesModel", "taped", "I", false)
  | 3 => ("TideRakesModel", "text", "[B", true)
  | 4 => ("TideRakesModel", "size", "I", false)
  | 5 => ("TideRakesModel", "tKind", "[I", true)
  | 6 => ("TideRakesModel", "tPlace", "[I", true)
  | 7 => ("TideRakesModel", "tValue", "[I", true)
  | 8 => ("TideRakesModel", "tName", "[J", true)
  | 9 => ("TideRakesModel", "keys", "[J", true)
  | 10 => ("TideRakesModel", "tokens", "I", false)
  | 11 => ("TideRakesModel", "t", "I", false)
  | 12 => ("TideRakesModel", "open", "I", false)
  | 13 => ("TideRakesModel", "fault", "I", false)
  | 14 => ("TideRakesModel", "faultPlace", "I", false)
  | 15 => ("TideRakesModel", "worst", "I", false)
  | 16 => ("TideRakesModel", "worstPlace", "I", false)
  | 17 => ("TideRakesModel", "place", "I", false)
  | 18 => ("TideRakesModel", "live", "I", false)
  | 19 => ("TideRakesModel", "side", "I", false)
  | 20 => ("TideRakesModel", "names", "I", false)
  | 21 => ("TideRakesModel", "nameOf", "[J", true)
  | 22 => ("TideRakesModel", "parts", "[I", true)
  | 23 => ("TideRakesModel", "partX", "[I", true)
  | 24 => ("TideRakesModel", "partY", "[I", true)
  | 25 => ("TideRakesModel", "worthOf", "[I", true)
  | 26 => ("TideRakesModel", "minutesOf", "[I", true)
  | 27 => ("TideRakesModel", "workers", "[I", true)
  | 28 => ("TideRakesModel", "workerX", "[I", true)
  | 29 => ("TideRakesModel", "workerY", "[I", true)
  | 30 => ("TideRakesModel", "speed", "[I", true)
  | 31 => ("TideRakesModel", "holdsFrom", "[I", true)
  | 32 => ("TideRakesModel", "holdsTo", "[I", true)
  | 33 => ("TideRakesModel", "pegX", "[I", true)
  | 34 => ("TideRakesModel", "pegY", "[I", true)
  | 35 => ("TideRakesModel", "seed", "[I", true)
  | 36 => ("TideRakesModel", "lawFirst", "[I", true)
  | 37 => ("TideRakesModel", "lawLast", "[I", true)
  | 38 => ("TideRakesModel", "branches", "I", false)
  | 39 => ("TideRakesModel", "hasTest", "[Z", true)
  | 40 => ("TideRakesModel", "testFrom", "[I", true)
  | 41 => ("TideRakesModel", "testMid", "[I", true)
  | 42 => ("TideRakesModel", "testTo", "[I", true)
  | 43 => ("TideRakesModel", "termTo", "[I", true)
  | 44 => ("TideRakesModel", "codes", "I", false)
  | 45 => ("TideRakesModel", "code", "[I", true)
  | 46 => ("TideRakesModel", "codeInt", "[I", true)
  | 47 => ("TideRakesModel", "waits", "[I", true)
  | 48 => ("TideRakesModel", "waiting", "I", false)
  | 49 => ("TideRakesModel", "variables", "[I", true)
  | 50 => ("TideRakesModel", "pile", "[I", true)
  | 51 => ("TideRakesModel", "isBroken", "Z", false)
  | 52 => ("TideRakesModel", "tide", "[I", true)
  | 53 => ("TideRakesModel", "sun", "[I", true)
  | 54 => ("TideRakesModel", "dogAt", "[I", true)
  | 55 => ("TideRakesModel", "atX", "[I", true)
  | 56 => ("TideRakesModel", "atY", "[I", true)
  | 57 => ("TideRakesModel", "takes", "[I", true)
  | 58 => ("TideRakesModel", "high", "[I", true)
  | 59 => ("TideRakesModel", "free", "[I", true)
  | 60 => ("TideRakesModel", "holdsOn", "[I", true)
  | 61 => ("TideRakesModel", "nextAt", "[I", true)
  | 62 => ("TideRakesModel", "now", "[I", true)
  | 63 => ("TideRakesModel", "row", "[I", true)
  | 64 => ("TideRakesModel", "undos", "I", false)
  | 65 => ("TideRakesModel", "history", "[I", true)
  | 66 => ("TideRakesModel", "readyBy", "[I", true)
  | 67 => ("TideRakesModel", "startX", "I", false)
  | 68 => ("TideRakesModel", "startY", "I", false)
  | 69 => ("TideRakesModel", "startAt", "I", false)
  | 70 => ("TideRakesModel", "larger", "I", false)
  | 71 => ("TideRakesModel", "mending", "Z", false)
  | 72 => ("TideRakesModel", "planRow", "[I", true)
  | 73 => ("TideRakesModel", "planLong", "I", false)
  | 74 => ("TideRakesModel", "canDo", "[Z", true)
  | 75 => ("TideRakesModel", "reached", "[Z", true)
  | 76 => ("TideRakesModel", "reachedThen", "[Z", true)
  | 77 => ("TideRakesModel", "errorOf", "[I", true)
  | 78 => ("TideRakesModel", "fromOf", "[I", true)
  | 79 => ("TideRakesModel", "settled", "I", false)
  | 80 => ("TideRakesModel", "told", "I", false)
  | 81 => ("TideRakesModel", "toldPart", "[I", true)
  | 82 => ("TideRakesModel", "toldMinute", "[I", true)
  | 83 => ("TideRakesModel", "toldThere", "[Z", true)
  | 84 => ("TideRakesModel", "isHeld", "[Z", true)
  | _ => ("TideRakesModel", "held", "[I", true)
def tyX12 : Nat → FieldType := fun k => match k with
  | 0 => .int
  | 1 => .array .byte
  | 2 => .int
  | 3 => .array .byte
  | 4 => .int
  | 5 => .array .int
  | 6 => .array .int
  | 7 => .array .int
  | 8 => .array .long
  | 9 => .array .long
  | 10 => .int
  | 11 => .int
  | 12 => .int
  | 13 => .int
  | 14 => .int
  | 15 => .int
  | 16 => .int
  | 17 => .int
  | 18 => .int
  | 19 => .int
  | 20 => .int
  | 21 => .array .long
  | 22 => .array .int
  | 23 => .array .int
  | 24 => .array .int
  | 25 => .array .int
  | 26 => .array .int
  | 27 => .array .int
  | 28 => .array .int
  | 29 => .array .int
  | 30 => .array .int
  | 31 => .array .int
  | 32 => .array .int
  | 33 => .array .int
  | 34 => .array .int
  | 35 => .array .int
  | 36 => .array .int
  | 37 => .array .int
  | 38 => .int
  | 39 => .array .boolean
  | 40 => .array .int
  | 41 => .array .int
  | 42 => .array .int
  | 43 => .array .int
  | 44 => .int
  | 45 => .array .int
  | 46 => .array .int
  | 47 => .array .int
  | 48 => .int
  | 49 => .array .int
  | 50 => .array .int
  | 51 => .boolean
  | 52 => .array .int
  | 53 => .array .int
  | 54 => .array .int
  | 55 => .array .int
  | 56 => .array .int
  | 57 => .array .int
  | 58 => .array .int
  | 59 => .array .int
  | 60 => .array .int
  | 61 => .array .int
  | 62 => .array .int
  | 63 => .array .int
  | 64 => .int
  | 65 => .array .int
  | 66 => .array .int
  | 67 => .int
  | 68 => .int
  | 69 => .int
  | 70 => .int
  | 71 => .boolean
  | 72 => .array .int
  | 73 => .int
  | 74 => .array .boolean
  | 75 => .array .boolean
  | 76 => .array .boolean
  | 77 => .array .int
  | 78 => .array .int
  | 79 => .int
  | 80 => .int
  | 81 => .array .int
  | 82 => .array .int
  | 83 => .array .boolean
  | 84 => .array .boolean
  | _ => .array .int
theorem nmX12 : ∀ a, a < 86 → ∀ b, b < 86 → a ≠ b → (TX12 a).2.1 ≠ (TX12 b).2.1 := by decide +kernel
theorem tyX12_ok : ∀ k, k < 86 → parseFieldDescriptor (TX12 k).2.2.1 = some (tyX12 k) := by decide +kernel
abbrev cX12_init : ByteArray := prog_14_method_2_code
def yX12_init : MethodName := ⟨RX12, "<init>", "()V"⟩
abbrev cX12_feed : ByteArray := prog_14_method_3_code
def yX12_feed : MethodName := ⟨RX12, "feed", "(IIIII)I"⟩
abbrev cX12_put : ByteArray := prog_14_method_4_code
def yX12_put : MethodName := ⟨RX12, "put", "(I)V"⟩
abbrev cX12_back : ByteArray := prog_14_method_5_code
def yX12_back : MethodName := ⟨RX12, "back", "(I)I"⟩
abbrev cX12_byteAt : ByteArray := prog_14_method_6_code
def yX12_byteAt : MethodName := ⟨RX12, "byteAt", "(I)I"⟩
abbrev cX12_isDigit : ByteArray := prog_14_method_7_code
def yX12_isDigit : MethodName := ⟨RX12, "isDigit", "(I)Z"⟩
abbrev cX12_isLetter : ByteArray := prog_14_method_8_code
def yX12_isLetter : MethodName := ⟨RX12, "isLetter", "(I)Z"⟩
abbrev cX12_appends : ByteArray := prog_14_method_9_code
def yX12_appends : MethodName := ⟨RX12, "appends", "(JI)J"⟩
abbrev cX12_word : ByteArray := prog_14_method_10_code
def yX12_word : MethodName := ⟨RX12, "word", "(IIIIIII)J"⟩
abbrev cX12_token : ByteArray := prog_14_method_11_code
def yX12_token : MethodName := ⟨RX12, "token", "(IIIJ)V"⟩
abbrev cX12_cut : ByteArray := prog_14_method_12_code
def yX12_cut : MethodName := ⟨RX12, "cut", "()V"⟩
abbrev cX12_sign : ByteArray := prog_14_method_13_code
def yX12_sign : MethodName := ⟨RX12, "sign", "(III)I"⟩
abbrev cX12_is : ByteArray := prog_14_method_14_code
def yX12_is : MethodName := ⟨RX12, "is", "(I)Z"⟩
abbrev cX12_fail : ByteArray := prog_14_method_15_code
def yX12_fail : MethodName := ⟨RX12, "fail", "(I)V"⟩
abbrev cX12_wrong : ByteArray := prog_14_method_16_code
def yX12_wrong : MethodName := ⟨RX12, "wrong", "(II)V"⟩
abbrev cX12_goesOn : ByteArray := prog_14_method_17_code
def yX12_goesOn : MethodName := ⟨RX12, "goesOn", "()V"⟩
abbrev cX12_must : ByteArray := prog_14_method_18_code
def yX12_must : MethodName := ⟨RX12, "must", "(I)V"⟩
abbrev cX12_plain : ByteArray := prog_14_method_19_code
def yX12_plain : MethodName := ⟨RX12, "plain", "(I)V"⟩
abbrev cX12_read : ByteArray := prog_14_method_20_code
def yX12_read : MethodName := ⟨RX12, "read", "()I"⟩
abbrev cX12_place : ByteArray := prog_14_method_21_code
def yX12_place : MethodName := ⟨RX12, "place", "()I"⟩
abbrev cX12_roomFor : ByteArray := prog_14_method_22_code
def yX12_roomFor : MethodName := ⟨RX12, "roomFor", "(II)V"⟩
abbrev cX12_tellOne : ByteArray := prog_14_method_23_code
def yX12_tellOne : MethodName := ⟨RX12, "tellOne", "()V"⟩
abbrev cX12_named : ByteArray := prog_14_method_24_code
def yX12_named : MethodName := ⟨RX12, "named", "()I"⟩
abbrev cX12_bounded : ByteArray := prog_14_method_25_code
def yX12_bounded : MethodName := ⟨RX12, "bounded", "(II)I"⟩
abbrev cX12_tellPart : ByteArray := prog_14_method_26_code
def yX12_tellPart : MethodName := ⟨RX12, "tellPart", "()V"⟩
abbrev cX12_tellWorker : ByteArray := prog_14_method_27_code
def yX12_tellWorker : MethodName := ⟨RX12, "tellWorker", "()V"⟩
abbrev cX12_tellLaw : ByteArray := prog_14_method_28_code
def yX12_tellLaw : MethodName := ⟨RX12, "tellLaw", "(I)V"⟩
abbrev cX12_term : ByteArray := prog_14_method_29_code
def yX12_term : MethodName := ⟨RX12, "term", "()V"⟩
abbrev cX12_emit : ByteArray := prog_14_method_30_code
def yX12_emit : MethodName := ⟨RX12, "emit", "(II)V"⟩
abbrev cX12_comesOut : ByteArray := prog_14_method_31_code
def yX12_comesOut : MethodName := ⟨RX12, "comesOut", "(Z)V"⟩
abbrev cX12_expression : ByteArray := prog_14_method_32_code
def yX12_expression : MethodName := ⟨RX12, "expression", "()V"⟩
abbrev cX12_unit : ByteArray := prog_14_method_33_code
def yX12_unit : MethodName := ⟨RX12, "unit", "()V"⟩
abbrev cX12_termOf : ByteArray := prog_14_method_34_code
def yX12_termOf : MethodName := ⟨RX12, "termOf", "(II)I"⟩
abbrev cX12_in : ByteArray := prog_14_method_35_code
def yX12_in : MethodName := ⟨RX12, "in", "(III)Z"⟩
abbrev cX12_isPart : ByteArray := prog_14_method_36_code
def yX12_isPart : MethodName := ⟨RX12, "isPart", "(I)Z"⟩
abbrev cX12_isWorker : ByteArray := prog_14_method_37_code
def yX12_isWorker : MethodName := ⟨RX12, "isWorker", "(I)Z"⟩
abbrev cX12_tells : ByteArray := prog_14_method_38_code
def yX12_tells : MethodName := ⟨RX12, "tells", "(IIII)I"⟩
abbrev cX12_setsOf : ByteArray := prog_14_method_39_code
def yX12_setsOf : MethodName := ⟨RX12, "setsOf", "(IIIII)V"⟩
abbrev cX12_layOut : ByteArray := prog_14_method_40_code
def yX12_layOut : MethodName := ⟨RX12, "layOut", "()V"⟩
abbrev cX12_laysPart : ByteArray := prog_14_method_41_code
def yX12_laysPart : MethodName := ⟨RX12, "laysPart", "(I)V"⟩
abbrev cX12_isHolding : ByteArray := prog_14_method_42_code
def yX12_isHolding : MethodName := ⟨RX12, "isHolding", "(II)Z"⟩
abbrev cX12_firstFrom : ByteArray := prog_14_method_43_code
def yX12_firstFrom : MethodName := ⟨RX12, "firstFrom", "(II)I"⟩
abbrev cX12_isCovered : ByteArray := prog_14_method_44_code
def yX12_isCovered : MethodName := ⟨RX12, "isCovered", "(III)Z"⟩
abbrev cX12_apart : ByteArray := prog_14_method_45_code
def yX12_apart : MethodName := ⟨RX12, "apart", "(II)I"⟩
abbrev cX12_wayOf : ByteArray := prog_14_method_46_code
def yX12_wayOf : MethodName := ⟨RX12, "wayOf", "(IIIII)I"⟩
abbrev cX12_begins : ByteArray := prog_14_method_47_code
def yX12_begins : MethodName := ⟨RX12, "begins", "()V"⟩
abbrev cX12_keepsRow : ByteArray := prog_14_method_48_code
def yX12_keepsRow : MethodName := ⟨RX12, "keepsRow", "()V"⟩
abbrev cX12_copies : ByteArray := prog_14_method_49_code
def yX12_copies : MethodName := ⟨RX12, "copies", "()V"⟩
abbrev cX12_comesAt : ByteArray := prog_14_method_50_code
def yX12_comesAt : MethodName := ⟨RX12, "comesAt", "(II)I"⟩
abbrev cX12_goesThere : ByteArray := prog_14_method_51_code
def yX12_goesThere : MethodName := ⟨RX12, "goesThere", "(III)V"⟩
abbrev cX12_sends : ByteArray := prog_14_method_52_code
def yX12_sends : MethodName := ⟨RX12, "sends", "(II)I"⟩
abbrev cX12_crosses : ByteArray := prog_14_method_53_code
def yX12_crosses : MethodName := ⟨RX12, "crosses", "(I)Z"⟩
abbrev cX12_mendsOne : ByteArray := prog_14_method_54_code
def yX12_mendsOne : MethodName := ⟨RX12, "mendsOne", "(II)I"⟩
abbrev cX12_isSeen : ByteArray := prog_14_method_55_code
def yX12_isSeen : MethodName := ⟨RX12, "isSeen", "(II)Z"⟩
abbrev cX12_photoOf : ByteArray := prog_14_method_56_code
def yX12_photoOf : MethodName := ⟨RX12, "photoOf", "(I)I"⟩
abbrev cX12_part : ByteArray := prog_14_method_57_code
def yX12_part : MethodName := ⟨RX12, "part", "(II)I"⟩
abbrev cX12_worker : ByteArray := prog_14_method_58_code
def yX12_worker : MethodName := ⟨RX12, "worker", "(II)I"⟩
abbrev cX12_isMinute : ByteArray := prog_14_method_59_code
def yX12_isMinute : MethodName := ⟨RX12, "isMinute", "(I)Z"⟩
abbrev cX12_minute : ByteArray := prog_14_method_60_code
def yX12_minute : MethodName := ⟨RX12, "minute", "(II)I"⟩
abbrev cX12_free : ByteArray := prog_14_method_61_code
def yX12_free : MethodName := ⟨RX12, "free", "(II)I"⟩
abbrev cX12_dog : ByteArray := prog_14_method_62_code
def yX12_dog : MethodName := ⟨RX12, "dog", "(II)I"⟩
abbrev cX12_when : ByteArray := prog_14_method_63_code
def yX12_when : MethodName := ⟨RX12, "when", "(II)I"⟩
abbrev cX12_stays : ByteArray := prog_14_method_64_code
def yX12_stays : MethodName := ⟨RX12, "stays", "(II)I"⟩
abbrev cX12_window : ByteArray := prog_14_method_65_code
def yX12_window : MethodName := ⟨RX12, "window", "(IIZ)I"⟩
abbrev cX12_keeps : ByteArray := prog_14_method_66_code
def yX12_keeps : MethodName := ⟨RX12, "keeps", "(III)V"⟩
abbrev cX12_send : ByteArray := prog_14_method_67_code
def yX12_send : MethodName := ⟨RX12, "send", "(II)I"⟩
abbrev cX12_cross : ByteArray := prog_14_method_68_code
def yX12_cross : MethodName := ⟨RX12, "cross", "(I)Z"⟩
abbrev cX12_mend : ByteArray := prog_14_method_69_code
def yX12_mend : MethodName := ⟨RX12, "mend", "(II)I"⟩
abbrev cX12_undo : ByteArray := prog_14_method_70_code
def yX12_undo : MethodName := ⟨RX12, "undo", "()Z"⟩
abbrev cX12_seen : ByteArray := prog_14_method_71_code
def yX12_seen : MethodName := ⟨RX12, "seen", "(I)I"⟩
abbrev cX12_photo : ByteArray := prog_14_method_72_code
def yX12_photo : MethodName := ⟨RX12, "photo", "(I)I"⟩
abbrev cX12_bestMinute : ByteArray := prog_14_method_73_code
def yX12_bestMinute : MethodName := ⟨RX12, "bestMinute", "()I"⟩
abbrev cX12_stepTo : ByteArray := prog_14_method_74_code
def yX12_stepTo : MethodName := ⟨RX12, "stepTo", "(IIIII)I"⟩
abbrev cX12_readyBehind : ByteArray := prog_14_method_75_code
def yX12_readyBehind : MethodName := ⟨RX12, "readyBehind", "(IIII)I"⟩
abbrev cX12_fillsRows : ByteArray := prog_14_method_76_code
def yX12_fillsRows : MethodName := ⟨RX12, "fillsRows", "(II)V"⟩
abbrev cX12_leastReady : ByteArray := prog_14_method_77_code
def yX12_leastReady : MethodName := ⟨RX12, "leastReady", "(I)I"⟩
abbrev cX12_canBy : ByteArray := prog_14_method_78_code
def yX12_canBy : MethodName := ⟨RX12, "canBy", "(II)Z"⟩
abbrev cX12_worthBy : ByteArray := prog_14_method_79_code
def yX12_worthBy : MethodName := ⟨RX12, "worthBy", "(I)I"⟩
abbrev cX12_startsAs : ByteArray := prog_14_method_80_code
def yX12_startsAs : MethodName := ⟨RX12, "startsAs", "(II)V"⟩
abbrev cX12_neverDone : ByteArray := prog_14_method_81_code
def yX12_neverDone : MethodName := ⟨RX12, "neverDone", "()I"⟩
abbrev cX12_crossedNow : ByteArray := prog_14_method_82_code
def yX12_crossedNow : MethodName := ⟨RX12, "crossedNow", "()I"⟩
abbrev cX12_bestRow : ByteArray := prog_14_method_83_code
def yX12_bestRow : MethodName := ⟨RX12, "bestRow", "(III)I"⟩
abbrev cX12_planNow : ByteArray := prog_14_method_84_code
def yX12_planNow : MethodName := ⟨RX12, "planNow", "(III)I"⟩
abbrev cX12_isBy : ByteArray := prog_14_method_85_code
def yX12_isBy : MethodName := ⟨RX12, "isBy", "(I)Z"⟩
abbrev cX12_plan : ByteArray := prog_14_method_86_code
def yX12_plan : MethodName := ⟨RX12, "plan", "(III)I"⟩
abbrev cX12_bits : ByteArray := prog_14_method_87_code
def yX12_bits : MethodName := ⟨RX12, "bits", "(I)I"⟩
abbrev cX12_fillsPlan : ByteArray := prog_14_method_88_code
def yX12_fillsPlan : MethodName := ⟨RX12, "fillsPlan", "(II)V"⟩
abbrev cX12_planAt : ByteArray := prog_14_method_89_code
def yX12_planAt : MethodName := ⟨RX12, "planAt", "(III)I"⟩
abbrev cX12_mends : ByteArray := prog_14_method_90_code
def yX12_mends : MethodName := ⟨RX12, "mends", "(III)I"⟩
abbrev cX12_after : ByteArray := prog_14_method_91_code
def yX12_after : MethodName := ⟨RX12, "after", "(III)I"⟩
abbrev cX12_spare : ByteArray := prog_14_method_92_code
def yX12_spare : MethodName := ⟨RX12, "spare", "(II)I"⟩
abbrev cX12_quickest : ByteArray := prog_14_method_93_code
def yX12_quickest : MethodName := ⟨RX12, "quickest", "(II)I"⟩
abbrev cX12_fillsCan : ByteArray := prog_14_method_94_code
def yX12_fillsCan : MethodName := ⟨RX12, "fillsCan", "(III)V"⟩
abbrev cX12_two : ByteArray := prog_14_method_95_code
def yX12_two : MethodName := ⟨RX12, "two", "(IIII)I"⟩
abbrev cX12_sharesAll : ByteArray := prog_14_method_96_code
def yX12_sharesAll : MethodName := ⟨RX12, "sharesAll", "()V"⟩
abbrev cX12_hands : ByteArray := prog_14_method_97_code
def yX12_hands : MethodName := ⟨RX12, "hands", "(II)I"⟩
abbrev cX12_isLarge : ByteArray := prog_14_method_98_code
def yX12_isLarge : MethodName := ⟨RX12, "isLarge", "(II)Z"⟩
abbrev cX12_large : ByteArray := prog_14_method_99_code
def yX12_large : MethodName := ⟨RX12, "large", "(I)I"⟩
abbrev cX12_mixed : ByteArray := prog_14_method_100_code
def yX12_mixed : MethodName := ⟨RX12, "mixed", "(II)I"⟩
abbrev cX12_lotOf : ByteArray := prog_14_method_101_code
def yX12_lotOf : MethodName := ⟨RX12, "lotOf", "(III)I"⟩
abbrev cX12_isRunOver : ByteArray := prog_14_method_102_code
def yX12_isRunOver : MethodName := ⟨RX12, "isRunOver", "(III)Z"⟩
abbrev cX12_photoBy : ByteArray := prog_14_method_103_code
def yX12_photoBy : MethodName := ⟨RX12, "photoBy", "(II)I"⟩
abbrev cX12_hopes : ByteArray := prog_14_method_104_code
def yX12_hopes : MethodName := ⟨RX12, "hopes", "(III)I"⟩
abbrev cX12_hope : ByteArray := prog_14_method_105_code
def yX12_hope : MethodName := ⟨RX12, "hope", "(II)I"⟩
abbrev cX12_errorFrom : ByteArray := prog_14_method_106_code
def yX12_errorFrom : MethodName := ⟨RX12, "errorFrom", "(II)I"⟩
abbrev cX12_settles : ByteArray := prog_14_method_107_code
def yX12_settles : MethodName := ⟨RX12, "settles", "()V"⟩
abbrev cX12_error : ByteArray := prog_14_method_108_code
def yX12_error : MethodName := ⟨RX12, "error", "(IZ)I"⟩
abbrev cX12_fails : ByteArray := prog_14_method_109_code
def yX12_fails : MethodName := ⟨RX12, "fails", "(I)I"⟩
abbrev cX12_tell : ByteArray := prog_14_method_110_code
def yX12_tell : MethodName := ⟨RX12, "tell", "(IIZ)I"⟩
abbrev cX12_forget : ByteArray := prog_14_method_111_code
def yX12_forget : MethodName := ⟨RX12, "forget", "()I"⟩
abbrev cX12_isSo : ByteArray := prog_14_method_112_code
def yX12_isSo : MethodName := ⟨RX12, "isSo", "(III)Z"⟩
abbrev cX12_late : ByteArray := prog_14_method_113_code
def yX12_late : MethodName := ⟨RX12, "late", "(II)I"⟩
abbrev cX12_hold : ByteArray := prog_14_method_114_code
def yX12_hold : MethodName := ⟨RX12, "hold", "(I)Z"⟩
abbrev cX12_restore : ByteArray := prog_14_method_115_code
def yX12_restore : MethodName := ⟨RX12, "restore", "(I)Z"⟩
abbrev cX12_count : ByteArray := prog_14_method_116_code
def yX12_count : MethodName := ⟨RX12, "count", "(I)I"⟩
def RJx145de : String := "java/io/Serializable"
def TJx145de : u_T := fun k => match k with
  | _ => ("", "", "", false)
def tyJx145de : Nat → FieldType := fun k => match k with
  | _ => .int
def RJx9f9b0 : String := "java/lang/CharSequence"
def TJx9f9b0 : u_T := fun k => match k with
  | _ => ("", "", "", false)
def tyJx9f9b0 : Nat → FieldType := fun k => match k with
  | _ => .int
def RJ11 : String := "java/lang/Character"
def TJ11 : u_T := fun k => match k with
  | _ => ("", "", "", false)
def tyJ11 : Nat → FieldType := fun k => match k with
  | _ => .int
abbrev cJ11_isValidCodePoint_9a6ad : ByteArray := prog_15_method_11_code
def yJ11_isValidCodePoint_9a6ad : MethodName := ⟨RJ11, "isValidCodePoint", "(I)Z"⟩
abbrev cJ11_highSurrogate_5068e : ByteArray := prog_15_method_28_code
def yJ11_highSurrogate_5068e : MethodName := ⟨RJ11, "highSurrogate", "(I)C"⟩
abbrev cJ11_lowSurrogate_5068e : ByteArray := prog_15_method_29_code
def yJ11_lowSurrogate_5068e : MethodName := ⟨RJ11, "lowSurrogate", "(I)C"⟩
def RJxb160c : String := "java/lang/Comparable"
def TJxb160c : u_T := fun k => match k with
  | _ => ("", "", "", false)
def tyJxb160c : Nat → FieldType := fun k => match k with
  | _ => .int
def RJ6 : String := "java/lang/Integer"
def TJ6 : u_T := fun k => match k with
  | _ => ("", "", "", false)
def tyJ6 : Nat → FieldType := fun k => match k with
  | _ => .int
abbrev cJ6_bitCount_0f7a4 : ByteArray := prog_16_method_49_code
def yJ6_bitCount_0f7a4 : MethodName := ⟨RJ6, "bitCount", "(I)I"⟩
def RJ9 : String := "java/lang/Math"
def TJ9 : u_T := fun k => match k with
  | _ => ("", "", "", false)
def tyJ9 : Nat → FieldType := fun k => match k with
  | _ => .int
abbrev cJ9_abs_0f7a4 : ByteArray := prog_17_method_59_code
def yJ9_abs_0f7a4 : MethodName := ⟨RJ9, "abs", "(I)I"⟩
abbrev cJ9_max_7cf53 : ByteArray := prog_17_method_65_code
def yJ9_max_7cf53 : MethodName := ⟨RJ9, "max", "(II)I"⟩
abbrev cJ9_min_7cf53 : ByteArray := prog_17_method_69_code
def yJ9_min_7cf53 : MethodName := ⟨RJ9, "min", "(II)I"⟩
def RJ0 : String := "java/lang/String"
def TJ0 : u_T := fun k => match k with
  | _ => ("", "", "", false)
def tyJ0 : Nat → FieldType := fun k => match k with
  | _ => .int
abbrev cJ0_length_8abf5 : ByteArray := prog_18_method_54_code
def yJ0_length_8abf5 : MethodName := ⟨RJ0, "length", "()I"⟩
abbrev cJ0_charAt_5068e : ByteArray := prog_18_method_56_code
def yJ0_charAt_5068e : MethodName := ⟨RJ0, "charAt", "(I)C"⟩
abbrev cJ0_indexOf_0f7a4 : ByteArray := prog_18_method_79_code
def yJ0_indexOf_0f7a4 : MethodName := ⟨RJ0, "indexOf", "(I)I"⟩
abbrev cJ0_indexOf_7cf53 : ByteArray := prog_18_method_80_code
def yJ0_indexOf_7cf53 : MethodName := ⟨RJ0, "indexOf", "(II)I"⟩
abbrev cJ0_coder_7d493 : ByteArray := prog_18_method_152_code
def yJ0_coder_7d493 : MethodName := ⟨RJ0, "coder", "()B"⟩
abbrev cJ0_isLatin1_aae02 : ByteArray := prog_18_method_154_code
def yJ0_isLatin1_aae02 : MethodName := ⟨RJ0, "isLatin1", "()Z"⟩
abbrev cJ0_checkIndex_df160 : ByteArray := prog_18_method_155_code
def yJ0_checkIndex_df160 : MethodName := ⟨RJ0, "checkIndex", "(II)V"⟩
abbrev cJ0_checkBoundsBeginEnd_23922 : ByteArray := prog_18_method_158_code
def yJ0_checkBoundsBeginEnd_23922 : MethodName := ⟨RJ0, "checkBoundsBeginEnd", "(III)V"⟩
def RJ1 : String := "java/lang/StringLatin1"
def TJ1 : u_T := fun k => match k with
  | _ => ("", "", "", false)
def tyJ1 : Nat → FieldType := fun k => match k with
  | _ => .int
abbrev cJ1_charAt_3b067 : ByteArray := prog_19_method_2_code
def yJ1_charAt_3b067 : MethodName := ⟨RJ1, "charAt", "([BI)C"⟩
abbrev cJ1_canEncode_9a6ad : ByteArray := prog_19_method_4_code
def yJ1_canEncode_9a6ad : MethodName := ⟨RJ1, "canEncode", "(I)Z"⟩
abbrev cJ1_indexOf_4cfef : ByteArray := prog_19_method_22_code
def yJ1_indexOf_4cfef : MethodName := ⟨RJ1, "indexOf", "([BIII)I"⟩
abbrev cJ1_indexOfChar_4cfef : ByteArray := prog_19_method_23_code
def yJ1_indexOfChar_4cfef : MethodName := ⟨RJ1, "indexOfChar", "([BIII)I"⟩
def RJ2 : String := "java/lang/StringUTF16"
def TJ2 : u_T := fun k => match k with
  | _ => ("", "", "", false)
def tyJ2 : Nat → FieldType := fun k => match k with
  | _ => .int
abbrev cJ2_getChar_3b067 : ByteArray := prog_20_method_5_code
def yJ2_getChar_3b067 : MethodName := ⟨RJ2, "getChar", "([BI)C"⟩
abbrev cJ2_length_9d52b : ByteArray := prog_20_method_6_code
def yJ2_length_9d52b : MethodName := ⟨RJ2, "length", "([B)I"⟩
abbrev cJ2_indexOf_4cfef : ByteArray := prog_20_method_40_code
def yJ2_indexOf_4cfef : MethodName := ⟨RJ2, "indexOf", "([BIII)I"⟩
abbrev cJ2_indexOfChar_4cfef : ByteArray := prog_20_method_47_code
def yJ2_indexOfChar_4cfef : MethodName := ⟨RJ2, "indexOfChar", "([BIII)I"⟩
abbrev cJ2_indexOfCharUnsafe_4cfef : ByteArray := prog_20_method_48_code
def yJ2_indexOfCharUnsafe_4cfef : MethodName := ⟨RJ2, "indexOfCharUnsafe", "([BIII)I"⟩
abbrev cJ2_indexOfSupplementary_4cfef : ByteArray := prog_20_method_49_code
def yJ2_indexOfSupplementary_4cfef : MethodName := ⟨RJ2, "indexOfSupplementary", "([BIII)I"⟩
abbrev cJ2_charAt_3b067 : ByteArray := prog_20_method_83_code
def yJ2_charAt_3b067 : MethodName := ⟨RJ2, "charAt", "([BI)C"⟩
abbrev cJ2_checkIndex_2214a : ByteArray := prog_20_method_91_code
def yJ2_checkIndex_2214a : MethodName := ⟨RJ2, "checkIndex", "(I[B)V"⟩
abbrev cJ2_checkBoundsBeginEnd_d044e : ByteArray := prog_20_method_93_code
def yJ2_checkBoundsBeginEnd_d044e : MethodName := ⟨RJ2, "checkBoundsBeginEnd", "(II[B)V"⟩
def RJ10 : String := "java/lang/System"
def TJ10 : u_T := fun k => match k with
  | _ => ("", "", "", false)
def tyJ10 : Nat → FieldType := fun k => match k with
  | _ => .int
def RJxfd54e : String := "java/lang/constant/Constable"
def TJxfd54e : u_T := fun k => match k with
  | _ => ("", "", "", false)
def tyJxfd54e : Nat → FieldType := fun k => match k with
  | _ => .int
def RJx3cf43 : String := "java/lang/constant/ConstantDesc"
def TJx3cf43 : u_T := fun k => match k with
  | _ => ("", "", "", false)
def tyJx3cf43 : Nat → FieldType := fun k => match k with
  | _ => .int
def RJ7 : String := "java/util/Arrays"
def TJ7 : u_T := fun k => match k with
  | _ => ("", "", "", false)
def tyJ7 : Nat → FieldType := fun k => match k with
  | _ => .int
abbrev cJ7_fill_53178 : ByteArray := prog_22_method_103_code
def yJ7_fill_53178 : MethodName := ⟨RJ7, "fill", "([II)V"⟩
def RJ3 : String := "jdk/internal/util/Preconditions"
def TJ3 : u_T := fun k => match k with
  | _ => ("", "", "", false)
def tyJ3 : Nat → FieldType := fun k => match k with
  | _ => .int
abbrev cJ3_checkIndex_8e157 : ByteArray := prog_23_method_11_code
def yJ3_checkIndex_8e157 : MethodName := ⟨RJ3, "checkIndex", "(IILjava/util/function/BiFunction;)I"⟩
abbrev cJ3_checkFromToIndex_8c36e : ByteArray := prog_23_method_12_code
def yJ3_checkFromToIndex_8c36e : MethodName := ⟨RJ3, "checkFromToIndex", "(IIILjava/util/function/BiFunction;)I"⟩
def RL : String := "TideRakesLaw"
abbrev cL_law : ByteArray := code
def yL_law : MethodName := ⟨RL, "law", "([I)Z"⟩
abbrev vwCl : List vw_C := [(RX0, TX0, 5), (RX1, TX1, 3), (RX2, TX2, 10), (RX3, TX3, 12), (RX4, TX4, 7), (RX5, TX5, 6), (RX6, TX6, 15), (RX7, TX7, 7), (RX8, TX8, 9), (RX9, TX9, 5), (RX10, TX10, 5), (RX11, TX11, 14), (RX12, TX12, 86)]
