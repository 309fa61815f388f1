-- ===== PART A: goes FIRST, ahead of the names: the tables' words, and 'selects' of the private methods out of them =====
/-- a private method of a class that the tables say can be made, by its rows of tables_1 -/
def lw_okq (q : MethodName × Nat) : Prop := (q.1.cls ≠ "java/lang/invoke/MethodHandle" ∧ q.1.cls ≠ "java/lang/invoke/VarHandle") ∧ Cond.instantiable q.1.cls q.2 ∈ tables_1 ∧ Cond.privateMethod q.1 ∈ tables_1 ∧ Cond.instanceMethod q.1 ∈ tables_1
theorem lw_p0 : lw_okq (⟨"FairSlots$Scroll", "readLine", "(LFairSlots$World;)I"⟩, 4) := ⟨⟨by decide +kernel, by decide +kernel⟩, List.mem_of_getElem? (i := 144) (by decide +kernel), List.mem_of_getElem? (i := 368) (by decide +kernel), List.mem_of_getElem? (i := 369) (by decide +kernel)⟩
theorem lw_p1 : lw_okq (⟨"FairSlots$Scroll", "readNumber", "()I"⟩, 4) := ⟨⟨by decide +kernel, by decide +kernel⟩, List.mem_of_getElem? (i := 144) (by decide +kernel), List.mem_of_getElem? (i := 376) (by decide +kernel), List.mem_of_getElem? (i := 377) (by decide +kernel)⟩
theorem lw_p2 : lw_okq (⟨"FairSlots$World", "lookAtNext", "(I)V"⟩, 17) := ⟨⟨by decide +kernel, by decide +kernel⟩, List.mem_of_getElem? (i := 31) (by decide +kernel), List.mem_of_getElem? (i := 392) (by decide +kernel), List.mem_of_getElem? (i := 393) (by decide +kernel)⟩
theorem lw_p3 : lw_okq (⟨"FairSlots", "rememberedIfDone", "(I)I"⟩, 14) := ⟨⟨by decide +kernel, by decide +kernel⟩, List.mem_of_getElem? (i := 23) (by decide +kernel), List.mem_of_getElem? (i := 523) (by decide +kernel), List.mem_of_getElem? (i := 524) (by decide +kernel)⟩
theorem lw_p4 : lw_okq (⟨"FairSlots$World", "mayLeaveFrom", "(I)I"⟩, 17) := ⟨⟨by decide +kernel, by decide +kernel⟩, List.mem_of_getElem? (i := 31) (by decide +kernel), List.mem_of_getElem? (i := 535) (by decide +kernel), List.mem_of_getElem? (i := 536) (by decide +kernel)⟩
theorem lw_p5 : lw_okq (⟨"FairSlots", "answerOfAct", "(I)I"⟩, 14) := ⟨⟨by decide +kernel, by decide +kernel⟩, List.mem_of_getElem? (i := 23) (by decide +kernel), List.mem_of_getElem? (i := 575) (by decide +kernel), List.mem_of_getElem? (i := 576) (by decide +kernel)⟩
theorem lw_p6 : lw_okq (⟨"FairSlots", "countPairs", "(I)V"⟩, 14) := ⟨⟨by decide +kernel, by decide +kernel⟩, List.mem_of_getElem? (i := 23) (by decide +kernel), List.mem_of_getElem? (i := 672) (by decide +kernel), List.mem_of_getElem? (i := 673) (by decide +kernel)⟩
theorem lw_p7 : lw_okq (⟨"FairSlots$Stream", "gatherOf", "(LFairSlots$World;II)I"⟩, 7) := ⟨⟨by decide +kernel, by decide +kernel⟩, List.mem_of_getElem? (i := 263) (by decide +kernel), List.mem_of_getElem? (i := 701) (by decide +kernel), List.mem_of_getElem? (i := 702) (by decide +kernel)⟩
theorem lw_p8 : lw_okq (⟨"FairSlots$Stream", "findPlace", "(II)Z"⟩, 7) := ⟨⟨by decide +kernel, by decide +kernel⟩, List.mem_of_getElem? (i := 263) (by decide +kernel), List.mem_of_getElem? (i := 715) (by decide +kernel), List.mem_of_getElem? (i := 716) (by decide +kernel)⟩
theorem lw_p9 : lw_okq (⟨"FairSlots$Stream", "reach", "(II)V"⟩, 7) := ⟨⟨by decide +kernel, by decide +kernel⟩, List.mem_of_getElem? (i := 263) (by decide +kernel), List.mem_of_getElem? (i := 719) (by decide +kernel), List.mem_of_getElem? (i := 720) (by decide +kernel)⟩
theorem lw_p10 : lw_okq (⟨"FairSlots$Stream", "goOnFromPart", "(I)V"⟩, 7) := ⟨⟨by decide +kernel, by decide +kernel⟩, List.mem_of_getElem? (i := 263) (by decide +kernel), List.mem_of_getElem? (i := 723) (by decide +kernel), List.mem_of_getElem? (i := 724) (by decide +kernel)⟩
theorem lw_p11 : lw_okq (⟨"FairSlots$Stream", "goOnFromPlace", "(I)V"⟩, 7) := ⟨⟨by decide +kernel, by decide +kernel⟩, List.mem_of_getElem? (i := 263) (by decide +kernel), List.mem_of_getElem? (i := 727) (by decide +kernel), List.mem_of_getElem? (i := 728) (by decide +kernel)⟩
theorem lw_p12 : lw_okq (⟨"FairSlots$Stream", "settle", "(I)V"⟩, 7) := ⟨⟨by decide +kernel, by decide +kernel⟩, List.mem_of_getElem? (i := 263) (by decide +kernel), List.mem_of_getElem? (i := 731) (by decide +kernel), List.mem_of_getElem? (i := 732) (by decide +kernel)⟩
theorem lw_p13 : lw_okq (⟨"FairSlots$Stream", "goOnFromSlot", "(I)V"⟩, 7) := ⟨⟨by decide +kernel, by decide +kernel⟩, List.mem_of_getElem? (i := 263) (by decide +kernel), List.mem_of_getElem? (i := 735) (by decide +kernel), List.mem_of_getElem? (i := 736) (by decide +kernel)⟩
theorem lw_p14 : lw_okq (⟨"FairSlots", "missesWhenKept", "(II)Z"⟩, 14) := ⟨⟨by decide +kernel, by decide +kernel⟩, List.mem_of_getElem? (i := 23) (by decide +kernel), List.mem_of_getElem? (i := 743) (by decide +kernel), List.mem_of_getElem? (i := 744) (by decide +kernel)⟩
theorem lw_p15 : lw_okq (⟨"FairSlots", "firstMissBy", "(LFairSlots$Ties;)I"⟩, 14) := ⟨⟨by decide +kernel, by decide +kernel⟩, List.mem_of_getElem? (i := 23) (by decide +kernel), List.mem_of_getElem? (i := 865) (by decide +kernel), List.mem_of_getElem? (i := 866) (by decide +kernel)⟩
def lw_privs_1 : List (MethodName × Nat) := [(⟨"FairSlots$Scroll", "readLine", "(LFairSlots$World;)I"⟩, 4), (⟨"FairSlots$Scroll", "readNumber", "()I"⟩, 4), (⟨"FairSlots$World", "lookAtNext", "(I)V"⟩, 17), (⟨"FairSlots", "rememberedIfDone", "(I)I"⟩, 14), (⟨"FairSlots$World", "mayLeaveFrom", "(I)I"⟩, 17), (⟨"FairSlots", "answerOfAct", "(I)I"⟩, 14), (⟨"FairSlots", "countPairs", "(I)V"⟩, 14), (⟨"FairSlots$Stream", "gatherOf", "(LFairSlots$World;II)I"⟩, 7), (⟨"FairSlots$Stream", "findPlace", "(II)Z"⟩, 7), (⟨"FairSlots$Stream", "reach", "(II)V"⟩, 7), (⟨"FairSlots$Stream", "goOnFromPart", "(I)V"⟩, 7), (⟨"FairSlots$Stream", "goOnFromPlace", "(I)V"⟩, 7), (⟨"FairSlots$Stream", "settle", "(I)V"⟩, 7), (⟨"FairSlots$Stream", "goOnFromSlot", "(I)V"⟩, 7), (⟨"FairSlots", "missesWhenKept", "(II)Z"⟩, 14), (⟨"FairSlots", "firstMissBy", "(LFairSlots$Ties;)I"⟩, 14)]
theorem lw_r1 : ∀ q ∈ lw_privs_1, lw_okq q := List.forall_mem_cons.mpr ⟨lw_p0, List.forall_mem_cons.mpr ⟨lw_p1, List.forall_mem_cons.mpr ⟨lw_p2, List.forall_mem_cons.mpr ⟨lw_p3, List.forall_mem_cons.mpr ⟨lw_p4, List.forall_mem_cons.mpr ⟨lw_p5, List.forall_mem_cons.mpr ⟨lw_p6, List.forall_mem_cons.mpr ⟨lw_p7, List.forall_mem_cons.mpr ⟨lw_p8, List.forall_mem_cons.mpr ⟨lw_p9, List.forall_mem_cons.mpr ⟨lw_p10, List.forall_mem_cons.mpr ⟨lw_p11, List.forall_mem_cons.mpr ⟨lw_p12, List.forall_mem_cons.mpr ⟨lw_p13, List.forall_mem_cons.mpr ⟨lw_p14, List.forall_mem_cons.mpr ⟨lw_p15, fun _ h => absurd h List.not_mem_nil⟩⟩⟩⟩⟩⟩⟩⟩⟩⟩⟩⟩⟩⟩⟩⟩
theorem lw_p16 : lw_okq (⟨"java/lang/Throwable", "fillInStackTrace", "(I)Ljava/lang/Throwable;"⟩, 6) := ⟨⟨by decide +kernel, by decide +kernel⟩, List.mem_of_getElem? (i := 948) (by decide +kernel), List.mem_of_getElem? (i := 946) (by decide +kernel), List.mem_of_getElem? (i := 947) (by decide +kernel)⟩
theorem lw_p17 : lw_okq (⟨"FairSlotsModel", "beginText", "(I)V"⟩, 46) := ⟨⟨by decide +kernel, by decide +kernel⟩, List.mem_of_getElem? (i := 990) (by decide +kernel), List.mem_of_getElem? (i := 1155) (by decide +kernel), List.mem_of_getElem? (i := 1156) (by decide +kernel)⟩
theorem lw_p18 : lw_okq (⟨"FairSlotsModel", "begin", "([BII)V"⟩, 46) := ⟨⟨by decide +kernel, by decide +kernel⟩, List.mem_of_getElem? (i := 990) (by decide +kernel), List.mem_of_getElem? (i := 1159) (by decide +kernel), List.mem_of_getElem? (i := 1160) (by decide +kernel)⟩
theorem lw_p19 : lw_okq (⟨"FairSlotsModel", "fine", "()Z"⟩, 46) := ⟨⟨by decide +kernel, by decide +kernel⟩, List.mem_of_getElem? (i := 990) (by decide +kernel), List.mem_of_getElem? (i := 1170) (by decide +kernel), List.mem_of_getElem? (i := 1171) (by decide +kernel)⟩
theorem lw_p20 : lw_okq (⟨"FairSlotsModel", "fault", "(I)V"⟩, 46) := ⟨⟨by decide +kernel, by decide +kernel⟩, List.mem_of_getElem? (i := 990) (by decide +kernel), List.mem_of_getElem? (i := 1174) (by decide +kernel), List.mem_of_getElem? (i := 1175) (by decide +kernel)⟩
theorem lw_p21 : lw_okq (⟨"FairSlotsModel", "readLine", "(I)V"⟩, 46) := ⟨⟨by decide +kernel, by decide +kernel⟩, List.mem_of_getElem? (i := 990) (by decide +kernel), List.mem_of_getElem? (i := 1178) (by decide +kernel), List.mem_of_getElem? (i := 1179) (by decide +kernel)⟩
theorem lw_p22 : lw_okq (⟨"FairSlotsModel", "numberOf", "()I"⟩, 46) := ⟨⟨by decide +kernel, by decide +kernel⟩, List.mem_of_getElem? (i := 990) (by decide +kernel), List.mem_of_getElem? (i := 1182) (by decide +kernel), List.mem_of_getElem? (i := 1183) (by decide +kernel)⟩
theorem lw_p23 : lw_okq (⟨"FairSlotsModel", "oneOf", "(CI)I"⟩, 46) := ⟨⟨by decide +kernel, by decide +kernel⟩, List.mem_of_getElem? (i := 990) (by decide +kernel), List.mem_of_getElem? (i := 1186) (by decide +kernel), List.mem_of_getElem? (i := 1187) (by decide +kernel)⟩
theorem lw_p24 : lw_okq (⟨"FairSlotsModel", "here", "()I"⟩, 46) := ⟨⟨by decide +kernel, by decide +kernel⟩, List.mem_of_getElem? (i := 990) (by decide +kernel), List.mem_of_getElem? (i := 1190) (by decide +kernel), List.mem_of_getElem? (i := 1191) (by decide +kernel)⟩
theorem lw_p25 : lw_okq (⟨"FairSlotsModel", "passes", "(C)Z"⟩, 46) := ⟨⟨by decide +kernel, by decide +kernel⟩, List.mem_of_getElem? (i := 990) (by decide +kernel), List.mem_of_getElem? (i := 1194) (by decide +kernel), List.mem_of_getElem? (i := 1195) (by decide +kernel)⟩
theorem lw_p26 : lw_okq (⟨"FairSlotsModel", "wasRight", "()Z"⟩, 46) := ⟨⟨by decide +kernel, by decide +kernel⟩, List.mem_of_getElem? (i := 990) (by decide +kernel), List.mem_of_getElem? (i := 1198) (by decide +kernel), List.mem_of_getElem? (i := 1199) (by decide +kernel)⟩
theorem lw_p27 : lw_okq (⟨"FairSlotsModel", "layUse", "([I)V"⟩, 46) := ⟨⟨by decide +kernel, by decide +kernel⟩, List.mem_of_getElem? (i := 990) (by decide +kernel), List.mem_of_getElem? (i := 1205) (by decide +kernel), List.mem_of_getElem? (i := 1206) (by decide +kernel)⟩
theorem lw_p28 : lw_okq (⟨"FairSlotsModel", "remember", "([I)V"⟩, 46) := ⟨⟨by decide +kernel, by decide +kernel⟩, List.mem_of_getElem? (i := 990) (by decide +kernel), List.mem_of_getElem? (i := 1213) (by decide +kernel), List.mem_of_getElem? (i := 1214) (by decide +kernel)⟩
theorem lw_p29 : lw_okq (⟨"FairSlotsModel", "rightTies", "(I)I"⟩, 46) := ⟨⟨by decide +kernel, by decide +kernel⟩, List.mem_of_getElem? (i := 990) (by decide +kernel), List.mem_of_getElem? (i := 1221) (by decide +kernel), List.mem_of_getElem? (i := 1222) (by decide +kernel)⟩
theorem lw_p30 : lw_okq (⟨"FairSlotsModel", "isTask", "(I)Z"⟩, 46) := ⟨⟨by decide +kernel, by decide +kernel⟩, List.mem_of_getElem? (i := 990) (by decide +kernel), List.mem_of_getElem? (i := 1232) (by decide +kernel), List.mem_of_getElem? (i := 1233) (by decide +kernel)⟩
theorem lw_p31 : lw_okq (⟨"FairSlotsModel", "lost", "()I"⟩, 46) := ⟨⟨by decide +kernel, by decide +kernel⟩, List.mem_of_getElem? (i := 990) (by decide +kernel), List.mem_of_getElem? (i := 1236) (by decide +kernel), List.mem_of_getElem? (i := 1237) (by decide +kernel)⟩
def lw_privs_2 : List (MethodName × Nat) := [(⟨"java/lang/Throwable", "fillInStackTrace", "(I)Ljava/lang/Throwable;"⟩, 6), (⟨"FairSlotsModel", "beginText", "(I)V"⟩, 46), (⟨"FairSlotsModel", "begin", "([BII)V"⟩, 46), (⟨"FairSlotsModel", "fine", "()Z"⟩, 46), (⟨"FairSlotsModel", "fault", "(I)V"⟩, 46), (⟨"FairSlotsModel", "readLine", "(I)V"⟩, 46), (⟨"FairSlotsModel", "numberOf", "()I"⟩, 46), (⟨"FairSlotsModel", "oneOf", "(CI)I"⟩, 46), (⟨"FairSlotsModel", "here", "()I"⟩, 46), (⟨"FairSlotsModel", "passes", "(C)Z"⟩, 46), (⟨"FairSlotsModel", "wasRight", "()Z"⟩, 46), (⟨"FairSlotsModel", "layUse", "([I)V"⟩, 46), (⟨"FairSlotsModel", "remember", "([I)V"⟩, 46), (⟨"FairSlotsModel", "rightTies", "(I)I"⟩, 46), (⟨"FairSlotsModel", "isTask", "(I)Z"⟩, 46), (⟨"FairSlotsModel", "lost", "()I"⟩, 46)]
theorem lw_r2 : ∀ q ∈ lw_privs_2, lw_okq q := List.forall_mem_cons.mpr ⟨lw_p16, List.forall_mem_cons.mpr ⟨lw_p17, List.forall_mem_cons.mpr ⟨lw_p18, List.forall_mem_cons.mpr ⟨lw_p19, List.forall_mem_cons.mpr ⟨lw_p20, List.forall_mem_cons.mpr ⟨lw_p21, List.forall_mem_cons.mpr ⟨lw_p22, List.forall_mem_cons.mpr ⟨lw_p23, List.forall_mem_cons.mpr ⟨lw_p24, List.forall_mem_cons.mpr ⟨lw_p25, List.forall_mem_cons.mpr ⟨lw_p26, List.forall_mem_cons.mpr ⟨lw_p27, List.forall_mem_cons.mpr ⟨lw_p28, List.forall_mem_cons.mpr ⟨lw_p29, List.forall_mem_cons.mpr ⟨lw_p30, List.forall_mem_cons.mpr ⟨lw_p31, fun _ h => absurd h List.not_mem_nil⟩⟩⟩⟩⟩⟩⟩⟩⟩⟩⟩⟩⟩⟩⟩⟩
theorem lw_p32 : lw_okq (⟨"FairSlotsModel", "goSlot", "([II)I"⟩, 46) := ⟨⟨by decide +kernel, by decide +kernel⟩, List.mem_of_getElem? (i := 990) (by decide +kernel), List.mem_of_getElem? (i := 1267) (by decide +kernel), List.mem_of_getElem? (i := 1268) (by decide +kernel)⟩
theorem lw_p33 : lw_okq (⟨"FairSlotsModel", "layOrder", "([II)I"⟩, 46) := ⟨⟨by decide +kernel, by decide +kernel⟩, List.mem_of_getElem? (i := 990) (by decide +kernel), List.mem_of_getElem? (i := 1271) (by decide +kernel), List.mem_of_getElem? (i := 1272) (by decide +kernel)⟩
theorem lw_p34 : lw_okq (⟨"FairSlotsModel", "isAhead", "([III)Z"⟩, 46) := ⟨⟨by decide +kernel, by decide +kernel⟩, List.mem_of_getElem? (i := 990) (by decide +kernel), List.mem_of_getElem? (i := 1281) (by decide +kernel), List.mem_of_getElem? (i := 1282) (by decide +kernel)⟩
theorem lw_p35 : lw_okq (⟨"FairSlotsModel", "tell", "(J)V"⟩, 46) := ⟨⟨by decide +kernel, by decide +kernel⟩, List.mem_of_getElem? (i := 990) (by decide +kernel), List.mem_of_getElem? (i := 1289) (by decide +kernel), List.mem_of_getElem? (i := 1290) (by decide +kernel)⟩
theorem lw_p36 : lw_okq (⟨"FairSlotsModel", "goSlots", "([II)I"⟩, 46) := ⟨⟨by decide +kernel, by decide +kernel⟩, List.mem_of_getElem? (i := 990) (by decide +kernel), List.mem_of_getElem? (i := 1297) (by decide +kernel), List.mem_of_getElem? (i := 1298) (by decide +kernel)⟩
theorem lw_p37 : lw_okq (⟨"FairSlotsModel", "refusesProcessors", "(I)I"⟩, 46) := ⟨⟨by decide +kernel, by decide +kernel⟩, List.mem_of_getElem? (i := 990) (by decide +kernel), List.mem_of_getElem? (i := 1305) (by decide +kernel), List.mem_of_getElem? (i := 1306) (by decide +kernel)⟩
theorem lw_p38 : lw_okq (⟨"FairSlotsModel", "readAct", "(I)V"⟩, 46) := ⟨⟨by decide +kernel, by decide +kernel⟩, List.mem_of_getElem? (i := 990) (by decide +kernel), List.mem_of_getElem? (i := 1327) (by decide +kernel), List.mem_of_getElem? (i := 1328) (by decide +kernel)⟩
theorem lw_p39 : lw_okq (⟨"FairSlotsModel", "act", "(II)Z"⟩, 46) := ⟨⟨by decide +kernel, by decide +kernel⟩, List.mem_of_getElem? (i := 990) (by decide +kernel), List.mem_of_getElem? (i := 1331) (by decide +kernel), List.mem_of_getElem? (i := 1332) (by decide +kernel)⟩
theorem lw_p40 : lw_okq (⟨"FairSlotsModel", "tellPart", "(JJ)V"⟩, 46) := ⟨⟨by decide +kernel, by decide +kernel⟩, List.mem_of_getElem? (i := 990) (by decide +kernel), List.mem_of_getElem? (i := 1346) (by decide +kernel), List.mem_of_getElem? (i := 1347) (by decide +kernel)⟩
theorem lw_p41 : lw_okq (⟨"FairSlotsModel", "layDue", "(I)V"⟩, 46) := ⟨⟨by decide +kernel, by decide +kernel⟩, List.mem_of_getElem? (i := 990) (by decide +kernel), List.mem_of_getElem? (i := 1402) (by decide +kernel), List.mem_of_getElem? (i := 1403) (by decide +kernel)⟩
theorem lw_p42 : lw_okq (⟨"FairSlotsModel", "finds", "(I)Z"⟩, 46) := ⟨⟨by decide +kernel, by decide +kernel⟩, List.mem_of_getElem? (i := 990) (by decide +kernel), List.mem_of_getElem? (i := 1406) (by decide +kernel), List.mem_of_getElem? (i := 1407) (by decide +kernel)⟩
theorem lw_p43 : lw_okq (⟨"FairSlotsModel", "hasRoom", "(I)Z"⟩, 46) := ⟨⟨by decide +kernel, by decide +kernel⟩, List.mem_of_getElem? (i := 990) (by decide +kernel), List.mem_of_getElem? (i := 1410) (by decide +kernel), List.mem_of_getElem? (i := 1411) (by decide +kernel)⟩
theorem lw_p44 : lw_okq (⟨"FairSlotsModel", "fitting", "()I"⟩, 46) := ⟨⟨by decide +kernel, by decide +kernel⟩, List.mem_of_getElem? (i := 990) (by decide +kernel), List.mem_of_getElem? (i := 1444) (by decide +kernel), List.mem_of_getElem? (i := 1445) (by decide +kernel)⟩
theorem lw_p45 : lw_okq (⟨"FairSlotsModel", "isSo", "(III)Z"⟩, 46) := ⟨⟨by decide +kernel, by decide +kernel⟩, List.mem_of_getElem? (i := 990) (by decide +kernel), List.mem_of_getElem? (i := 1448) (by decide +kernel), List.mem_of_getElem? (i := 1449) (by decide +kernel)⟩
theorem lw_p46 : lw_okq (⟨"FairSlotsModel", "isWeight", "(II)Z"⟩, 46) := ⟨⟨by decide +kernel, by decide +kernel⟩, List.mem_of_getElem? (i := 990) (by decide +kernel), List.mem_of_getElem? (i := 1469) (by decide +kernel), List.mem_of_getElem? (i := 1470) (by decide +kernel)⟩
theorem lw_p47 : lw_okq (⟨"FairSlotsModel", "take", "(I)I"⟩, 46) := ⟨⟨by decide +kernel, by decide +kernel⟩, List.mem_of_getElem? (i := 990) (by decide +kernel), List.mem_of_getElem? (i := 1486) (by decide +kernel), List.mem_of_getElem? (i := 1487) (by decide +kernel)⟩
def lw_privs_3 : List (MethodName × Nat) := [(⟨"FairSlotsModel", "goSlot", "([II)I"⟩, 46), (⟨"FairSlotsModel", "layOrder", "([II)I"⟩, 46), (⟨"FairSlotsModel", "isAhead", "([III)Z"⟩, 46), (⟨"FairSlotsModel", "tell", "(J)V"⟩, 46), (⟨"FairSlotsModel", "goSlots", "([II)I"⟩, 46), (⟨"FairSlotsModel", "refusesProcessors", "(I)I"⟩, 46), (⟨"FairSlotsModel", "readAct", "(I)V"⟩, 46), (⟨"FairSlotsModel", "act", "(II)Z"⟩, 46), (⟨"FairSlotsModel", "tellPart", "(JJ)V"⟩, 46), (⟨"FairSlotsModel", "layDue", "(I)V"⟩, 46), (⟨"FairSlotsModel", "finds", "(I)Z"⟩, 46), (⟨"FairSlotsModel", "hasRoom", "(I)Z"⟩, 46), (⟨"FairSlotsModel", "fitting", "()I"⟩, 46), (⟨"FairSlotsModel", "isSo", "(III)Z"⟩, 46), (⟨"FairSlotsModel", "isWeight", "(II)Z"⟩, 46), (⟨"FairSlotsModel", "take", "(I)I"⟩, 46)]
theorem lw_r3 : ∀ q ∈ lw_privs_3, lw_okq q := List.forall_mem_cons.mpr ⟨lw_p32, List.forall_mem_cons.mpr ⟨lw_p33, List.forall_mem_cons.mpr ⟨lw_p34, List.forall_mem_cons.mpr ⟨lw_p35, List.forall_mem_cons.mpr ⟨lw_p36, List.forall_mem_cons.mpr ⟨lw_p37, List.forall_mem_cons.mpr ⟨lw_p38, List.forall_mem_cons.mpr ⟨lw_p39, List.forall_mem_cons.mpr ⟨lw_p40, List.forall_mem_cons.mpr ⟨lw_p41, List.forall_mem_cons.mpr ⟨lw_p42, List.forall_mem_cons.mpr ⟨lw_p43, List.forall_mem_cons.mpr ⟨lw_p44, List.forall_mem_cons.mpr ⟨lw_p45, List.forall_mem_cons.mpr ⟨lw_p46, List.forall_mem_cons.mpr ⟨lw_p47, fun _ h => absurd h List.not_mem_nil⟩⟩⟩⟩⟩⟩⟩⟩⟩⟩⟩⟩⟩⟩⟩⟩
theorem lw_p48 : lw_okq (⟨"FairSlotsModel", "lay60", "()I"⟩, 46) := ⟨⟨by decide +kernel, by decide +kernel⟩, List.mem_of_getElem? (i := 990) (by decide +kernel), List.mem_of_getElem? (i := 1504) (by decide +kernel), List.mem_of_getElem? (i := 1505) (by decide +kernel)⟩
theorem lw_p49 : lw_okq (⟨"FairSlotsModel", "draw", "(I)I"⟩, 46) := ⟨⟨by decide +kernel, by decide +kernel⟩, List.mem_of_getElem? (i := 990) (by decide +kernel), List.mem_of_getElem? (i := 1512) (by decide +kernel), List.mem_of_getElem? (i := 1513) (by decide +kernel)⟩
def lw_privs_4 : List (MethodName × Nat) := [(⟨"FairSlotsModel", "lay60", "()I"⟩, 46), (⟨"FairSlotsModel", "draw", "(I)I"⟩, 46)]
theorem lw_r4 : ∀ q ∈ lw_privs_4, lw_okq q := List.forall_mem_cons.mpr ⟨lw_p48, List.forall_mem_cons.mpr ⟨lw_p49, fun _ h => absurd h List.not_mem_nil⟩⟩
def lw_privs : List (MethodName × Nat) := lw_privs_1 ++ (lw_privs_2 ++ (lw_privs_3 ++ (lw_privs_4)))
def lw_tbl : List Cond := k2_sels lw_privs ++ tables_1
theorem lw_privs_ok : ∀ q ∈ lw_privs, lw_okq q := by
  show ∀ q ∈ lw_privs_1 ++ (lw_privs_2 ++ (lw_privs_3 ++ (lw_privs_4))), lw_okq q
  exact List.forall_mem_append.mpr ⟨lw_r1, List.forall_mem_append.mpr ⟨lw_r2, List.forall_mem_append.mpr ⟨lw_r3, lw_r4⟩⟩⟩
def RX0 : String := "FairSlots$Extremes"
def TX0 : u_T := fun k => match k with
  | 0 => ("FairSlots$Extremes", "task", "I", false)
  | 1 => ("FairSlots$Extremes", "behind", "I", false)
  | 2 => ("FairSlots$Extremes", "mostUpper", "J", false)
  | 3 => ("FairSlots$Extremes", "mostLower", "J", false)
  | 4 => ("FairSlots$Extremes", "leastUpper", "J", false)
  | _ => ("FairSlots$Extremes", "leastLower", "J", false)
def tyX0 : Nat → FieldType := fun k => match k with
  | 0 => .int
  | 1 => .int
  | 2 => .long
  | 3 => .long
  | 4 => .long
  | _ => .long
abbrev wsX00 : List Cond := u_ws RX0 TX0 6
theorem nmX0 : ∀ a, a < 6 → ∀ b, b < 6 → a ≠ b → (TX0 a).2.1 ≠ (TX0 b).2.1 := by decide +kernel
theorem tyX0_ok : ∀ k, k < 6 → parseFieldDescriptor (TX0 k).2.2.1 = some (tyX0 k) := by decide +kernel
abbrev cX0_init : ByteArray := prog_2_method_1_code
def yX0_init : MethodName := ⟨RX0, "<init>", "()V"⟩
abbrev cX0_clear : ByteArray := prog_2_method_2_code
def yX0_clear : MethodName := ⟨RX0, "clear", "()V"⟩
abbrev cX0_take : ByteArray := prog_2_method_3_code
def yX0_take : MethodName := ⟨RX0, "take", "(IIJJ)V"⟩
def RX1 : String := "FairSlots$Hearsay"
def TX1 : u_T := fun k => match k with
  | 0 => ("FairSlots$Hearsay", "whats", "[I", true)
  | 1 => ("FairSlots$Hearsay", "values", "[I", true)
  | _ => ("FairSlots$Hearsay", "size", "I", false)
def tyX1 : Nat → FieldType := fun k => match k with
  | 0 => .array .int
  | 1 => .array .int
  | _ => .int
abbrev wsX10 : List Cond := u_ws RX1 TX1 3
theorem nmX1 : ∀ a, a < 3 → ∀ b, b < 3 → a ≠ b → (TX1 a).2.1 ≠ (TX1 b).2.1 := by decide +kernel
theorem tyX1_ok : ∀ k, k < 3 → parseFieldDescriptor (TX1 k).2.2.1 = some (tyX1 k) := by decide +kernel
abbrev cX1_init : ByteArray := prog_3_method_1_code
def yX1_init : MethodName := ⟨RX1, "<init>", "()V"⟩
abbrev cX1_add : ByteArray := prog_3_method_2_code
def yX1_add : MethodName := ⟨RX1, "add", "(II)I"⟩
abbrev cX1_clear : ByteArray := prog_3_method_3_code
def yX1_clear : MethodName := ⟨RX1, "clear", "()I"⟩
abbrev cX1_fitting : ByteArray := prog_3_method_4_code
def yX1_fitting : MethodName := ⟨RX1, "fitting", "(LFairSlots$World;)I"⟩
abbrev cX1_whereSo : ByteArray := prog_3_method_5_code
def yX1_whereSo : MethodName := ⟨RX1, "whereSo", "(LFairSlots$World;III)I"⟩
abbrev cX1_isSo : ByteArray := prog_3_method_6_code
def yX1_isSo : MethodName := ⟨RX1, "isSo", "(LFairSlots$World;III)Z"⟩
def RX2 : String := "FairSlots$Parts"
def TX2 : u_T := fun k => match k with
  | _ => ("", "", "", false)
def tyX2 : Nat → FieldType := fun k => match k with
  | _ => .int
abbrev wsX20 : List Cond := u_ws RX2 TX2 0
theorem nmX2 : ∀ a, a < 0 → ∀ b, b < 0 → a ≠ b → (TX2 a).2.1 ≠ (TX2 b).2.1 := by decide +kernel
theorem tyX2_ok : ∀ k, k < 0 → parseFieldDescriptor (TX2 k).2.2.1 = some (tyX2 k) := by decide +kernel
abbrev cX2_release : ByteArray := prog_4_method_2_code
def yX2_release : MethodName := ⟨RX2, "release", "(III)I"⟩
abbrev cX2_deadline : ByteArray := prog_4_method_3_code
def yX2_deadline : MethodName := ⟨RX2, "deadline", "(III)I"⟩
abbrev cX2_overlap : ByteArray := prog_4_method_4_code
def yX2_overlap : MethodName := ⟨RX2, "overlap", "(III)I"⟩
abbrev cX2_group : ByteArray := prog_4_method_5_code
def yX2_group : MethodName := ⟨RX2, "group", "(III)I"⟩
def RX3 : String := "FairSlots$Past"
def TX3 : u_T := fun k => match k with
  | 0 => ("FairSlots$Past", "ring", "[LFairSlots$World;", true)
  | 1 => ("FairSlots$Past", "oldest", "I", false)
  | 2 => ("FairSlots$Past", "size", "I", false)
  | 3 => ("FairSlots$Past", "kept", "[LFairSlots$World;", true)
  | _ => ("FairSlots$Past", "isKept", "[Z", true)
def tyX3 : Nat → FieldType := fun k => match k with
  | 0 => .array (.object "FairSlots$World")
  | 1 => .int
  | 2 => .int
  | 3 => .array (.object "FairSlots$World")
  | _ => .array .boolean
abbrev wsX30 : List Cond := u_ws RX3 TX3 5
theorem nmX3 : ∀ a, a < 5 → ∀ b, b < 5 → a ≠ b → (TX3 a).2.1 ≠ (TX3 b).2.1 := by decide +kernel
theorem tyX3_ok : ∀ k, k < 5 → parseFieldDescriptor (TX3 k).2.2.1 = some (tyX3 k) := by decide +kernel
abbrev cX3_init : ByteArray := prog_5_method_1_code
def yX3_init : MethodName := ⟨RX3, "<init>", "()V"⟩
abbrev cX3_remember : ByteArray := prog_5_method_2_code
def yX3_remember : MethodName := ⟨RX3, "remember", "(LFairSlots$World;)V"⟩
abbrev cX3_bringBack : ByteArray := prog_5_method_3_code
def yX3_bringBack : MethodName := ⟨RX3, "bringBack", "(LFairSlots$World;)I"⟩
abbrev cX3_keepUnder : ByteArray := prog_5_method_4_code
def yX3_keepUnder : MethodName := ⟨RX3, "keepUnder", "(ILFairSlots$World;)Z"⟩
abbrev cX3_bringKept : ByteArray := prog_5_method_5_code
def yX3_bringKept : MethodName := ⟨RX3, "bringKept", "(ILFairSlots$World;)Z"⟩
def RX4 : String := "FairSlots$Row"
def TX4 : u_T := fun k => match k with
  | 0 => ("FairSlots$Row", "numbers", "[J", true)
  | _ => ("FairSlots$Row", "size", "I", false)
def tyX4 : Nat → FieldType := fun k => match k with
  | 0 => .array .long
  | _ => .int
abbrev wsX40 : List Cond := u_ws RX4 TX4 2
theorem nmX4 : ∀ a, a < 2 → ∀ b, b < 2 → a ≠ b → (TX4 a).2.1 ≠ (TX4 b).2.1 := by decide +kernel
theorem tyX4_ok : ∀ k, k < 2 → parseFieldDescriptor (TX4 k).2.2.1 = some (tyX4 k) := by decide +kernel
abbrev cX4_init : ByteArray := prog_6_method_1_code
def yX4_init : MethodName := ⟨RX4, "<init>", "()V"⟩
abbrev cX4_clear : ByteArray := prog_6_method_2_code
def yX4_clear : MethodName := ⟨RX4, "clear", "()V"⟩
abbrev cX4_add : ByteArray := prog_6_method_3_code
def yX4_add : MethodName := ⟨RX4, "add", "(J)V"⟩
abbrev cX4_addFraction : ByteArray := prog_6_method_4_code
def yX4_addFraction : MethodName := ⟨RX4, "addFraction", "(JJ)V"⟩
abbrev cX4_commonDivisor : ByteArray := prog_6_method_5_code
def yX4_commonDivisor : MethodName := ⟨RX4, "commonDivisor", "(JJ)J"⟩
def RX5 : String := "FairSlots$Scroll"
def TX5 : u_T := fun k => match k with
  | 0 => ("FairSlots$Scroll", "signs", "[C", true)
  | 1 => ("FairSlots$Scroll", "size", "I", false)
  | 2 => ("FairSlots$Scroll", "place", "I", false)
  | _ => ("FairSlots$Scroll", "bound", "I", false)
def tyX5 : Nat → FieldType := fun k => match k with
  | 0 => .array .char
  | 1 => .int
  | 2 => .int
  | _ => .int
abbrev wsX50 : List Cond := u_ws RX5 TX5 4
theorem nmX5 : ∀ a, a < 4 → ∀ b, b < 4 → a ≠ b → (TX5 a).2.1 ≠ (TX5 b).2.1 := by decide +kernel
theorem tyX5_ok : ∀ k, k < 4 → parseFieldDescriptor (TX5 k).2.2.1 = some (tyX5 k) := by decide +kernel
abbrev cX5_init : ByteArray := prog_7_method_1_code
def yX5_init : MethodName := ⟨RX5, "<init>", "()V"⟩
abbrev cX5_append : ByteArray := prog_7_method_2_code
def yX5_append : MethodName := ⟨RX5, "append", "(I)I"⟩
abbrev cX5_cutTo : ByteArray := prog_7_method_3_code
def yX5_cutTo : MethodName := ⟨RX5, "cutTo", "(I)Z"⟩
abbrev cX5_clear : ByteArray := prog_7_method_4_code
def yX5_clear : MethodName := ⟨RX5, "clear", "()V"⟩
abbrev cX5_signAt : ByteArray := prog_7_method_5_code
def yX5_signAt : MethodName := ⟨RX5, "signAt", "(I)I"⟩
abbrev cX5_digitAt : ByteArray := prog_7_method_6_code
def yX5_digitAt : MethodName := ⟨RX5, "digitAt", "(I)I"⟩
abbrev cX5_readTies : ByteArray := prog_7_method_7_code
def yX5_readTies : MethodName := ⟨RX5, "readTies", "(LFairSlots$Ties;)I"⟩
abbrev cX5_readLines : ByteArray := prog_7_method_8_code
def yX5_readLines : MethodName := ⟨RX5, "readLines", "(LFairSlots$World;)I"⟩
abbrev cX5_readLine : ByteArray := prog_7_method_9_code
def yX5_readLine : MethodName := ⟨RX5, "readLine", "(LFairSlots$World;)I"⟩
abbrev cX5_readNumber : ByteArray := prog_7_method_10_code
def yX5_readNumber : MethodName := ⟨RX5, "readNumber", "()I"⟩
abbrev cX5_actLength : ByteArray := prog_7_method_11_code
def yX5_actLength : MethodName := ⟨RX5, "actLength", "(I)I"⟩
abbrev cX5_firstBadAct : ByteArray := prog_7_method_12_code
def yX5_firstBadAct : MethodName := ⟨RX5, "firstBadAct", "()I"⟩
def RX6 : String := "FairSlots$Sightings"
def TX6 : u_T := fun k => match k with
  | 0 => ("FairSlots$Sightings", "parts", "[I", true)
  | 1 => ("FairSlots$Sightings", "releases", "[I", true)
  | 2 => ("FairSlots$Sightings", "alike", "[I", true)
  | _ => ("FairSlots$Sightings", "size", "I", false)
def tyX6 : Nat → FieldType := fun k => match k with
  | 0 => .array .int
  | 1 => .array .int
  | 2 => .array .int
  | _ => .int
abbrev wsX60 : List Cond := u_ws RX6 TX6 4
theorem nmX6 : ∀ a, a < 4 → ∀ b, b < 4 → a ≠ b → (TX6 a).2.1 ≠ (TX6 b).2.1 := by decide +kernel
theorem tyX6_ok : ∀ k, k < 4 → parseFieldDescriptor (TX6 k).2.2.1 = some (tyX6 k) := by decide +kernel
abbrev cX6_init : ByteArray := prog_8_method_1_code
def yX6_init : MethodName := ⟨RX6, "<init>", "()V"⟩
abbrev cX6_add : ByteArray := prog_8_method_2_code
def yX6_add : MethodName := ⟨RX6, "add", "(II)I"⟩
abbrev cX6_clear : ByteArray := prog_8_method_3_code
def yX6_clear : MethodName := ⟨RX6, "clear", "()I"⟩
abbrev cX6_fit : ByteArray := prog_8_method_4_code
def yX6_fit : MethodName := ⟨RX6, "fit", "(II)Z"⟩
abbrev cX6_mostAlike : ByteArray := prog_8_method_5_code
def yX6_mostAlike : MethodName := ⟨RX6, "mostAlike", "(I)I"⟩
def RX7 : String := "FairSlots$Stream"
def TX7 : u_T := fun k => match k with
  | 0 => ("FairSlots$Stream", "from", "[I", true)
  | 1 => ("FairSlots$Stream", "till", "[I", true)
  | 2 => ("FairSlots$Stream", "partIn", "[I", true)
  | 3 => ("FairSlots$Stream", "loads", "[I", true)
  | 4 => ("FairSlots$Stream", "cameFrom", "[I", true)
  | 5 => ("FairSlots$Stream", "queue", "[I", true)
  | _ => ("FairSlots$Stream", "queued", "I", false)
def tyX7 : Nat → FieldType := fun k => match k with
  | 0 => .array .int
  | 1 => .array .int
  | 2 => .array .int
  | 3 => .array .int
  | 4 => .array .int
  | 5 => .array .int
  | _ => .int
abbrev wsX70 : List Cond := u_ws RX7 TX7 7
theorem nmX7 : ∀ a, a < 7 → ∀ b, b < 7 → a ≠ b → (TX7 a).2.1 ≠ (TX7 b).2.1 := by decide +kernel
theorem tyX7_ok : ∀ k, k < 7 → parseFieldDescriptor (TX7 k).2.2.1 = some (tyX7 k) := by decide +kernel
abbrev cX7_init : ByteArray := prog_9_method_1_code
def yX7_init : MethodName := ⟨RX7, "<init>", "()V"⟩
abbrev cX7_gather : ByteArray := prog_9_method_2_code
def yX7_gather : MethodName := ⟨RX7, "gather", "(LFairSlots$World;I)I"⟩
abbrev cX7_gatherOf : ByteArray := prog_9_method_3_code
def yX7_gatherOf : MethodName := ⟨RX7, "gatherOf", "(LFairSlots$World;II)I"⟩
abbrev cX7_greatest : ByteArray := prog_9_method_4_code
def yX7_greatest : MethodName := ⟨RX7, "greatest", "(I)I"⟩
abbrev cX7_findPlace : ByteArray := prog_9_method_5_code
def yX7_findPlace : MethodName := ⟨RX7, "findPlace", "(II)Z"⟩
abbrev cX7_reach : ByteArray := prog_9_method_6_code
def yX7_reach : MethodName := ⟨RX7, "reach", "(II)V"⟩
abbrev cX7_goOnFromPart : ByteArray := prog_9_method_7_code
def yX7_goOnFromPart : MethodName := ⟨RX7, "goOnFromPart", "(I)V"⟩
abbrev cX7_goOnFromPlace : ByteArray := prog_9_method_8_code
def yX7_goOnFromPlace : MethodName := ⟨RX7, "goOnFromPlace", "(I)V"⟩
abbrev cX7_goOnFromSlot : ByteArray := prog_9_method_9_code
def yX7_goOnFromSlot : MethodName := ⟨RX7, "goOnFromSlot", "(I)V"⟩
abbrev cX7_settle : ByteArray := prog_9_method_10_code
def yX7_settle : MethodName := ⟨RX7, "settle", "(I)V"⟩
def RX8 : String := "FairSlots$Ties"
def TX8 : u_T := fun k => match k with
  | 0 => ("FairSlots$Ties", "letters", "[I", true)
  | _ => ("FairSlots$Ties", "size", "I", false)
def tyX8 : Nat → FieldType := fun k => match k with
  | 0 => .array .int
  | _ => .int
abbrev wsX80 : List Cond := u_ws RX8 TX8 2
theorem nmX8 : ∀ a, a < 2 → ∀ b, b < 2 → a ≠ b → (TX8 a).2.1 ≠ (TX8 b).2.1 := by decide +kernel
theorem tyX8_ok : ∀ k, k < 2 → parseFieldDescriptor (TX8 k).2.2.1 = some (tyX8 k) := by decide +kernel
abbrev cX8_init : ByteArray := prog_10_method_1_code
def yX8_init : MethodName := ⟨RX8, "<init>", "()V"⟩
abbrev cX8_copyFrom : ByteArray := prog_10_method_2_code
def yX8_copyFrom : MethodName := ⟨RX8, "copyFrom", "(LFairSlots$Ties;)V"⟩
abbrev cX8_clear : ByteArray := prog_10_method_3_code
def yX8_clear : MethodName := ⟨RX8, "clear", "()V"⟩
abbrev cX8_add : ByteArray := prog_10_method_4_code
def yX8_add : MethodName := ⟨RX8, "add", "(I)Z"⟩
abbrev cX8_isAhead : ByteArray := prog_10_method_5_code
def yX8_isAhead : MethodName := ⟨RX8, "isAhead", "(LFairSlots$World;II)Z"⟩
abbrev cX8_leadBy : ByteArray := prog_10_method_6_code
def yX8_leadBy : MethodName := ⟨RX8, "leadBy", "(ILFairSlots$World;II)I"⟩
def RX9 : String := "FairSlots$World"
def TX9 : u_T := fun k => match k with
  | 0 => ("FairSlots$World", "upper", "[I", true)
  | 1 => ("FairSlots$World", "lower", "[I", true)
  | 2 => ("FairSlots$World", "weight", "[I", true)
  | 3 => ("FairSlots$World", "joined", "[I", true)
  | 4 => ("FairSlots$World", "early", "[I", true)
  | 5 => ("FairSlots$World", "done", "[I", true)
  | 6 => ("FairSlots$World", "release", "[I", true)
  | 7 => ("FairSlots$World", "deadline", "[I", true)
  | 8 => ("FairSlots$World", "overlap", "[I", true)
  | 9 => ("FairSlots$World", "group", "[I", true)
  | 10 => ("FairSlots$World", "processors", "I", false)
  | 11 => ("FairSlots$World", "slot", "I", false)
  | 12 => ("FairSlots$World", "missed", "I", false)
  | 13 => ("FairSlots$World", "ran", "I", false)
  | 14 => ("FairSlots$World", "readyCount", "I", false)
  | 15 => ("FairSlots$World", "missers", "I", false)
  | _ => ("FairSlots$World", "idleSlots", "I", false)
def tyX9 : Nat → FieldType := fun k => match k with
  | 0 => .array .int
  | 1 => .array .int
  | 2 => .array .int
  | 3 => .array .int
  | 4 => .array .int
  | 5 => .array .int
  | 6 => .array .int
  | 7 => .array .int
  | 8 => .array .int
  | 9 => .array .int
  | 10 => .int
  | 11 => .int
  | 12 => .int
  | 13 => .int
  | 14 => .int
  | 15 => .int
  | _ => .int
abbrev wsX90 : List Cond := u_ws RX9 TX9 17
theorem nmX9 : ∀ a, a < 17 → ∀ b, b < 17 → a ≠ b → (TX9 a).2.1 ≠ (TX9 b).2.1 := by decide +kernel
theorem tyX9_ok : ∀ k, k < 17 → parseFieldDescriptor (TX9 k).2.2.1 = some (tyX9 k) := by decide +kernel
abbrev cX9_init : ByteArray := prog_11_method_1_code
def yX9_init : MethodName := ⟨RX9, "<init>", "()V"⟩
abbrev cX9_copyFrom : ByteArray := prog_11_method_2_code
def yX9_copyFrom : MethodName := ⟨RX9, "copyFrom", "(LFairSlots$World;)V"⟩
abbrev cX9_isThere : ByteArray := prog_11_method_3_code
def yX9_isThere : MethodName := ⟨RX9, "isThere", "(I)Z"⟩
abbrev cX9_thereSet : ByteArray := prog_11_method_4_code
def yX9_thereSet : MethodName := ⟨RX9, "thereSet", "()I"⟩
abbrev cX9_leastFree : ByteArray := prog_11_method_5_code
def yX9_leastFree : MethodName := ⟨RX9, "leastFree", "()I"⟩
abbrev cX9_doneOfAll : ByteArray := prog_11_method_6_code
def yX9_doneOfAll : MethodName := ⟨RX9, "doneOfAll", "()I"⟩
abbrev cX9_enter : ByteArray := prog_11_method_7_code
def yX9_enter : MethodName := ⟨RX9, "enter", "(IIII)V"⟩
abbrev cX9_lookAtNext : ByteArray := prog_11_method_8_code
def yX9_lookAtNext : MethodName := ⟨RX9, "lookAtNext", "(I)V"⟩
abbrev cX9_releaseOf : ByteArray := prog_11_method_9_code
def yX9_releaseOf : MethodName := ⟨RX9, "releaseOf", "(II)I"⟩
abbrev cX9_deadlineOf : ByteArray := prog_11_method_10_code
def yX9_deadlineOf : MethodName := ⟨RX9, "deadlineOf", "(II)I"⟩
abbrev cX9_overlapOf : ByteArray := prog_11_method_11_code
def yX9_overlapOf : MethodName := ⟨RX9, "overlapOf", "(II)I"⟩
abbrev cX9_groupOf : ByteArray := prog_11_method_12_code
def yX9_groupOf : MethodName := ⟨RX9, "groupOf", "(II)I"⟩
abbrev cX9_isReady : ByteArray := prog_11_method_13_code
def yX9_isReady : MethodName := ⟨RX9, "isReady", "(I)Z"⟩
abbrev cX9_hasRun : ByteArray := prog_11_method_14_code
def yX9_hasRun : MethodName := ⟨RX9, "hasRun", "(I)Z"⟩
abbrev cX9_readySet : ByteArray := prog_11_method_15_code
def yX9_readySet : MethodName := ⟨RX9, "readySet", "(I)I"⟩
abbrev cX9_firstOf : ByteArray := prog_11_method_16_code
def yX9_firstOf : MethodName := ⟨RX9, "firstOf", "(ILFairSlots$Ties;)I"⟩
abbrev cX9_goBy : ByteArray := prog_11_method_17_code
def yX9_goBy : MethodName := ⟨RX9, "goBy", "(LFairSlots$Ties;I)V"⟩
abbrev cX9_goByMany : ByteArray := prog_11_method_18_code
def yX9_goByMany : MethodName := ⟨RX9, "goByMany", "(ILFairSlots$Ties;)I"⟩
abbrev cX9_takeProcessors : ByteArray := prog_11_method_19_code
def yX9_takeProcessors : MethodName := ⟨RX9, "takeProcessors", "(I)I"⟩
abbrev cX9_letGo : ByteArray := prog_11_method_20_code
def yX9_letGo : MethodName := ⟨RX9, "letGo", "(I)I"⟩
abbrev cX9_mayLeaveFrom : ByteArray := prog_11_method_21_code
def yX9_mayLeaveFrom : MethodName := ⟨RX9, "mayLeaveFrom", "(I)I"⟩
abbrev cX9_turnEarly : ByteArray := prog_11_method_22_code
def yX9_turnEarly : MethodName := ⟨RX9, "turnEarly", "(I)I"⟩
abbrev cX9_weightSum : ByteArray := prog_11_method_23_code
def yX9_weightSum : MethodName := ⟨RX9, "weightSum", "()I"⟩
abbrev cX9_heaviestOf : ByteArray := prog_11_method_24_code
def yX9_heaviestOf : MethodName := ⟨RX9, "heaviestOf", "(I)I"⟩
abbrev cX9_lagUpper : ByteArray := prog_11_method_25_code
def yX9_lagUpper : MethodName := ⟨RX9, "lagUpper", "(I)I"⟩
abbrev cX9_compareLags : ByteArray := prog_11_method_26_code
def yX9_compareLags : MethodName := ⟨RX9, "compareLags", "(II)I"⟩
abbrev cX9_hasLagsOf : ByteArray := prog_11_method_27_code
def yX9_hasLagsOf : MethodName := ⟨RX9, "hasLagsOf", "(LFairSlots$World;)Z"⟩
def RX10 : String := "FairSlots"
def TX10 : u_T := fun k => match k with
  | 0 => ("FairSlots", "now", "LFairSlots$World;", true)
  | 1 => ("FairSlots", "before", "LFairSlots$World;", true)
  | 2 => ("FairSlots", "later", "LFairSlots$World;", true)
  | 3 => ("FairSlots", "past", "LFairSlots$Past;", true)
  | 4 => ("FairSlots", "text", "LFairSlots$Scroll;", true)
  | 5 => ("FairSlots", "tiesNow", "LFairSlots$Ties;", true)
  | 6 => ("FairSlots", "tiesRead", "LFairSlots$Ties;", true)
  | 7 => ("FairSlots", "told", "LFairSlots$Row;", true)
  | 8 => ("FairSlots", "hearsay", "LFairSlots$Hearsay;", true)
  | 9 => ("FairSlots", "sightings", "LFairSlots$Sightings;", true)
  | 10 => ("FairSlots", "extremes", "LFairSlots$Extremes;", true)
  | 11 => ("FairSlots", "stream", "LFairSlots$Stream;", true)
  | 12 => ("FairSlots", "pairCounts", "[I", true)
  | _ => ("FairSlots", "chances", "[J", true)
def tyX10 : Nat → FieldType := fun k => match k with
  | 0 => .object "FairSlots$World"
  | 1 => .object "FairSlots$World"
  | 2 => .object "FairSlots$World"
  | 3 => .object "FairSlots$Past"
  | 4 => .object "FairSlots$Scroll"
  | 5 => .object "FairSlots$Ties"
  | 6 => .object "FairSlots$Ties"
  | 7 => .object "FairSlots$Row"
  | 8 => .object "FairSlots$Hearsay"
  | 9 => .object "FairSlots$Sightings"
  | 10 => .object "FairSlots$Extremes"
  | 11 => .object "FairSlots$Stream"
  | 12 => .array .int
  | _ => .array .long
abbrev wsX100 : List Cond := u_ws RX10 TX10 14
theorem nmX10 : ∀ a, a < 14 → ∀ b, b < 14 → a ≠ b → (TX10 a).2.1 ≠ (TX10 b).2.1 := by decide +kernel
theorem tyX10_ok : ∀ k, k < 14 → parseFieldDescriptor (TX10 k).2.2.1 = some (tyX10 k) := by decide +kernel
abbrev cX10_init : ByteArray := prog_1_method_1_code
def yX10_init : MethodName := ⟨RX10, "<init>", "()V"⟩
abbrev cX10_sign : ByteArray := prog_1_method_2_code
def yX10_sign : MethodName := ⟨RX10, "sign", "(I)I"⟩
abbrev cX10_end : ByteArray := prog_1_method_3_code
def yX10_end : MethodName := ⟨RX10, "end", "(I)Z"⟩
abbrev cX10_joins : ByteArray := prog_1_method_4_code
def yX10_joins : MethodName := ⟨RX10, "joins", "()I"⟩
abbrev cX10_ties : ByteArray := prog_1_method_5_code
def yX10_ties : MethodName := ⟨RX10, "ties", "()I"⟩
abbrev cX10_task : ByteArray := prog_1_method_6_code
def yX10_task : MethodName := ⟨RX10, "task", "(II)I"⟩
abbrev cX10_part : ByteArray := prog_1_method_7_code
def yX10_part : MethodName := ⟨RX10, "part", "(III)I"⟩
abbrev cX10_sheet : ByteArray := prog_1_method_8_code
def yX10_sheet : MethodName := ⟨RX10, "sheet", "(IIII)I"⟩
abbrev cX10_entry : ByteArray := prog_1_method_9_code
def yX10_entry : MethodName := ⟨RX10, "entry", "(II)I"⟩
abbrev cX10_slot : ByteArray := prog_1_method_10_code
def yX10_slot : MethodName := ⟨RX10, "slot", "()I"⟩
abbrev cX10_slots : ByteArray := prog_1_method_11_code
def yX10_slots : MethodName := ⟨RX10, "slots", "(I)I"⟩
abbrev cX10_processors : ByteArray := prog_1_method_12_code
def yX10_processors : MethodName := ⟨RX10, "processors", "(I)I"⟩
abbrev cX10_leaves : ByteArray := prog_1_method_13_code
def yX10_leaves : MethodName := ⟨RX10, "leaves", "(I)I"⟩
abbrev cX10_hurries : ByteArray := prog_1_method_14_code
def yX10_hurries : MethodName := ⟨RX10, "hurries", "(I)I"⟩
abbrev cX10_rememberedIfDone : ByteArray := prog_1_method_15_code
def yX10_rememberedIfDone : MethodName := ⟨RX10, "rememberedIfDone", "(I)I"⟩
abbrev cX10_shift : ByteArray := prog_1_method_16_code
def yX10_shift : MethodName := ⟨RX10, "shift", "()I"⟩
abbrev cX10_answerOfAct : ByteArray := prog_1_method_17_code
def yX10_answerOfAct : MethodName := ⟨RX10, "answerOfAct", "(I)I"⟩
abbrev cX10_undo : ByteArray := prog_1_method_18_code
def yX10_undo : MethodName := ⟨RX10, "undo", "()I"⟩
abbrev cX10_lag : ByteArray := prog_1_method_19_code
def yX10_lag : MethodName := ⟨RX10, "lag", "(I)I"⟩
abbrev cX10_use : ByteArray := prog_1_method_20_code
def yX10_use : MethodName := ⟨RX10, "use", "()I"⟩
abbrev cX10_order : ByteArray := prog_1_method_21_code
def yX10_order : MethodName := ⟨RX10, "order", "()I"⟩
abbrev cX10_behind : ByteArray := prog_1_method_22_code
def yX10_behind : MethodName := ⟨RX10, "behind", "()I"⟩
abbrev cX10_ahead : ByteArray := prog_1_method_23_code
def yX10_ahead : MethodName := ⟨RX10, "ahead", "(I)I"⟩
abbrev cX10_runs : ByteArray := prog_1_method_24_code
def yX10_runs : MethodName := ⟨RX10, "runs", "(I)I"⟩
abbrev cX10_when : ByteArray := prog_1_method_25_code
def yX10_when : MethodName := ⟨RX10, "when", "(II)I"⟩
abbrev cX10_misses : ByteArray := prog_1_method_26_code
def yX10_misses : MethodName := ⟨RX10, "misses", "()I"⟩
abbrev cX10_round : ByteArray := prog_1_method_27_code
def yX10_round : MethodName := ⟨RX10, "round", "()I"⟩
abbrev cX10_share : ByteArray := prog_1_method_28_code
def yX10_share : MethodName := ⟨RX10, "share", "(II)I"⟩
abbrev cX10_pairs : ByteArray := prog_1_method_29_code
def yX10_pairs : MethodName := ⟨RX10, "pairs", "(I)I"⟩
abbrev cX10_countPairs : ByteArray := prog_1_method_30_code
def yX10_countPairs : MethodName := ⟨RX10, "countPairs", "(I)V"⟩
abbrev cX10_lags : ByteArray := prog_1_method_31_code
def yX10_lags : MethodName := ⟨RX10, "lags", "(I)I"⟩
abbrev cX10_flow : ByteArray := prog_1_method_32_code
def yX10_flow : MethodName := ⟨RX10, "flow", "(I)I"⟩
abbrev cX10_waits : ByteArray := prog_1_method_33_code
def yX10_waits : MethodName := ⟨RX10, "waits", "(I)I"⟩
abbrev cX10_missesWhenKept : ByteArray := prog_1_method_34_code
def yX10_missesWhenKept : MethodName := ⟨RX10, "missesWhenKept", "(II)Z"⟩
abbrev cX10_room : ByteArray := prog_1_method_35_code
def yX10_room : MethodName := ⟨RX10, "room", "()I"⟩
abbrev cX10_fewest : ByteArray := prog_1_method_36_code
def yX10_fewest : MethodName := ⟨RX10, "fewest", "()I"⟩
abbrev cX10_heard : ByteArray := prog_1_method_37_code
def yX10_heard : MethodName := ⟨RX10, "heard", "(II)I"⟩
abbrev cX10_forget : ByteArray := prog_1_method_38_code
def yX10_forget : MethodName := ⟨RX10, "forget", "()I"⟩
abbrev cX10_fits : ByteArray := prog_1_method_39_code
def yX10_fits : MethodName := ⟨RX10, "fits", "()I"⟩
abbrev cX10_asks : ByteArray := prog_1_method_40_code
def yX10_asks : MethodName := ⟨RX10, "asks", "()I"⟩
abbrev cX10_saw : ByteArray := prog_1_method_41_code
def yX10_saw : MethodName := ⟨RX10, "saw", "(II)I"⟩
abbrev cX10_denies : ByteArray := prog_1_method_42_code
def yX10_denies : MethodName := ⟨RX10, "denies", "()I"⟩
abbrev cX10_weights : ByteArray := prog_1_method_43_code
def yX10_weights : MethodName := ⟨RX10, "weights", "()I"⟩
abbrev cX10_looks : ByteArray := prog_1_method_44_code
def yX10_looks : MethodName := ⟨RX10, "looks", "()I"⟩
abbrev cX10_odds : ByteArray := prog_1_method_45_code
def yX10_odds : MethodName := ⟨RX10, "odds", "(III)I"⟩
abbrev cX10_divisors : ByteArray := prog_1_method_46_code
def yX10_divisors : MethodName := ⟨RX10, "divisors", "(I)I"⟩
abbrev cX10_rests : ByteArray := prog_1_method_47_code
def yX10_rests : MethodName := ⟨RX10, "rests", "(I)I"⟩
abbrev cX10_isBest : ByteArray := prog_1_method_48_code
def yX10_isBest : MethodName := ⟨RX10, "isBest", "(III)Z"⟩
abbrev cX10_gain : ByteArray := prog_1_method_49_code
def yX10_gain : MethodName := ⟨RX10, "gain", "(III)I"⟩
abbrev cX10_law : ByteArray := prog_1_method_50_code
def yX10_law : MethodName := ⟨RX10, "law", "()I"⟩
abbrev cX10_firstMissBy : ByteArray := prog_1_method_51_code
def yX10_firstMissBy : MethodName := ⟨RX10, "firstMissBy", "(LFairSlots$Ties;)I"⟩
abbrev cX10_years : ByteArray := prog_1_method_52_code
def yX10_years : MethodName := ⟨RX10, "years", "(II)I"⟩
abbrev cX10_nextDraw : ByteArray := prog_1_method_53_code
def yX10_nextDraw : MethodName := ⟨RX10, "nextDraw", "(I)I"⟩
abbrev cX10_drawOf : ByteArray := prog_1_method_54_code
def yX10_drawOf : MethodName := ⟨RX10, "drawOf", "(II)I"⟩
abbrev cX10_keep : ByteArray := prog_1_method_55_code
def yX10_keep : MethodName := ⟨RX10, "keep", "(I)Z"⟩
abbrev cX10_again : ByteArray := prog_1_method_56_code
def yX10_again : MethodName := ⟨RX10, "again", "(I)Z"⟩
abbrev cX10_count : ByteArray := prog_1_method_57_code
def yX10_count : MethodName := ⟨RX10, "count", "(I)I"⟩
abbrev cX10_row : ByteArray := prog_1_method_58_code
def yX10_row : MethodName := ⟨RX10, "row", "(I)J"⟩
def RX11 : String := "FairSlotsModel"
def TX11 : u_T := fun k => match k with
  | 0 => ("FairSlotsModel", "now", "[I", true)
  | 1 => ("FairSlotsModel", "text", "[B", true)
  | 2 => ("FairSlotsModel", "typed", "I", false)
  | 3 => ("FairSlotsModel", "row", "[J", true)
  | 4 => ("FairSlotsModel", "rowMany", "I", false)
  | 5 => ("FairSlotsModel", "thrown", "I", false)
  | 6 => ("FairSlotsModel", "ties", "[B", false)
  | 7 => ("FairSlotsModel", "otherTies", "[B", false)
  | 8 => ("FairSlotsModel", "tieMany", "I", false)
  | 9 => ("FairSlotsModel", "useUp", "J", false)
  | 10 => ("FairSlotsModel", "useLow", "J", false)
  | 11 => ("FairSlotsModel", "line", "[I", true)
  | 12 => ("FairSlotsModel", "read", "[B", false)
  | 13 => ("FairSlotsModel", "length", "I", false)
  | 14 => ("FairSlotsModel", "top", "I", false)
  | 15 => ("FairSlotsModel", "at", "I", false)
  | 16 => ("FairSlotsModel", "wrong", "I", false)
  | 17 => ("FairSlotsModel", "told", "[I", true)
  | 18 => ("FairSlotsModel", "undos", "[I", true)
  | 19 => ("FairSlotsModel", "undoMany", "I", false)
  | 20 => ("FairSlotsModel", "aside", "[I", true)
  | 21 => ("FairSlotsModel", "then", "[I", true)
  | 22 => ("FairSlotsModel", "ready", "I", false)
  | 23 => ("FairSlotsModel", "missed", "I", false)
  | 24 => ("FairSlotsModel", "idle", "I", false)
  | 25 => ("FairSlotsModel", "acts", "[I", true)
  | 26 => ("FairSlotsModel", "both", "[I", true)
  | 27 => ("FairSlotsModel", "due", "[I", true)
  | 28 => ("FairSlotsModel", "dueMany", "I", false)
  | 29 => ("FairSlotsModel", "holder", "[I", true)
  | 30 => ("FairSlotsModel", "load", "[I", true)
  | 31 => ("FairSlotsModel", "wasTried", "[Z", true)
  | 32 => ("FairSlotsModel", "wasSlot", "[Z", true)
  | 33 => ("FairSlotsModel", "isTaken", "[Z", true)
  | 34 => ("FairSlotsModel", "heardOf", "[I", true)
  | 35 => ("FairSlotsModel", "heardBy", "[I", true)
  | 36 => ("FairSlotsModel", "heardMany", "I", false)
  | 37 => ("FairSlotsModel", "sawBy", "[I", true)
  | 38 => ("FairSlotsModel", "sawAs", "[I", true)
  | 39 => ("FairSlotsModel", "sawMany", "I", false)
  | 40 => ("FairSlotsModel", "many", "[I", true)
  | 41 => ("FairSlotsModel", "wins", "[Z", true)
  | 42 => ("FairSlotsModel", "firstMiss", "I", false)
  | 43 => ("FairSlotsModel", "drawn", "I", false)
  | 44 => ("FairSlotsModel", "kept", "[I", true)
  | _ => ("FairSlotsModel", "isKept", "[Z", true)
def tyX11 : Nat → FieldType := fun k => match k with
  | 0 => .array .int
  | 1 => .array .byte
  | 2 => .int
  | 3 => .array .long
  | 4 => .int
  | 5 => .int
  | 6 => .array .byte
  | 7 => .array .byte
  | 8 => .int
  | 9 => .long
  | 10 => .long
  | 11 => .array .int
  | 12 => .array .byte
  | 13 => .int
  | 14 => .int
  | 15 => .int
  | 16 => .int
  | 17 => .array .int
  | 18 => .array .int
  | 19 => .int
  | 20 => .array .int
  | 21 => .array .int
  | 22 => .int
  | 23 => .int
  | 24 => .int
  | 25 => .array .int
  | 26 => .array .int
  | 27 => .array .int
  | 28 => .int
  | 29 => .array .int
  | 30 => .array .int
  | 31 => .array .boolean
  | 32 => .array .boolean
  | 33 => .array .boolean
  | 34 => .array .int
  | 35 => .array .int
  | 36 => .int
  | 37 => .array .int
  | 38 => .array .int
  | 39 => .int
  | 40 => .array .int
  | 41 => .array .boolean
  | 42 => .int
  | 43 => .int
  | 44 => .array .int
  | _ => .array .boolean
abbrev wsX110 : List Cond := u_ws RX11 TX11 46
theorem nmX11 : ∀ a, a < 46 → ∀ b, b < 46 → a ≠ b → (TX11 a).2.1 ≠ (TX11 b).2.1 := by decide +kernel
theorem tyX11_ok : ∀ k, k < 46 → parseFieldDescriptor (TX11 k).2.2.1 = some (tyX11 k) := by decide +kernel
abbrev cX11_init : ByteArray := prog_13_method_1_code
def yX11_init : MethodName := ⟨RX11, "<init>", "()V"⟩
abbrev cX11_thrown : ByteArray := prog_13_method_2_code
def yX11_thrown : MethodName := ⟨RX11, "thrown", "()I"⟩
abbrev cX11_in : ByteArray := prog_13_method_3_code
def yX11_in : MethodName := ⟨RX11, "in", "(III)Z"⟩
abbrev cX11_has : ByteArray := prog_13_method_4_code
def yX11_has : MethodName := ⟨RX11, "has", "(II)Z"⟩
abbrev cX11_lost : ByteArray := prog_13_method_5_code
def yX11_lost : MethodName := ⟨RX11, "lost", "()I"⟩
abbrev cX11_tell : ByteArray := prog_13_method_6_code
def yX11_tell : MethodName := ⟨RX11, "tell", "(J)V"⟩
abbrev cX11_isThere : ByteArray := prog_13_method_7_code
def yX11_isThere : MethodName := ⟨RX11, "isThere", "([II)Z"⟩
abbrev cX11_isTask : ByteArray := prog_13_method_8_code
def yX11_isTask : MethodName := ⟨RX11, "isTask", "(I)Z"⟩
abbrev cX11_thereOf : ByteArray := prog_13_method_9_code
def yX11_thereOf : MethodName := ⟨RX11, "thereOf", "([I)I"⟩
abbrev cX11_common : ByteArray := prog_13_method_10_code
def yX11_common : MethodName := ⟨RX11, "common", "(JJ)J"⟩
abbrev cX11_tellPart : ByteArray := prog_13_method_11_code
def yX11_tellPart : MethodName := ⟨RX11, "tellPart", "(JJ)V"⟩
abbrev cX11_layUse : ByteArray := prog_13_method_12_code
def yX11_layUse : MethodName := ⟨RX11, "layUse", "([I)V"⟩
abbrev cX11_releaseOf : ByteArray := prog_13_method_13_code
def yX11_releaseOf : MethodName := ⟨RX11, "releaseOf", "([III)I"⟩
abbrev cX11_deadlineOf : ByteArray := prog_13_method_14_code
def yX11_deadlineOf : MethodName := ⟨RX11, "deadlineOf", "([III)I"⟩
abbrev cX11_overlapOf : ByteArray := prog_13_method_15_code
def yX11_overlapOf : MethodName := ⟨RX11, "overlapOf", "([III)I"⟩
abbrev cX11_lengthOf : ByteArray := prog_13_method_16_code
def yX11_lengthOf : MethodName := ⟨RX11, "lengthOf", "([III)I"⟩
abbrev cX11_groupOf : ByteArray := prog_13_method_17_code
def yX11_groupOf : MethodName := ⟨RX11, "groupOf", "([III)I"⟩
abbrev cX11_isReady : ByteArray := prog_13_method_18_code
def yX11_isReady : MethodName := ⟨RX11, "isReady", "([II)Z"⟩
abbrev cX11_leadBy : ByteArray := prog_13_method_19_code
def yX11_leadBy : MethodName := ⟨RX11, "leadBy", "([IIII)I"⟩
abbrev cX11_isAhead : ByteArray := prog_13_method_20_code
def yX11_isAhead : MethodName := ⟨RX11, "isAhead", "([III)Z"⟩
abbrev cX11_layOrder : ByteArray := prog_13_method_21_code
def yX11_layOrder : MethodName := ⟨RX11, "layOrder", "([II)I"⟩
abbrev cX11_sign : ByteArray := prog_13_method_22_code
def yX11_sign : MethodName := ⟨RX11, "sign", "(I)I"⟩
abbrev cX11_end : ByteArray := prog_13_method_23_code
def yX11_end : MethodName := ⟨RX11, "end", "(I)Z"⟩
abbrev cX11_begin : ByteArray := prog_13_method_24_code
def yX11_begin : MethodName := ⟨RX11, "begin", "([BII)V"⟩
abbrev cX11_beginText : ByteArray := prog_13_method_25_code
def yX11_beginText : MethodName := ⟨RX11, "beginText", "(I)V"⟩
abbrev cX11_here : ByteArray := prog_13_method_26_code
def yX11_here : MethodName := ⟨RX11, "here", "()I"⟩
abbrev cX11_fine : ByteArray := prog_13_method_27_code
def yX11_fine : MethodName := ⟨RX11, "fine", "()Z"⟩
abbrev cX11_fault : ByteArray := prog_13_method_28_code
def yX11_fault : MethodName := ⟨RX11, "fault", "(I)V"⟩
abbrev cX11_passes : ByteArray := prog_13_method_29_code
def yX11_passes : MethodName := ⟨RX11, "passes", "(C)Z"⟩
abbrev cX11_oneOf : ByteArray := prog_13_method_31_code
def yX11_oneOf : MethodName := ⟨RX11, "oneOf", "(CI)I"⟩
abbrev cX11_wasRight : ByteArray := prog_13_method_33_code
def yX11_wasRight : MethodName := ⟨RX11, "wasRight", "()Z"⟩
abbrev cX11_numberOf : ByteArray := prog_13_method_34_code
def yX11_numberOf : MethodName := ⟨RX11, "numberOf", "()I"⟩
abbrev cX11_readLine : ByteArray := prog_13_method_35_code
def yX11_readLine : MethodName := ⟨RX11, "readLine", "(I)V"⟩
abbrev cX11_joins : ByteArray := prog_13_method_36_code
def yX11_joins : MethodName := ⟨RX11, "joins", "()I"⟩
abbrev cX11_isTie : ByteArray := prog_13_method_37_code
def yX11_isTie : MethodName := ⟨RX11, "isTie", "(I)Z"⟩
abbrev cX11_rightTies : ByteArray := prog_13_method_38_code
def yX11_rightTies : MethodName := ⟨RX11, "rightTies", "(I)I"⟩
abbrev cX11_ties : ByteArray := prog_13_method_39_code
def yX11_ties : MethodName := ⟨RX11, "ties", "()I"⟩
abbrev cX11_task : ByteArray := prog_13_method_40_code
def yX11_task : MethodName := ⟨RX11, "task", "(II)I"⟩
abbrev cX11_part : ByteArray := prog_13_method_41_code
def yX11_part : MethodName := ⟨RX11, "part", "(III)I"⟩
abbrev cX11_sheet : ByteArray := prog_13_method_42_code
def yX11_sheet : MethodName := ⟨RX11, "sheet", "(IIII)I"⟩
abbrev cX11_lay : ByteArray := prog_13_method_43_code
def yX11_lay : MethodName := ⟨RX11, "lay", "([I[II)V"⟩
abbrev cX11_remember : ByteArray := prog_13_method_44_code
def yX11_remember : MethodName := ⟨RX11, "remember", "([I)V"⟩
abbrev cX11_goSlot : ByteArray := prog_13_method_45_code
def yX11_goSlot : MethodName := ⟨RX11, "goSlot", "([II)I"⟩
abbrev cX11_slot : ByteArray := prog_13_method_46_code
def yX11_slot : MethodName := ⟨RX11, "slot", "()I"⟩
abbrev cX11_goSlots : ByteArray := prog_13_method_47_code
def yX11_goSlots : MethodName := ⟨RX11, "goSlots", "([II)I"⟩
abbrev cX11_slots : ByteArray := prog_13_method_48_code
def yX11_slots : MethodName := ⟨RX11, "slots", "(I)I"⟩
abbrev cX11_refusesProcessors : ByteArray := prog_13_method_49_code
def yX11_refusesProcessors : MethodName := ⟨RX11, "refusesProcessors", "(I)I"⟩
abbrev cX11_processors : ByteArray := prog_13_method_50_code
def yX11_processors : MethodName := ⟨RX11, "processors", "(I)I"⟩
abbrev cX11_refusesLeaving : ByteArray := prog_13_method_51_code
def yX11_refusesLeaving : MethodName := ⟨RX11, "refusesLeaving", "([II)I"⟩
abbrev cX11_goLeave : ByteArray := prog_13_method_52_code
def yX11_goLeave : MethodName := ⟨RX11, "goLeave", "([II)I"⟩
abbrev cX11_leaves : ByteArray := prog_13_method_53_code
def yX11_leaves : MethodName := ⟨RX11, "leaves", "(I)I"⟩
abbrev cX11_hurries : ByteArray := prog_13_method_54_code
def yX11_hurries : MethodName := ⟨RX11, "hurries", "(I)I"⟩
abbrev cX11_shift : ByteArray := prog_13_method_55_code
def yX11_shift : MethodName := ⟨RX11, "shift", "()I"⟩
abbrev cX11_readAct : ByteArray := prog_13_method_56_code
def yX11_readAct : MethodName := ⟨RX11, "readAct", "(I)V"⟩
abbrev cX11_act : ByteArray := prog_13_method_57_code
def yX11_act : MethodName := ⟨RX11, "act", "(II)Z"⟩
abbrev cX11_undo : ByteArray := prog_13_method_58_code
def yX11_undo : MethodName := ⟨RX11, "undo", "()I"⟩
abbrev cX11_lagUp : ByteArray := prog_13_method_59_code
def yX11_lagUp : MethodName := ⟨RX11, "lagUp", "([II)I"⟩
abbrev cX11_lag : ByteArray := prog_13_method_60_code
def yX11_lag : MethodName := ⟨RX11, "lag", "(I)I"⟩
abbrev cX11_use : ByteArray := prog_13_method_61_code
def yX11_use : MethodName := ⟨RX11, "use", "()I"⟩
abbrev cX11_order : ByteArray := prog_13_method_62_code
def yX11_order : MethodName := ⟨RX11, "order", "()I"⟩
abbrev cX11_greatestLag : ByteArray := prog_13_method_63_code
def yX11_greatestLag : MethodName := ⟨RX11, "greatestLag", "([I)I"⟩
abbrev cX11_behind : ByteArray := prog_13_method_64_code
def yX11_behind : MethodName := ⟨RX11, "behind", "()I"⟩
abbrev cX11_ahead : ByteArray := prog_13_method_65_code
def yX11_ahead : MethodName := ⟨RX11, "ahead", "(I)I"⟩
abbrev cX11_runs : ByteArray := prog_13_method_66_code
def yX11_runs : MethodName := ⟨RX11, "runs", "(I)I"⟩
abbrev cX11_when : ByteArray := prog_13_method_67_code
def yX11_when : MethodName := ⟨RX11, "when", "(II)I"⟩
abbrev cX11_misses : ByteArray := prog_13_method_68_code
def yX11_misses : MethodName := ⟨RX11, "misses", "()I"⟩
abbrev cX11_round : ByteArray := prog_13_method_69_code
def yX11_round : MethodName := ⟨RX11, "round", "()I"⟩
abbrev cX11_share : ByteArray := prog_13_method_70_code
def yX11_share : MethodName := ⟨RX11, "share", "(II)I"⟩
abbrev cX11_pairs : ByteArray := prog_13_method_71_code
def yX11_pairs : MethodName := ⟨RX11, "pairs", "(I)I"⟩
abbrev cX11_lags : ByteArray := prog_13_method_72_code
def yX11_lags : MethodName := ⟨RX11, "lags", "(I)I"⟩
abbrev cX11_layDue : ByteArray := prog_13_method_73_code
def yX11_layDue : MethodName := ⟨RX11, "layDue", "(I)V"⟩
abbrev cX11_finds : ByteArray := prog_13_method_74_code
def yX11_finds : MethodName := ⟨RX11, "finds", "(I)Z"⟩
abbrev cX11_hasRoom : ByteArray := prog_13_method_75_code
def yX11_hasRoom : MethodName := ⟨RX11, "hasRoom", "(I)Z"⟩
abbrev cX11_flow : ByteArray := prog_13_method_76_code
def yX11_flow : MethodName := ⟨RX11, "flow", "(I)I"⟩
abbrev cX11_waits : ByteArray := prog_13_method_77_code
def yX11_waits : MethodName := ⟨RX11, "waits", "(I)I"⟩
abbrev cX11_room : ByteArray := prog_13_method_78_code
def yX11_room : MethodName := ⟨RX11, "room", "()I"⟩
abbrev cX11_fewest : ByteArray := prog_13_method_79_code
def yX11_fewest : MethodName := ⟨RX11, "fewest", "()I"⟩
abbrev cX11_lowOf : ByteArray := prog_13_method_80_code
def yX11_lowOf : MethodName := ⟨RX11, "lowOf", "(I)I"⟩
abbrev cX11_highOf : ByteArray := prog_13_method_81_code
def yX11_highOf : MethodName := ⟨RX11, "highOf", "(I)I"⟩
abbrev cX11_heard : ByteArray := prog_13_method_82_code
def yX11_heard : MethodName := ⟨RX11, "heard", "(II)I"⟩
abbrev cX11_forget : ByteArray := prog_13_method_83_code
def yX11_forget : MethodName := ⟨RX11, "forget", "()I"⟩
abbrev cX11_isSo : ByteArray := prog_13_method_84_code
def yX11_isSo : MethodName := ⟨RX11, "isSo", "(III)Z"⟩
abbrev cX11_fitting : ByteArray := prog_13_method_85_code
def yX11_fitting : MethodName := ⟨RX11, "fitting", "()I"⟩
abbrev cX11_fits : ByteArray := prog_13_method_86_code
def yX11_fits : MethodName := ⟨RX11, "fits", "()I"⟩
abbrev cX11_asks : ByteArray := prog_13_method_87_code
def yX11_asks : MethodName := ⟨RX11, "asks", "()I"⟩
abbrev cX11_saw : ByteArray := prog_13_method_88_code
def yX11_saw : MethodName := ⟨RX11, "saw", "(II)I"⟩
abbrev cX11_denies : ByteArray := prog_13_method_89_code
def yX11_denies : MethodName := ⟨RX11, "denies", "()I"⟩
abbrev cX11_isWeight : ByteArray := prog_13_method_90_code
def yX11_isWeight : MethodName := ⟨RX11, "isWeight", "(II)Z"⟩
abbrev cX11_weights : ByteArray := prog_13_method_91_code
def yX11_weights : MethodName := ⟨RX11, "weights", "()I"⟩
abbrev cX11_looks : ByteArray := prog_13_method_92_code
def yX11_looks : MethodName := ⟨RX11, "looks", "()I"⟩
abbrev cX11_odds : ByteArray := prog_13_method_93_code
def yX11_odds : MethodName := ⟨RX11, "odds", "(III)I"⟩
abbrev cX11_take : ByteArray := prog_13_method_94_code
def yX11_take : MethodName := ⟨RX11, "take", "(I)I"⟩
abbrev cX11_divisors : ByteArray := prog_13_method_95_code
def yX11_divisors : MethodName := ⟨RX11, "divisors", "(I)I"⟩
abbrev cX11_gets : ByteArray := prog_13_method_96_code
def yX11_gets : MethodName := ⟨RX11, "gets", "(III)I"⟩
abbrev cX11_isBest : ByteArray := prog_13_method_97_code
def yX11_isBest : MethodName := ⟨RX11, "isBest", "(III)Z"⟩
abbrev cX11_rests : ByteArray := prog_13_method_98_code
def yX11_rests : MethodName := ⟨RX11, "rests", "(I)I"⟩
abbrev cX11_lay60 : ByteArray := prog_13_method_99_code
def yX11_lay60 : MethodName := ⟨RX11, "lay60", "()I"⟩
abbrev cX11_law : ByteArray := prog_13_method_100_code
def yX11_law : MethodName := ⟨RX11, "law", "()I"⟩
abbrev cX11_draw : ByteArray := prog_13_method_101_code
def yX11_draw : MethodName := ⟨RX11, "draw", "(I)I"⟩
abbrev cX11_doneOf : ByteArray := prog_13_method_102_code
def yX11_doneOf : MethodName := ⟨RX11, "doneOf", "([I)I"⟩
abbrev cX11_years : ByteArray := prog_13_method_103_code
def yX11_years : MethodName := ⟨RX11, "years", "(II)I"⟩
abbrev cX11_keep : ByteArray := prog_13_method_104_code
def yX11_keep : MethodName := ⟨RX11, "keep", "(I)Z"⟩
abbrev cX11_again : ByteArray := prog_13_method_105_code
def yX11_again : MethodName := ⟨RX11, "again", "(I)Z"⟩
abbrev cX11_count : ByteArray := prog_13_method_106_code
def yX11_count : MethodName := ⟨RX11, "count", "(I)I"⟩
abbrev cX11_row : ByteArray := prog_13_method_107_code
def yX11_row : MethodName := ⟨RX11, "row", "(I)J"⟩
def RJx145de : String := "java/io/Serializable"
def TJx145de : u_T := fun k => match k with
  | _ => ("", "", "", false)
def tyJx145de : Nat → FieldType := fun k => match k with
  | _ => .int
abbrev wsJx145de0 : List Cond := u_ws RJx145de TJx145de 0
theorem nmJx145de : ∀ a, a < 0 → ∀ b, b < 0 → a ≠ b → (TJx145de a).2.1 ≠ (TJx145de b).2.1 := by decide +kernel
theorem tyJx145de_ok : ∀ k, k < 0 → parseFieldDescriptor (TJx145de k).2.2.1 = some (tyJx145de k) := by decide +kernel
def RJ6 : String := "java/lang/Integer"
def TJ6 : u_T := fun k => match k with
  | _ => ("", "", "", false)
def tyJ6 : Nat → FieldType := fun k => match k with
  | _ => .int
abbrev wsJ60 : List Cond := u_ws RJ6 TJ6 0
theorem nmJ6 : ∀ a, a < 0 → ∀ b, b < 0 → a ≠ b → (TJ6 a).2.1 ≠ (TJ6 b).2.1 := by decide +kernel
theorem tyJ6_ok : ∀ k, k < 0 → parseFieldDescriptor (TJ6 k).2.2.1 = some (tyJ6 k) := by decide +kernel
abbrev cJ6_compare_7cf53 : ByteArray := prog_16_method_40_code
def yJ6_compare_7cf53 : MethodName := ⟨RJ6, "compare", "(II)I"⟩
abbrev cJ6_bitCount_0f7a4 : ByteArray := prog_16_method_49_code
def yJ6_bitCount_0f7a4 : MethodName := ⟨RJ6, "bitCount", "(I)I"⟩
def RJ13 : String := "java/lang/Long"
def TJ13 : u_T := fun k => match k with
  | _ => ("", "", "", false)
def tyJ13 : Nat → FieldType := fun k => match k with
  | _ => .int
abbrev wsJ130 : List Cond := u_ws RJ13 TJ13 0
theorem nmJ13 : ∀ a, a < 0 → ∀ b, b < 0 → a ≠ b → (TJ13 a).2.1 ≠ (TJ13 b).2.1 := by decide +kernel
theorem tyJ13_ok : ∀ k, k < 0 → parseFieldDescriptor (TJ13 k).2.2.1 = some (tyJ13 k) := by decide +kernel
abbrev cJ13_compare_74951 : ByteArray := prog_17_method_42_code
def yJ13_compare_74951 : MethodName := ⟨RJ13, "compare", "(JJ)I"⟩
def RJ9 : String := "java/lang/Math"
def TJ9 : u_T := fun k => match k with
  | _ => ("", "", "", false)
def tyJ9 : Nat → FieldType := fun k => match k with
  | _ => .int
abbrev wsJ90 : List Cond := u_ws RJ9 TJ9 0
theorem nmJ9 : ∀ a, a < 0 → ∀ b, b < 0 → a ≠ b → (TJ9 a).2.1 ≠ (TJ9 b).2.1 := by decide +kernel
theorem tyJ9_ok : ∀ k, k < 0 → parseFieldDescriptor (TJ9 k).2.2.1 = some (tyJ9 k) := by decide +kernel
abbrev cJ9_abs_067f4 : ByteArray := prog_18_method_61_code
def yJ9_abs_067f4 : MethodName := ⟨RJ9, "abs", "(J)J"⟩
abbrev cJ9_max_7cf53 : ByteArray := prog_18_method_65_code
def yJ9_max_7cf53 : MethodName := ⟨RJ9, "max", "(II)I"⟩
abbrev cJ9_min_7cf53 : ByteArray := prog_18_method_69_code
def yJ9_min_7cf53 : MethodName := ⟨RJ9, "min", "(II)I"⟩
def RJ10 : String := "java/lang/System"
def TJ10 : u_T := fun k => match k with
  | _ => ("", "", "", false)
def tyJ10 : Nat → FieldType := fun k => match k with
  | _ => .int
abbrev wsJ100 : List Cond := u_ws RJ10 TJ10 0
theorem nmJ10 : ∀ a, a < 0 → ∀ b, b < 0 → a ≠ b → (TJ10 a).2.1 ≠ (TJ10 b).2.1 := by decide +kernel
theorem tyJ10_ok : ∀ k, k < 0 → parseFieldDescriptor (TJ10 k).2.2.1 = some (tyJ10 k) := by decide +kernel
def RJ7 : String := "java/util/Arrays"
def TJ7 : u_T := fun k => match k with
  | _ => ("", "", "", false)
def tyJ7 : Nat → FieldType := fun k => match k with
  | _ => .int
abbrev wsJ70 : List Cond := u_ws RJ7 TJ7 0
theorem nmJ7 : ∀ a, a < 0 → ∀ b, b < 0 → a ≠ b → (TJ7 a).2.1 ≠ (TJ7 b).2.1 := by decide +kernel
theorem tyJ7_ok : ∀ k, k < 0 → parseFieldDescriptor (TJ7 k).2.2.1 = some (tyJ7 k) := by decide +kernel
abbrev cJ7_fill_d0a16 : ByteArray := prog_22_method_101_code
def yJ7_fill_d0a16 : MethodName := ⟨RJ7, "fill", "([JJ)V"⟩
abbrev cJ7_fill_53178 : ByteArray := prog_22_method_103_code
def yJ7_fill_53178 : MethodName := ⟨RJ7, "fill", "([II)V"⟩
def RL : String := "FairSlotsLaw"
abbrev cL_task : ByteArray := method_3_code
def yL_task : MethodName := ⟨RL, "task", "(LFairSlots;II[J)I"⟩
abbrev cL_part : ByteArray := method_4_code
def yL_part : MethodName := ⟨RL, "part", "(LFairSlots;III[J)I"⟩
abbrev cL_row : ByteArray := method_5_code
def yL_row : MethodName := ⟨RL, "row", "(LFairSlots;I[J)I"⟩
abbrev cL_law : ByteArray := code
def yL_law : MethodName := ⟨RL, "law", "([I)Z"⟩
