section
-- ===== PART A: goes FIRST, ahead of the names: the tables' words, and 'selects' of the private methods out of them =====
/-- a private method of a class that the tables say can be made, by its rows of tables_1 -/
def lw_okq (q : MethodName × Nat) : Prop := (q.1.cls ≠ "java/lang/invoke/MethodHandle" ∧ q.1.cls ≠ "java/lang/invoke/VarHandle") ∧ Cond.instantiable q.1.cls q.2 ∈ tables_1 ∧ Cond.privateMethod q.1 ∈ tables_1 ∧ Cond.instanceMethod q.1 ∈ tables_1
theorem lw_p0 : lw_okq (⟨"FairSlots$Scroll", "readLine", "(LFairSlots$World;)I"⟩, 4) := ⟨⟨by decide +kernel, by decide +kernel⟩, List.mem_of_getElem? (i := 144) (by decide +kernel), List.mem_of_getElem? (i := 368) (by decide +kernel), List.mem_of_getElem? (i := 369) (by decide +kernel)⟩
theorem lw_p1 : lw_okq (⟨"FairSlots$Scroll", "readNumber", "()I"⟩, 4) := ⟨⟨by decide +kernel, by decide +kernel⟩, List.mem_of_getElem? (i := 144) (by decide +kernel), List.mem_of_getElem? (i := 376) (by decide +kernel), List.mem_of_getElem? (i := 377) (by decide +kernel)⟩
theorem lw_p2 : lw_okq (⟨"FairSlots$World", "lookAtNext", "(I)V"⟩, 17) := ⟨⟨by decide +kernel, by decide +kernel⟩, List.mem_of_getElem? (i := 31) (by decide +kernel), List.mem_of_getElem? (i := 392) (by decide +kernel), List.mem_of_getElem? (i := 393) (by decide +kernel)⟩
theorem lw_p3 : lw_okq (⟨"FairSlots", "rememberedIfDone", "(I)I"⟩, 14) := ⟨⟨by decide +kernel, by decide +kernel⟩, List.mem_of_getElem? (i := 23) (by decide +kernel), List.mem_of_getElem? (i := 523) (by decide +kernel), List.mem_of_getElem? (i := 524) (by decide +kernel)⟩
theorem lw_p4 : lw_okq (⟨"FairSlots$World", "mayLeaveFrom", "(I)I"⟩, 17) := ⟨⟨by decide +kernel, by decide +kernel⟩, List.mem_of_getElem? (i := 31) (by decide +kernel), List.mem_of_getElem? (i := 535) (by decide +kernel), List.mem_of_getElem? (i := 536) (by decide +kernel)⟩
theorem lw_p5 : lw_okq (⟨"FairSlots", "answerOfAct", "(I)I"⟩, 14) := ⟨⟨by decide +kernel, by decide +kernel⟩, List.mem_of_getElem? (i := 23) (by decide +kernel), List.mem_of_getElem? (i := 575) (by decide +kernel), List.mem_of_getElem? (i := 576) (by decide +kernel)⟩
theorem lw_p6 : lw_okq (⟨"FairSlots", "countPairs", "(I)V"⟩, 14) := ⟨⟨by decide +kernel, by decide +kernel⟩, List.mem_of_getElem? (i := 23) (by decide +kernel), List.mem_of_getElem? (i := 672) (by decide +kernel), List.mem_of_getElem? (i := 673) (by decide +kernel)⟩
theorem lw_p7 : lw_okq (⟨"FairSlots$Stream", "gatherOf", "(LFairSlots$World;II)I"⟩, 7) := ⟨⟨by decide +kernel, by decide +kernel⟩, List.mem_of_getElem? (i := 263) (by decide +kernel), List.mem_of_getElem? (i := 701) (by decide +kernel), List.mem_of_getElem? (i := 702) (by decide +kernel)⟩
theorem lw_p8 : lw_okq (⟨"FairSlots$Stream", "findPlace", "(II)Z"⟩, 7) := ⟨⟨by decide +kernel, by decide +kernel⟩, List.mem_of_getElem? (i := 263) (by decide +kernel), List.mem_of_getElem? (i := 715) (by decide +kernel), List.mem_of_getElem? (i := 716) (by decide +kernel)⟩
theorem lw_p9 : lw_okq (⟨"FairSlots$Stream", "reach", "(II)V"⟩, 7) := ⟨⟨by decide +kernel, by decide +kernel⟩, List.mem_of_getElem? (i := 263) (by decide +kernel), List.mem_of_getElem? (i := 719) (by decide +kernel), List.mem_of_getElem? (i := 720) (by decide +kernel)⟩
theorem lw_p10 : lw_okq (⟨"FairSlots$Stream", "goOnFromPart", "(I)V"⟩, 7) := ⟨⟨by decide +kernel, by decide +kernel⟩, List.mem_of_getElem? (i := 263) (by decide +kernel), List.mem_of_getElem? (i := 723) (by decide +kernel), List.mem_of_getElem? (i := 724) (by decide +kernel)⟩
theorem lw_p11 : lw_okq (⟨"FairSlots$Stream", "goOnFromPlace", "(I)V"⟩, 7) := ⟨⟨by decide +kernel, by decide +kernel⟩, List.mem_of_getElem? (i := 263) (by decide +kernel), List.mem_of_getElem? (i := 727) (by decide +kernel), List.mem_of_getElem? (i := 728) (by decide +kernel)⟩
theorem lw_p12 : lw_okq (⟨"FairSlots$Stream", "settle", "(I)V"⟩, 7) := ⟨⟨by decide +kernel, by decide +kernel⟩, List.mem_of_getElem? (i := 263) (by decide +kernel), List.mem_of_getElem? (i := 731) (by decide +kernel), List.mem_of_getElem? (i := 732) (by decide +kernel)⟩
theorem lw_p13 : lw_okq (⟨"FairSlots$Stream", "goOnFromSlot", "(I)V"⟩, 7) := ⟨⟨by decide +kernel, by decide +kernel⟩, List.mem_of_getElem? (i := 263) (by decide +kernel), List.mem_of_getElem? (i := 735) (by decide +kernel), List.mem_of_getElem? (i := 736) (by decide +kernel)⟩
theorem lw_p14 : lw_okq (⟨"FairSlots", "missesWhenKept", "(II)Z"⟩, 14) := ⟨⟨by decide +kernel, by decide +kernel⟩, List.mem_of_getElem? (i := 23) (by decide +kernel), List.mem_of_getElem? (i := 743) (by decide +kernel), List.mem_of_getElem? (i := 744) (by decide +kernel)⟩
theorem lw_p15 : lw_okq (⟨"FairSlots", "firstMissBy", "(LFairSlots$Ties;)I"⟩, 14) := ⟨⟨by decide +kernel, by decide +kernel⟩, List.mem_of_getElem? (i := 23) (by decide +kernel), List.mem_of_getElem? (i := 865) (by decide +kernel), List.mem_of_getElem? (i := 866) (by decide +kernel)⟩
def lw_privs_1 : List (MethodName × Nat) := [(⟨"FairSlots$Scroll", "readLine", "(LFairSlots$World;)I"⟩, 4), (⟨"FairSlots$Scroll", "readNumber", "()I"⟩, 4), (⟨"FairSlots$World", "lookAtNext", "(I)V"⟩, 17), (⟨"FairSlots", "rememberedIfDone", "(I)I"⟩, 14), (⟨"FairSlots$World", "mayLeaveFrom", "(I)I"⟩, 17), (⟨"FairSlots", "answerOfAct", "(I)I"⟩, 14), (⟨"FairSlots", "countPairs", "(I)V"⟩, 14), (⟨"FairSlots$Stream", "gatherOf", "(LFairSlots$World;II)I"⟩, 7), (⟨"FairSlots$Stream", "findPlace", "(II)Z"⟩, 7), (⟨"FairSlots$Stream", "reach", "(II)V"⟩, 7), (⟨"FairSlots$Stream", "goOnFromPart", "(I)V"⟩, 7), (⟨"FairSlots$Stream", "goOnFromPlace", "(I)V"⟩, 7), (⟨"FairSlots$Stream", "settle", "(I)V"⟩, 7), (⟨"FairSlots$Stream", "goOnFromSlot", "(I)V"⟩, 7), (⟨"FairSlots", "missesWhenKept", "(II)Z"⟩, 14), (⟨"FairSlots", "firstMissBy", "(LFairSlots$Ties;)I"⟩, 14)]
theorem lw_r1 : ∀ q ∈ lw_privs_1, lw_okq q := List.forall_mem_cons.mpr ⟨lw_p0, List.forall_mem_cons.mpr ⟨lw_p1, List.forall_mem_cons.mpr ⟨lw_p2, List.forall_mem_cons.mpr ⟨lw_p3, List.forall_mem_cons.mpr ⟨lw_p4, List.forall_mem_cons.mpr ⟨lw_p5, List.forall_mem_cons.mpr ⟨lw_p6, List.forall_mem_cons.mpr ⟨lw_p7, List.forall_mem_cons.mpr ⟨lw_p8, List.forall_mem_cons.mpr ⟨lw_p9, List.forall_mem_cons.mpr ⟨lw_p10, List.forall_mem_cons.mpr ⟨lw_p11, List.forall_mem_cons.mpr ⟨lw_p12, List.forall_mem_cons.mpr ⟨lw_p13, List.forall_mem_cons.mpr ⟨lw_p14, List.forall_mem_cons.mpr ⟨lw_p15, fun _ h => absurd h List.not_mem_nil⟩⟩⟩⟩⟩⟩⟩⟩⟩⟩⟩⟩⟩⟩⟩⟩
theorem lw_p16 : lw_okq (⟨"java/lang/Throwable", "fillInStackTrace", "(I)Ljava/lang/Throwable;"⟩, 6) := ⟨⟨by decide +kernel, by decide +kernel⟩, List.mem_of_getElem? (i := 948) (by decide +kernel), List.mem_of_getElem? (i := 946) (by decide +kernel), List.mem_of_getElem? (i := 947) (by decide +kernel)⟩
theorem lw_p17 : lw_okq (⟨"FairSlotsModel", "beginText", "(I)V"⟩, 46) := ⟨⟨by decide +kernel, by decide +kernel⟩, List.mem_of_getElem? (i := 990) (by decide +kernel), List.mem_of_getElem? (i := 1155) (by decide +kernel), List.mem_of_getElem? (i := 1156) (by decide +kernel)⟩
theorem lw_p18 : lw_okq (⟨"FairSlotsModel", "begin", "([BII)V"⟩, 46) := ⟨⟨by decide +kernel, by decide +kernel⟩, List.mem_of_getElem? (i := 990) (by decide +kernel), List.mem_of_getElem? (i := 1159) (by decide +kernel), List.mem_of_getElem? (i := 1160) (by decide +kernel)⟩
theorem lw_p19 : lw_okq (⟨"FairSlotsModel", "fine", "()Z"⟩, 46) := ⟨⟨by decide +kernel, by decide +kernel⟩, List.mem_of_getElem? (i := 990) (by decide +kernel), List.mem_of_getElem? (i := 1170) (by decide +kernel), List.mem_of_getElem? (i := 1171) (by decide +kernel)⟩
theorem lw_p20 : lw_okq (⟨"FairSlotsModel", "fault", "(I)V"⟩, 46) := ⟨⟨by decide +kernel, by decide +kernel⟩, List.mem_of_getElem? (i := 990) (by decide +kernel), List.mem_of_getElem? (i := 1174) (by decide +kernel), List.mem_of_getElem? (i := 1175) (by decide +kernel)⟩
theorem lw_p21 : lw_okq (⟨"FairSlotsModel", "readLine", "(I)V"⟩, 46) := ⟨⟨by decide +kernel, by decide +kernel⟩, List.mem_of_getElem? (i := 990) (by decide +kernel), List.mem_of_getElem? (i := 1178) (by decide +kernel), List.mem_of_getElem? (i := 1179) (by decide +kernel)⟩
theorem lw_p22 : lw_okq (⟨"FairSlotsModel", "numberOf", "()I"⟩, 46) := ⟨⟨by decide +kernel, by decide +kernel⟩, List.mem_of_getElem? (i := 990) (by decide +kernel), List.mem_of_getElem? (i := 1182) (by decide +kernel), List.mem_of_getElem? (i := 1183) (by decide +kernel)⟩
theorem lw_p23 : lw_okq (⟨"FairSlotsModel", "oneOf", "(CI)I"⟩, 46) := ⟨⟨by decide +kernel, by decide +kernel⟩, List.mem_of_getElem? (i := 990) (by decide +kernel), List.mem_of_getElem? (i := 1186) (by decide +kernel), List.mem_of_getElem? (i := 1187) (by decide +kernel)⟩
theorem lw_p24 : lw_okq (⟨"FairSlotsModel", "here", "()I"⟩, 46) := ⟨⟨by decide +kernel, by decide +kernel⟩, List.mem_of_getElem? (i := 990) (by decide +kernel), List.mem_of_getElem? (i := 1190) (by decide +kernel), List.mem_of_getElem? (i := 1191) (by decide +kernel)⟩
theorem lw_p25 : lw_okq (⟨"FairSlotsModel", "passes", "(C)Z"⟩, 46) := ⟨⟨by decide +kernel, by decide +kernel⟩, List.mem_of_getElem? (i := 990) (by decide +kernel), List.mem_of_getElem? (i := 1194) (by decide +kernel), List.mem_of_getElem? (i := 1195) (by decide +kernel)⟩
theorem lw_p26 : lw_okq (⟨"FairSlotsModel", "wasRight", "()Z"⟩, 46) := ⟨⟨by decide +kernel, by decide +kernel⟩, List.mem_of_getElem? (i := 990) (by decide +kernel), List.mem_of_getElem? (i := 1198) (by decide +kernel), List.mem_of_getElem? (i := 1199) (by decide +kernel)⟩
theorem lw_p27 : lw_okq (⟨"FairSlotsModel", "layUse", "([I)V"⟩, 46) := ⟨⟨by decide +kernel, by decide +kernel⟩, List.mem_of_getElem? (i := 990) (by decide +kernel), List.mem_of_getElem? (i := 1205) (by decide +kernel), List.mem_of_getElem? (i := 1206) (by decide +kernel)⟩
theorem lw_p28 : lw_okq (⟨"FairSlotsModel", "remember", "([I)V"⟩, 46) := ⟨⟨by decide +kernel, by decide +kernel⟩, List.mem_of_getElem? (i := 990) (by decide +kernel), List.mem_of_getElem? (i := 1213) (by decide +kernel), List.mem_of_getElem? (i := 1214) (by decide +kernel)⟩
theorem lw_p29 : lw_okq (⟨"FairSlotsModel", "rightTies", "(I)I"⟩, 46) := ⟨⟨by decide +kernel, by decide +kernel⟩, List.mem_of_getElem? (i := 990) (by decide +kernel), List.mem_of_getElem? (i := 1221) (by decide +kernel), List.mem_of_getElem? (i := 1222) (by decide +kernel)⟩
theorem lw_p30 : lw_okq (⟨"FairSlotsModel", "isTask", "(I)Z"⟩, 46) := ⟨⟨by decide +kernel, by decide +kernel⟩, List.mem_of_getElem? (i := 990) (by decide +kernel), List.mem_of_getElem? (i := 1232) (by decide +kernel), List.mem_of_getElem? (i := 1233) (by decide +kernel)⟩
theorem lw_p31 : lw_okq (⟨"FairSlotsModel", "lost", "()I"⟩, 46) := ⟨⟨by decide +kernel, by decide +kernel⟩, List.mem_of_getElem? (i := 990) (by decide +kernel), List.mem_of_getElem? (i := 1236) (by decide +kernel), List.mem_of_getElem? (i := 1237) (by decide +kernel)⟩
def lw_privs_2 : List (MethodName × Nat) := [(⟨"java/lang/Throwable", "fillInStackTrace", "(I)Ljava/lang/Throwable;"⟩, 6), (⟨"FairSlotsModel", "beginText", "(I)V"⟩, 46), (⟨"FairSlotsModel", "begin", "([BII)V"⟩, 46), (⟨"FairSlotsModel", "fine", "()Z"⟩, 46), (⟨"FairSlotsModel", "fault", "(I)V"⟩, 46), (⟨"FairSlotsModel", "readLine", "(I)V"⟩, 46), (⟨"FairSlotsModel", "numberOf", "()I"⟩, 46), (⟨"FairSlotsModel", "oneOf", "(CI)I"⟩, 46), (⟨"FairSlotsModel", "here", "()I"⟩, 46), (⟨"FairSlotsModel", "passes", "(C)Z"⟩, 46), (⟨"FairSlotsModel", "wasRight", "()Z"⟩, 46), (⟨"FairSlotsModel", "layUse", "([I)V"⟩, 46), (⟨"FairSlotsModel", "remember", "([I)V"⟩, 46), (⟨"FairSlotsModel", "rightTies", "(I)I"⟩, 46), (⟨"FairSlotsModel", "isTask", "(I)Z"⟩, 46), (⟨"FairSlotsModel", "lost", "()I"⟩, 46)]
theorem lw_r2 : ∀ q ∈ lw_privs_2, lw_okq q := List.forall_mem_cons.mpr ⟨lw_p16, List.forall_mem_cons.mpr ⟨lw_p17, List.forall_mem_cons.mpr ⟨lw_p18, List.forall_mem_cons.mpr ⟨lw_p19, List.forall_mem_cons.mpr ⟨lw_p20, List.forall_mem_cons.mpr ⟨lw_p21, List.forall_mem_cons.mpr ⟨lw_p22, List.forall_mem_cons.mpr ⟨lw_p23, List.forall_mem_cons.mpr ⟨lw_p24, List.forall_mem_cons.mpr ⟨lw_p25, List.forall_mem_cons.mpr ⟨lw_p26, List.forall_mem_cons.mpr ⟨lw_p27, List.forall_mem_cons.mpr ⟨lw_p28, List.forall_mem_cons.mpr ⟨lw_p29, List.forall_mem_cons.mpr ⟨lw_p30, List.forall_mem_cons.mpr ⟨lw_p31, fun _ h => absurd h List.not_mem_nil⟩⟩⟩⟩⟩⟩⟩⟩⟩⟩⟩⟩⟩⟩⟩⟩
theorem lw_p32 : lw_okq (⟨"FairSlotsModel", "goSlot", "([II)I"⟩, 46) := ⟨⟨by decide +kernel, by decide +kernel⟩, List.mem_of_getElem? (i := 990) (by decide +kernel), List.mem_of_getElem? (i := 1267) (by decide +kernel), List.mem_of_getElem? (i := 1268) (by decide +kernel)⟩
theorem lw_p33 : lw_okq (⟨"FairSlotsModel", "layOrder", "([II)I"⟩, 46) := ⟨⟨by decide +kernel, by decide +kernel⟩, List.mem_of_getElem? (i := 990) (by decide +kernel), List.mem_of_getElem? (i := 1271) (by decide +kernel), List.mem_of_getElem? (i := 1272) (by decide +kernel)⟩
theorem lw_p34 : lw_okq (⟨"FairSlotsModel", "isAhead", "([III)Z"⟩, 46) := ⟨⟨by decide +kernel, by decide +kernel⟩, List.mem_of_getElem? (i := 990) (by decide +kernel), List.mem_of_getElem? (i := 1281) (by decide +kernel), List.mem_of_getElem? (i := 1282) (by decide +kernel)⟩
theorem lw_p35 : lw_okq (⟨"FairSlotsModel", "tell", "(J)V"⟩, 46) := ⟨⟨by decide +kernel, by decide +kernel⟩, List.mem_of_getElem? (i := 990) (by decide +kernel), List.mem_of_getElem? (i := 1289) (by decide +kernel), List.mem_of_getElem? (i := 1290) (by decide +kernel)⟩
theorem lw_p36 : lw_okq (⟨"FairSlotsModel", "goSlots", "([II)I"⟩, 46) := ⟨⟨by decide +kernel, by decide +kernel⟩, List.mem_of_getElem? (i := 990) (by decide +kernel), List.mem_of_getElem? (i := 1297) (by decide +kernel), List.mem_of_getElem? (i := 1298) (by decide +kernel)⟩
theorem lw_p37 : lw_okq (⟨"FairSlotsModel", "refusesProcessors", "(I)I"⟩, 46) := ⟨⟨by decide +kernel, by decide +kernel⟩, List.mem_of_getElem? (i := 990) (by decide +kernel), List.mem_of_getElem? (i := 1305) (by decide +kernel), List.mem_of_getElem? (i := 1306) (by decide +kernel)⟩
theorem lw_p38 : lw_okq (⟨"FairSlotsModel", "readAct", "(I)V"⟩, 46) := ⟨⟨by decide +kernel, by decide +kernel⟩, List.mem_of_getElem? (i := 990) (by decide +kernel), List.mem_of_getElem? (i := 1327) (by decide +kernel), List.mem_of_getElem? (i := 1328) (by decide +kernel)⟩
theorem lw_p39 : lw_okq (⟨"FairSlotsModel", "act", "(II)Z"⟩, 46) := ⟨⟨by decide +kernel, by decide +kernel⟩, List.mem_of_getElem? (i := 990) (by decide +kernel), List.mem_of_getElem? (i := 1331) (by decide +kernel), List.mem_of_getElem? (i := 1332) (by decide +kernel)⟩
theorem lw_p40 : lw_okq (⟨"FairSlotsModel", "tellPart", "(JJ)V"⟩, 46) := ⟨⟨by decide +kernel, by decide +kernel⟩, List.mem_of_getElem? (i := 990) (by decide +kernel), List.mem_of_getElem? (i := 1346) (by decide +kernel), List.mem_of_getElem? (i := 1347) (by decide +kernel)⟩
theorem lw_p41 : lw_okq (⟨"FairSlotsModel", "layDue", "(I)V"⟩, 46) := ⟨⟨by decide +kernel, by decide +kernel⟩, List.mem_of_getElem? (i := 990) (by decide +kernel), List.mem_of_getElem? (i := 1402) (by decide +kernel), List.mem_of_getElem? (i := 1403) (by decide +kernel)⟩
theorem lw_p42 : lw_okq (⟨"FairSlotsModel", "finds", "(I)Z"⟩, 46) := ⟨⟨by decide +kernel, by decide +kernel⟩, List.mem_of_getElem? (i := 990) (by decide +kernel), List.mem_of_getElem? (i := 1406) (by decide +kernel), List.mem_of_getElem? (i := 1407) (by decide +kernel)⟩
theorem lw_p43 : lw_okq (⟨"FairSlotsModel", "hasRoom", "(I)Z"⟩, 46) := ⟨⟨by decide +kernel, by decide +kernel⟩, List.mem_of_getElem? (i := 990) (by decide +kernel), List.mem_of_getElem? (i := 1410) (by decide +kernel), List.mem_of_getElem? (i := 1411) (by decide +kernel)⟩
theorem lw_p44 : lw_okq (⟨"FairSlotsModel", "fitting", "()I"⟩, 46) := ⟨⟨by decide +kernel, by decide +kernel⟩, List.mem_of_getElem? (i := 990) (by decide +kernel), List.mem_of_getElem? (i := 1444) (by decide +kernel), List.mem_of_getElem? (i := 1445) (by decide +kernel)⟩
theorem lw_p45 : lw_okq (⟨"FairSlotsModel", "isSo", "(III)Z"⟩, 46) := ⟨⟨by decide +kernel, by decide +kernel⟩, List.mem_of_getElem? (i := 990) (by decide +kernel), List.mem_of_getElem? (i := 1448) (by decide +kernel), List.mem_of_getElem? (i := 1449) (by decide +kernel)⟩
theorem lw_p46 : lw_okq (⟨"FairSlotsModel", "isWeight", "(II)Z"⟩, 46) := ⟨⟨by decide +kernel, by decide +kernel⟩, List.mem_of_getElem? (i := 990) (by decide +kernel), List.mem_of_getElem? (i := 1469) (by decide +kernel), List.mem_of_getElem? (i := 1470) (by decide +kernel)⟩
theorem lw_p47 : lw_okq (⟨"FairSlotsModel", "take", "(I)I"⟩, 46) := ⟨⟨by decide +kernel, by decide +kernel⟩, List.mem_of_getElem? (i := 990) (by decide +kernel), List.mem_of_getElem? (i := 1486) (by decide +kernel), List.mem_of_getElem? (i := 1487) (by decide +kernel)⟩
def lw_privs_3 : List (MethodName × Nat) := [(⟨"FairSlotsModel", "goSlot", "([II)I"⟩, 46), (⟨"FairSlotsModel", "layOrder", "([II)I"⟩, 46), (⟨"FairSlotsModel", "isAhead", "([III)Z"⟩, 46), (⟨"FairSlotsModel", "tell", "(J)V"⟩, 46), (⟨"FairSlotsModel", "goSlots", "([II)I"⟩, 46), (⟨"FairSlotsModel", "refusesProcessors", "(I)I"⟩, 46), (⟨"FairSlotsModel", "readAct", "(I)V"⟩, 46), (⟨"FairSlotsModel", "act", "(II)Z"⟩, 46), (⟨"FairSlotsModel", "tellPart", "(JJ)V"⟩, 46), (⟨"FairSlotsModel", "layDue", "(I)V"⟩, 46), (⟨"FairSlotsModel", "finds", "(I)Z"⟩, 46), (⟨"FairSlotsModel", "hasRoom", "(I)Z"⟩, 46), (⟨"FairSlotsModel", "fitting", "()I"⟩, 46), (⟨"FairSlotsModel", "isSo", "(III)Z"⟩, 46), (⟨"FairSlotsModel", "isWeight", "(II)Z"⟩, 46), (⟨"FairSlotsModel", "take", "(I)I"⟩, 46)]
theorem lw_r3 : ∀ q ∈ lw_privs_3, lw_okq q := List.forall_mem_cons.mpr ⟨lw_p32, List.forall_mem_cons.mpr ⟨lw_p33, List.forall_mem_cons.mpr ⟨lw_p34, List.forall_mem_cons.mpr ⟨lw_p35, List.forall_mem_cons.mpr ⟨lw_p36, List.forall_mem_cons.mpr ⟨lw_p37, List.forall_mem_cons.mpr ⟨lw_p38, List.forall_mem_cons.mpr ⟨lw_p39, List.forall_mem_cons.mpr ⟨lw_p40, List.forall_mem_cons.mpr ⟨lw_p41, List.forall_mem_cons.mpr ⟨lw_p42, List.forall_mem_cons.mpr ⟨lw_p43, List.forall_mem_cons.mpr ⟨lw_p44, List.forall_mem_cons.mpr ⟨lw_p45, List.forall_mem_cons.mpr ⟨lw_p46, List.forall_mem_cons.mpr ⟨lw_p47, fun _ h => absurd h List.not_mem_nil⟩⟩⟩⟩⟩⟩⟩⟩⟩⟩⟩⟩⟩⟩⟩⟩
theorem lw_p48 : lw_okq (⟨"FairSlotsModel", "lay60", "()I"⟩, 46) := ⟨⟨by decide +kernel, by decide +kernel⟩, List.mem_of_getElem? (i := 990) (by decide +kernel), List.mem_of_getElem? (i := 1504) (by decide +kernel), List.mem_of_getElem? (i := 1505) (by decide +kernel)⟩
theorem lw_p49 : lw_okq (⟨"FairSlotsModel", "draw", "(I)I"⟩, 46) := ⟨⟨by decide +kernel, by decide +kernel⟩, List.mem_of_getElem? (i := 990) (by decide +kernel), List.mem_of_getElem? (i := 1512) (by decide +kernel), List.mem_of_getElem? (i := 1513) (by decide +kernel)⟩
def lw_privs_4 : List (MethodName × Nat) := [(⟨"FairSlotsModel", "lay60", "()I"⟩, 46), (⟨"FairSlotsModel", "draw", "(I)I"⟩, 46)]
theorem lw_r4 : ∀ q ∈ lw_privs_4, lw_okq q := List.forall_mem_cons.mpr ⟨lw_p48, List.forall_mem_cons.mpr ⟨lw_p49, fun _ h => absurd h List.not_mem_nil⟩⟩
def lw_privs : List (MethodName × Nat) := lw_privs_1 ++ (lw_privs_2 ++ (lw_privs_3 ++ (lw_privs_4)))
def lw_tbl : List Cond := k2_sels lw_privs ++ tables_1
theorem lw_privs_ok : ∀ q ∈ lw_privs, lw_okq q := by
  show ∀ q ∈ lw_privs_1 ++ (lw_privs_2 ++ (lw_privs_3 ++ (lw_privs_4))), lw_okq q
  exact List.forall_mem_append.mpr ⟨lw_r1, List.forall_mem_append.mpr ⟨lw_r2, List.forall_mem_append.mpr ⟨lw_r3, lw_r4⟩⟩⟩
def RX0 : String := "FairSlots$Extremes"
def TX0 : u_T := fun k => match k with
  | 0 => ("FairSlots$Extremes", "task", "I", false)
  | 1 => ("FairSlots$Extremes", "behind", "I", false)
  | 2 => ("FairSlots$Extremes", "mostUpper", "J", false)
  | 3 => ("FairSlots$Extremes", "mostLower", "J", false)
  | 4 => ("FairSlots$Extremes", "leastUpper", "J", false)
  | _ => ("FairSlots$Extremes", "leastLower", "J", false)
def tyX0 : Nat → FieldType := fun k => match k with
  | 0 => .int
  | 1 => .int
  | 2 => .long
  | 3 => .long
  | 4 => .long
  | _ => .long
abbrev wsX00 : List Cond := u_ws RX0 TX0 6
theorem nmX0 : ∀ a, a < 6 → ∀ b, b < 6 → a ≠ b → (TX0 a).2.1 ≠ (TX0 b).2.1 := by decide +kernel
theorem tyX0_ok : ∀ k, k < 6 → parseFieldDescriptor (TX0 k).2.2.1 = some (tyX0 k) := by decide +kernel
abbrev cX0_init : ByteArray := prog_2_method_1_code
def yX0_init : MethodName := ⟨RX0, "<init>", "()V"⟩
abbrev cX0_clear : ByteArray := prog_2_method_2_code
def yX0_clear : MethodName := ⟨RX0, "clear", "()V"⟩
abbrev cX0_take : ByteArray := prog_2_method_3_code
def yX0_take : MethodName := ⟨RX0, "take", "(IIJJ)V"⟩
def RX1 : String := "FairSlots$Hearsay"
def TX1 : u_T := fun k => match k with
  | 0 => ("FairSlots$Hearsay", "whats", "[I", true)
  | 1 => ("FairSlots$Hearsay", "values", "[I", true)
  | _ => ("FairSlots$Hearsay", "size", "I", false)
def tyX1 : Nat → FieldType := fun k => match k with
  | 0 => .array .int
  | 1 => .array .int
  | _ => .int
abbrev wsX10 : List Cond := u_ws RX1 TX1 3
theorem nmX1 : ∀ a, a < 3 → ∀ b, b < 3 → a ≠ b → (TX1 a).2.1 ≠ (TX1 b).2.1 := by decide +kernel
theorem tyX1_ok : ∀ k, k < 3 → parseFieldDescriptor (TX1 k).2.2.1 = some (tyX1 k) := by decide +kernel
abbrev cX1_init : ByteArray := prog_3_method_1_code
def yX1_init : MethodName := ⟨RX1, "<init>", "()V"⟩
abbrev cX1_add : ByteArray := prog_3_method_2_code
def yX1_add : MethodName := ⟨RX1, "add", "(II)I"⟩
abbrev cX1_clear : ByteArray := prog_3_method_3_code
def yX1_clear : MethodName := ⟨RX1, "clear", "()I"⟩
abbrev cX1_fitting : ByteArray := prog_3_method_4_code
def yX1_fitting : MethodName := ⟨RX1, "fitting", "(LFairSlots$World;)I"⟩
abbrev cX1_whereSo : ByteArray := prog_3_method_5_code
def yX1_whereSo : MethodName := ⟨RX1, "whereSo", "(LFairSlots$World;III)I"⟩
abbrev cX1_isSo : ByteArray := prog_3_method_6_code
def yX1_isSo : MethodName := ⟨RX1, "isSo", "(LFairSlots$World;III)Z"⟩
def RX2 : String := "FairSlots$Parts"
def TX2 : u_T := fun k => match k with
  | _ => ("", "", "", false)
def tyX2 : Nat → FieldType := fun k => match k with
  | _ => .int
abbrev wsX20 : List Cond := u_ws RX2 TX2 0
theorem nmX2 : ∀ a, a < 0 → ∀ b, b < 0 → a ≠ b → (TX2 a).2.1 ≠ (TX2 b).2.1 := by decide +kernel
theorem tyX2_ok : ∀ k, k < 0 → parseFieldDescriptor (TX2 k).2.2.1 = some (tyX2 k) := by decide +kernel
abbrev cX2_release : ByteArray := prog_4_method_2_code
def yX2_release : MethodName := ⟨RX2, "release", "(III)I"⟩
abbrev cX2_deadline : ByteArray := prog_4_method_3_code
def yX2_deadline : MethodName := ⟨RX2, "deadline", "(III)I"⟩
abbrev cX2_overlap : ByteArray := prog_4_method_4_code
def yX2_overlap : MethodName := ⟨RX2, "overlap", "(III)I"⟩
abbrev cX2_group : ByteArray := prog_4_method_5_code
def yX2_group : MethodName := ⟨RX2, "group", "(III)I"⟩
def RX3 : String := "FairSlots$Past"
def TX3 : u_T := fun k => match k with
  | 0 => ("FairSlots$Past", "ring", "[LFairSlots$World;", true)
  | 1 => ("FairSlots$Past", "oldest", "I", false)
  | 2 => ("FairSlots$Past", "size", "I", false)
  | 3 => ("FairSlots$Past", "kept", "[LFairSlots$World;", true)
  | _ => ("FairSlots$Past", "isKept", "[Z", true)
def tyX3 : Nat → FieldType := fun k => match k with
  | 0 => .array (.object "FairSlots$World")
  | 1 => .int
  | 2 => .int
  | 3 => .array (.object "FairSlots$World")
  | _ => .array .boolean
abbrev wsX30 : List Cond := u_ws RX3 TX3 5
theorem nmX3 : ∀ a, a < 5 → ∀ b, b < 5 → a ≠ b → (TX3 a).2.1 ≠ (TX3 b).2.1 := by decide +kernel
theorem tyX3_ok : ∀ k, k < 5 → parseFieldDescriptor (TX3 k).2.2.1 = some (tyX3 k) := by decide +kernel
abbrev cX3_init : ByteArray := prog_5_method_1_code
def yX3_init : MethodName := ⟨RX3, "<init>", "()V"⟩
abbrev cX3_remember : ByteArray := prog_5_method_2_code
def yX3_remember : MethodName := ⟨RX3, "remember", "(LFairSlots$World;)V"⟩
abbrev cX3_bringBack : ByteArray := prog_5_method_3_code
def yX3_bringBack : MethodName := ⟨RX3, "bringBack", "(LFairSlots$World;)I"⟩
abbrev cX3_keepUnder : ByteArray := prog_5_method_4_code
def yX3_keepUnder : MethodName := ⟨RX3, "keepUnder", "(ILFairSlots$World;)Z"⟩
abbrev cX3_bringKept : ByteArray := prog_5_method_5_code
def yX3_bringKept : MethodName := ⟨RX3, "bringKept", "(ILFairSlots$World;)Z"⟩
def RX4 : String := "FairSlots$Row"
def TX4 : u_T := fun k => match k with
  | 0 => ("FairSlots$Row", "numbers", "[J", true)
  | _ => ("FairSlots$Row", "size", "I", false)
def tyX4 : Nat → FieldType := fun k => match k with
  | 0 => .array .long
  | _ => .int
abbrev wsX40 : List Cond := u_ws RX4 TX4 2
theorem nmX4 : ∀ a, a < 2 → ∀ b, b < 2 → a ≠ b → (TX4 a).2.1 ≠ (TX4 b).2.1 := by decide +kernel
theorem tyX4_ok : ∀ k, k < 2 → parseFieldDescriptor (TX4 k).2.2.1 = some (tyX4 k) := by decide +kernel
abbrev cX4_init : ByteArray := prog_6_method_1_code
def yX4_init : MethodName := ⟨RX4, "<init>", "()V"⟩
abbrev cX4_clear : ByteArray := prog_6_method_2_code
def yX4_clear : MethodName := ⟨RX4, "clear", "()V"⟩
abbrev cX4_add : ByteArray := prog_6_method_3_code
def yX4_add : MethodName := ⟨RX4, "add", "(J)V"⟩
abbrev cX4_addFraction : ByteArray := prog_6_method_4_code
def yX4_addFraction : MethodName := ⟨RX4, "addFraction", "(JJ)V"⟩
abbrev cX4_commonDivisor : ByteArray := prog_6_method_5_code
def yX4_commonDivisor : MethodName := ⟨RX4, "commonDivisor", "(JJ)J"⟩
def RX5 : String := "FairSlots$Scroll"
def TX5 : u_T := fun k => match k with
  | 0 => ("FairSlots$Scroll", "signs", "[C", true)
  | 1 => ("FairSlots$Scroll", "size", "I", false)
  | 2 => ("FairSlots$Scroll", "place", "I", false)
  | _ => ("FairSlots$Scroll", "bound", "I", false)
def tyX5 : Nat → FieldType := fun k => match k with
  | 0 => .array .char
  | 1 => .int
  | 2 => .int
  | _ => .int
abbrev wsX50 : List Cond := u_ws RX5 TX5 4
theorem nmX5 : ∀ a, a < 4 → ∀ b, b < 4 → a ≠ b → (TX5 a).2.1 ≠ (TX5 b).2.1 := by decide +kernel
theorem tyX5_ok : ∀ k, k < 4 → parseFieldDescriptor (TX5 k).2.2.1 = some (tyX5 k) := by decide +kernel
abbrev cX5_init : ByteArray := prog_7_method_1_code
def yX5_init : MethodName := ⟨RX5, "<init>", "()V"⟩
abbrev cX5_append : ByteArray := prog_7_method_2_code
def yX5_append : MethodName := ⟨RX5, "append", "(I)I"⟩
abbrev cX5_cutTo : ByteArray := prog_7_method_3_code
def yX5_cutTo : MethodName := ⟨RX5, "cutTo", "(I)Z"⟩
abbrev cX5_clear : ByteArray := prog_7_method_4_code
def yX5_clear : MethodName := ⟨RX5, "clear", "()V"⟩
abbrev cX5_signAt : ByteArray := prog_7_method_5_code
def yX5_signAt : MethodName := ⟨RX5, "signAt", "(I)I"⟩
abbrev cX5_digitAt : ByteArray := prog_7_method_6_code
def yX5_digitAt : MethodName := ⟨RX5, "digitAt", "(I)I"⟩
abbrev cX5_readTies : ByteArray := prog_7_method_7_code
def yX5_readTies : MethodName := ⟨RX5, "readTies", "(LFairSlots$Ties;)I"⟩
abbrev cX5_readLines : ByteArray := prog_7_method_8_code
def yX5_readLines : MethodName := ⟨RX5, "readLines", "(LFairSlots$World;)I"⟩
abbrev cX5_readLine : ByteArray := prog_7_method_9_code
def yX5_readLine : MethodName := ⟨RX5, "readLine", "(LFairSlots$World;)I"⟩
abbrev cX5_readNumber : ByteArray := prog_7_method_10_code
def yX5_readNumber : MethodName := ⟨RX5, "readNumber", "()I"⟩
abbrev cX5_actLength : ByteArray := prog_7_method_11_code
def yX5_actLength : MethodName := ⟨RX5, "actLength", "(I)I"⟩
abbrev cX5_firstBadAct : ByteArray := prog_7_method_12_code
def yX5_firstBadAct : MethodName := ⟨RX5, "firstBadAct", "()I"⟩
def RX6 : String := "FairSlots$Sightings"
def TX6 : u_T := fun k => match k with
  | 0 => ("FairSlots$Sightings", "parts", "[I", true)
  | 1 => ("FairSlots$Sightings", "releases", "[I", true)
  | 2 => ("FairSlots$Sightings", "alike", "[I", true)
  | _ => ("FairSlots$Sightings", "size", "I", false)
def tyX6 : Nat → FieldType := fun k => match k with
  | 0 => .array .int
  | 1 => .array .int
  | 2 => .array .int
  | _ => .int
abbrev wsX60 : List Cond := u_ws RX6 TX6 4
theorem nmX6 : ∀ a, a < 4 → ∀ b, b < 4 → a ≠ b → (TX6 a).2.1 ≠ (TX6 b).2.1 := by decide +kernel
theorem tyX6_ok : ∀ k, k < 4 → parseFieldDescriptor (TX6 k).2.2.1 = some (tyX6 k) := by decide +kernel
abbrev cX6_init : ByteArray := prog_8_method_1_code
def yX6_init : MethodName := ⟨RX6, "<init>", "()V"⟩
abbrev cX6_add : ByteArray := prog_8_method_2_code
def yX6_add : MethodName := ⟨RX6, "add", "(II)I"⟩
abbrev cX6_clear : ByteArray := prog_8_method_3_code
def yX6_clear : MethodName := ⟨RX6, "clear", "()I"⟩
abbrev cX6_fit : ByteArray := prog_8_method_4_code
def yX6_fit : MethodName := ⟨RX6, "fit", "(II)Z"⟩
abbrev cX6_mostAlike : ByteArray := prog_8_method_5_code
def yX6_mostAlike : MethodName := ⟨RX6, "mostAlike", "(I)I"⟩
def RX7 : String := "FairSlots$Stream"
def TX7 : u_T := fun k => match k with
  | 0 => ("FairSlots$Stream", "from", "[I", true)
  | 1 => ("FairSlots$Stream", "till", "[I", true)
  | 2 => ("FairSlots$Stream", "partIn", "[I", true)
  | 3 => ("FairSlots$Stream", "loads", "[I", true)
  | 4 => ("FairSlots$Stream", "cameFrom", "[I", true)
  | 5 => ("FairSlots$Stream", "queue", "[I", true)
  | _ => ("FairSlots$Stream", "queued", "I", false)
def tyX7 : Nat → FieldType := fun k => match k with
  | 0 => .array .int
  | 1 => .array .int
  | 2 => .array .int
  | 3 => .array .int
  | 4 => .array .int
  | 5 => .array .int
  | _ => .int
abbrev wsX70 : List Cond := u_ws RX7 TX7 7
theorem nmX7 : ∀ a, a < 7 → ∀ b, b < 7 → a ≠ b → (TX7 a).2.1 ≠ (TX7 b).2.1 := by decide +kernel
theorem tyX7_ok : ∀ k, k < 7 → parseFieldDescriptor (TX7 k).2.2.1 = some (tyX7 k) := by decide +kernel
abbrev cX7_init : ByteArray := prog_9_method_1_code
def yX7_init : MethodName := ⟨RX7, "<init>", "()V"⟩
abbrev cX7_gather : ByteArray := prog_9_method_2_code
def yX7_gather : MethodName := ⟨RX7, "gather", "(LFairSlots$World;I)I"⟩
abbrev cX7_gatherOf : ByteArray := prog_9_method_3_code
def yX7_gatherOf : MethodName := ⟨RX7, "gatherOf", "(LFairSlots$World;II)I"⟩
abbrev cX7_greatest : ByteArray := prog_9_method_4_code
def yX7_greatest : MethodName := ⟨RX7, "greatest", "(I)I"⟩
abbrev cX7_findPlace : ByteArray := prog_9_method_5_code
def yX7_findPlace : MethodName := ⟨RX7, "findPlace", "(II)Z"⟩
abbrev cX7_reach : ByteArray := prog_9_method_6_code
def yX7_reach : MethodName := ⟨RX7, "reach", "(II)V"⟩
abbrev cX7_goOnFromPart : ByteArray := prog_9_method_7_code
def yX7_goOnFromPart : MethodName := ⟨RX7, "goOnFromPart", "(I)V"⟩
abbrev cX7_goOnFromPlace : ByteArray := prog_9_method_8_code
def yX7_goOnFromPlace : MethodName := ⟨RX7, "goOnFromPlace", "(I)V"⟩
abbrev cX7_goOnFromSlot : ByteArray := prog_9_method_9_code
def yX7_goOnFromSlot : MethodName := ⟨RX7, "goOnFromSlot", "(I)V"⟩
abbrev cX7_settle : ByteArray := prog_9_method_10_code
def yX7_settle : MethodName := ⟨RX7, "settle", "(I)V"⟩
def RX8 : String := "FairSlots$Ties"
def TX8 : u_T := fun k => match k with
  | 0 => ("FairSlots$Ties", "letters", "[I", true)
  | _ => ("FairSlots$Ties", "size", "I", false)
def tyX8 : Nat → FieldType := fun k => match k with
  | 0 => .array .int
  | _ => .int
abbrev wsX80 : List Cond := u_ws RX8 TX8 2
theorem nmX8 : ∀ a, a < 2 → ∀ b, b < 2 → a ≠ b → (TX8 a).2.1 ≠ (TX8 b).2.1 := by decide +kernel
theorem tyX8_ok : ∀ k, k < 2 → parseFieldDescriptor (TX8 k).2.2.1 = some (tyX8 k) := by decide +kernel
abbrev cX8_init : ByteArray := prog_10_method_1_code
def yX8_init : MethodName := ⟨RX8, "<init>", "()V"⟩
abbrev cX8_copyFrom : ByteArray := prog_10_method_2_code
def yX8_copyFrom : MethodName := ⟨RX8, "copyFrom", "(LFairSlots$Ties;)V"⟩
abbrev cX8_clear : ByteArray := prog_10_method_3_code
def yX8_clear : MethodName := ⟨RX8, "clear", "()V"⟩
abbrev cX8_add : ByteArray := prog_10_method_4_code
def yX8_add : MethodName := ⟨RX8, "add", "(I)Z"⟩
abbrev cX8_isAhead : ByteArray := prog_10_method_5_code
def yX8_isAhead : MethodName := ⟨RX8, "isAhead", "(LFairSlots$World;II)Z"⟩
abbrev cX8_leadBy : ByteArray := prog_10_method_6_code
def yX8_leadBy : MethodName := ⟨RX8, "leadBy", "(ILFairSlots$World;II)I"⟩
def RX9 : String := "FairSlots$World"
def TX9 : u_T := fun k => match k with
  | 0 => ("FairSlots$World", "upper", "[I", true)
  | 1 => ("FairSlots$World", "lower", "[I", true)
  | 2 => ("FairSlots$World", "weight", "[I", true)
  | 3 => ("FairSlots$World", "joined", "[I", true)
  | 4 => ("FairSlots$World", "early", "[I", true)
  | 5 => ("FairSlots$World", "done", "[I", true)
  | 6 => ("FairSlots$World", "release", "[I", true)
  | 7 => ("FairSlots$World", "deadline", "[I", true)
  | 8 => ("FairSlots$World", "overlap", "[I", true)
  | 9 => ("FairSlots$World", "group", "[I", true)
  | 10 => ("FairSlots$World", "processors", "I", false)
  | 11 => ("FairSlots$World", "slot", "I", false)
  | 12 => ("FairSlots$World", "missed", "I", false)
  | 13 => ("FairSlots$World", "ran", "I", false)
  | 14 => ("FairSlots$World", "readyCount", "I", false)
  | 15 => ("FairSlots$World", "missers", "I", false)
  | _ => ("FairSlots$World", "idleSlots", "I", false)
def tyX9 : Nat → FieldType := fun k => match k with
  | 0 => .array .int
  | 1 => .array .int
  | 2 => .array .int
  | 3 => .array .int
  | 4 => .array .int
  | 5 => .array .int
  | 6 => .array .int
  | 7 => .array .int
  | 8 => .array .int
  | 9 => .array .int
  | 10 => .int
  | 11 => .int
  | 12 => .int
  | 13 => .int
  | 14 => .int
  | 15 => .int
  | _ => .int
abbrev wsX90 : List Cond := u_ws RX9 TX9 17
theorem nmX9 : ∀ a, a < 17 → ∀ b, b < 17 → a ≠ b → (TX9 a).2.1 ≠ (TX9 b).2.1 := by decide +kernel
theorem tyX9_ok : ∀ k, k < 17 → parseFieldDescriptor (TX9 k).2.2.1 = some (tyX9 k) := by decide +kernel
abbrev cX9_init : ByteArray := prog_11_method_1_code
def yX9_init : MethodName := ⟨RX9, "<init>", "()V"⟩
abbrev cX9_copyFrom : ByteArray := prog_11_method_2_code
def yX9_copyFrom : MethodName := ⟨RX9, "copyFrom", "(LFairSlots$World;)V"⟩
abbrev cX9_isThere : ByteArray := prog_11_method_3_code
def yX9_isThere : MethodName := ⟨RX9, "isThere", "(I)Z"⟩
abbrev cX9_thereSet : ByteArray := prog_11_method_4_code
def yX9_thereSet : MethodName := ⟨RX9, "thereSet", "()I"⟩
abbrev cX9_leastFree : ByteArray := prog_11_method_5_code
def yX9_leastFree : MethodName := ⟨RX9, "leastFree", "()I"⟩
abbrev cX9_doneOfAll : ByteArray := prog_11_method_6_code
def yX9_doneOfAll : MethodName := ⟨RX9, "doneOfAll", "()I"⟩
abbrev cX9_enter : ByteArray := prog_11_method_7_code
def yX9_enter : MethodName := ⟨RX9, "enter", "(IIII)V"⟩
abbrev cX9_lookAtNext : ByteArray := prog_11_method_8_code
def yX9_lookAtNext : MethodName := ⟨RX9, "lookAtNext", "(I)V"⟩
abbrev cX9_releaseOf : ByteArray := prog_11_method_9_code
def yX9_releaseOf : MethodName := ⟨RX9, "releaseOf", "(II)I"⟩
abbrev cX9_deadlineOf : ByteArray := prog_11_method_10_code
def yX9_deadlineOf : MethodName := ⟨RX9, "deadlineOf", "(II)I"⟩
abbrev cX9_overlapOf : ByteArray := prog_11_method_11_code
def yX9_overlapOf : MethodName := ⟨RX9, "overlapOf", "(II)I"⟩
abbrev cX9_groupOf : ByteArray := prog_11_method_12_code
def yX9_groupOf : MethodName := ⟨RX9, "groupOf", "(II)I"⟩
abbrev cX9_isReady : ByteArray := prog_11_method_13_code
def yX9_isReady : MethodName := ⟨RX9, "isReady", "(I)Z"⟩
abbrev cX9_hasRun : ByteArray := prog_11_method_14_code
def yX9_hasRun : MethodName := ⟨RX9, "hasRun", "(I)Z"⟩
abbrev cX9_readySet : ByteArray := prog_11_method_15_code
def yX9_readySet : MethodName := ⟨RX9, "readySet", "(I)I"⟩
abbrev cX9_firstOf : ByteArray := prog_11_method_16_code
def yX9_firstOf : MethodName := ⟨RX9, "firstOf", "(ILFairSlots$Ties;)I"⟩
abbrev cX9_goBy : ByteArray := prog_11_method_17_code
def yX9_goBy : MethodName := ⟨RX9, "goBy", "(LFairSlots$Ties;I)V"⟩
abbrev cX9_goByMany : ByteArray := prog_11_method_18_code
def yX9_goByMany : MethodName := ⟨RX9, "goByMany", "(ILFairSlots$Ties;)I"⟩
abbrev cX9_takeProcessors : ByteArray := prog_11_method_19_code
def yX9_takeProcessors : MethodName := ⟨RX9, "takeProcessors", "(I)I"⟩
abbrev cX9_letGo : ByteArray := prog_11_method_20_code
def yX9_letGo : MethodName := ⟨RX9, "letGo", "(I)I"⟩
abbrev cX9_mayLeaveFrom : ByteArray := prog_11_method_21_code
def yX9_mayLeaveFrom : MethodName := ⟨RX9, "mayLeaveFrom", "(I)I"⟩
abbrev cX9_turnEarly : ByteArray := prog_11_method_22_code
def yX9_turnEarly : MethodName := ⟨RX9, "turnEarly", "(I)I"⟩
abbrev cX9_weightSum : ByteArray := prog_11_method_23_code
def yX9_weightSum : MethodName := ⟨RX9, "weightSum", "()I"⟩
abbrev cX9_heaviestOf : ByteArray := prog_11_method_24_code
def yX9_heaviestOf : MethodName := ⟨RX9, "heaviestOf", "(I)I"⟩
abbrev cX9_lagUpper : ByteArray := prog_11_method_25_code
def yX9_lagUpper : MethodName := ⟨RX9, "lagUpper", "(I)I"⟩
abbrev cX9_compareLags : ByteArray := prog_11_method_26_code
def yX9_compareLags : MethodName := ⟨RX9, "compareLags", "(II)I"⟩
abbrev cX9_hasLagsOf : ByteArray := prog_11_method_27_code
def yX9_hasLagsOf : MethodName := ⟨RX9, "hasLagsOf", "(LFairSlots$World;)Z"⟩
def RX10 : String := "FairSlots"
def TX10 : u_T := fun k => match k with
  | 0 => ("FairSlots", "now", "LFairSlots$World;", true)
  | 1 => ("FairSlots", "before", "LFairSlots$World;", true)
  | 2 => ("FairSlots", "later", "LFairSlots$World;", true)
  | 3 => ("FairSlots", "past", "LFairSlots$Past;", true)
  | 4 => ("FairSlots", "text", "LFairSlots$Scroll;", true)
  | 5 => ("FairSlots", "tiesNow", "LFairSlots$Ties;", true)
  | 6 => ("FairSlots", "tiesRead", "LFairSlots$Ties;", true)
  | 7 => ("FairSlots", "told", "LFairSlots$Row;", true)
  | 8 => ("FairSlots", "hearsay", "LFairSlots$Hearsay;", true)
  | 9 => ("FairSlots", "sightings", "LFairSlots$Sightings;", true)
  | 10 => ("FairSlots", "extremes", "LFairSlots$Extremes;", true)
  | 11 => ("FairSlots", "stream", "LFairSlots$Stream;", true)
  | 12 => ("FairSlots", "pairCounts", "[I", true)
  | _ => ("FairSlots", "chances", "[J", true)
def tyX10 : Nat → FieldType := fun k => match k with
  | 0 => .object "FairSlots$World"
  | 1 => .object "FairSlots$World"
  | 2 => .object "FairSlots$World"
  | 3 => .object "FairSlots$Past"
  | 4 => .object "FairSlots$Scroll"
  | 5 => .object "FairSlots$Ties"
  | 6 => .object "FairSlots$Ties"
  | 7 => .object "FairSlots$Row"
  | 8 => .object "FairSlots$Hearsay"
  | 9 => .object "FairSlots$Sightings"
  | 10 => .object "FairSlots$Extremes"
  | 11 => .object "FairSlots$Stream"
  | 12 => .array .int
  | _ => .array .long
abbrev wsX100 : List Cond := u_ws RX10 TX10 14
theorem nmX10 : ∀ a, a < 14 → ∀ b, b < 14 → a ≠ b → (TX10 a).2.1 ≠ (TX10 b).2.1 := by decide +kernel
theorem tyX10_ok : ∀ k, k < 14 → parseFieldDescriptor (TX10 k).2.2.1 = some (tyX10 k) := by decide +kernel
abbrev cX10_init : ByteArray := prog_1_method_1_code
def yX10_init : MethodName := ⟨RX10, "<init>", "()V"⟩
abbrev cX10_sign : ByteArray := prog_1_method_2_code
def yX10_sign : MethodName := ⟨RX10, "sign", "(I)I"⟩
abbrev cX10_end : ByteArray := prog_1_method_3_code
def yX10_end : MethodName := ⟨RX10, "end", "(I)Z"⟩
abbrev cX10_joins : ByteArray := prog_1_method_4_code
def yX10_joins : MethodName := ⟨RX10, "joins", "()I"⟩
abbrev cX10_ties : ByteArray := prog_1_method_5_code
def yX10_ties : MethodName := ⟨RX10, "ties", "()I"⟩
abbrev cX10_task : ByteArray := prog_1_method_6_code
def yX10_task : MethodName := ⟨RX10, "task", "(II)I"⟩
abbrev cX10_part : ByteArray := prog_1_method_7_code
def yX10_part : MethodName := ⟨RX10, "part", "(III)I"⟩
abbrev cX10_sheet : ByteArray := prog_1_method_8_code
def yX10_sheet : MethodName := ⟨RX10, "sheet", "(IIII)I"⟩
abbrev cX10_entry : ByteArray := prog_1_method_9_code
def yX10_entry : MethodName := ⟨RX10, "entry", "(II)I"⟩
abbrev cX10_slot : ByteArray := prog_1_method_10_code
def yX10_slot : MethodName := ⟨RX10, "slot", "()I"⟩
abbrev cX10_slots : ByteArray := prog_1_method_11_code
def yX10_slots : MethodName := ⟨RX10, "slots", "(I)I"⟩
abbrev cX10_processors : ByteArray := prog_1_method_12_code
def yX10_processors : MethodName := ⟨RX10, "processors", "(I)I"⟩
abbrev cX10_leaves : ByteArray := prog_1_method_13_code
def yX10_leaves : MethodName := ⟨RX10, "leaves", "(I)I"⟩
abbrev cX10_hurries : ByteArray := prog_1_method_14_code
def yX10_hurries : MethodName := ⟨RX10, "hurries", "(I)I"⟩
abbrev cX10_rememberedIfDone : ByteArray := prog_1_method_15_code
def yX10_rememberedIfDone : MethodName := ⟨RX10, "rememberedIfDone", "(I)I"⟩
abbrev cX10_shift : ByteArray := prog_1_method_16_code
def yX10_shift : MethodName := ⟨RX10, "shift", "()I"⟩
abbrev cX10_answerOfAct : ByteArray := prog_1_method_17_code
def yX10_answerOfAct : MethodName := ⟨RX10, "answerOfAct", "(I)I"⟩
abbrev cX10_undo : ByteArray := prog_1_method_18_code
def yX10_undo : MethodName := ⟨RX10, "undo", "()I"⟩
abbrev cX10_lag : ByteArray := prog_1_method_19_code
def yX10_lag : MethodName := ⟨RX10, "lag", "(I)I"⟩
abbrev cX10_use : ByteArray := prog_1_method_20_code
def yX10_use : MethodName := ⟨RX10, "use", "()I"⟩
abbrev cX10_order : ByteArray := prog_1_method_21_code
def yX10_order : MethodName := ⟨RX10, "order", "()I"⟩
abbrev cX10_behind : ByteArray := prog_1_method_22_code
def yX10_behind : MethodName := ⟨RX10, "behind", "()I"⟩
abbrev cX10_ahead : ByteArray := prog_1_method_23_code
def yX10_ahead : MethodName := ⟨RX10, "ahead", "(I)I"⟩
abbrev cX10_runs : ByteArray := prog_1_method_24_code
def yX10_runs : MethodName := ⟨RX10, "runs", "(I)I"⟩
abbrev cX10_when : ByteArray := prog_1_method_25_code
def yX10_when : MethodName := ⟨RX10, "when", "(II)I"⟩
abbrev cX10_misses : ByteArray := prog_1_method_26_code
def yX10_misses : MethodName := ⟨RX10, "misses", "()I"⟩
abbrev cX10_round : ByteArray := prog_1_method_27_code
def yX10_round : MethodName := ⟨RX10, "round", "()I"⟩
abbrev cX10_share : ByteArray := prog_1_method_28_code
def yX10_share : MethodName := ⟨RX10, "share", "(II)I"⟩
abbrev cX10_pairs : ByteArray := prog_1_method_29_code
def yX10_pairs : MethodName := ⟨RX10, "pairs", "(I)I"⟩
abbrev cX10_countPairs : ByteArray := prog_1_method_30_code
def yX10_countPairs : MethodName := ⟨RX10, "countPairs", "(I)V"⟩
abbrev cX10_lags : ByteArray := prog_1_method_31_code
def yX10_lags : MethodName := ⟨RX10, "lags", "(I)I"⟩
abbrev cX10_flow : ByteArray := prog_1_method_32_code
def yX10_flow : MethodName := ⟨RX10, "flow", "(I)I"⟩
abbrev cX10_waits : ByteArray := prog_1_method_33_code
def yX10_waits : MethodName := ⟨RX10, "waits", "(I)I"⟩
abbrev cX10_missesWhenKept : ByteArray := prog_1_method_34_code
def yX10_missesWhenKept : MethodName := ⟨RX10, "missesWhenKept", "(II)Z"⟩
abbrev cX10_room : ByteArray := prog_1_method_35_code
def yX10_room : MethodName := ⟨RX10, "room", "()I"⟩
abbrev cX10_fewest : ByteArray := prog_1_method_36_code
def yX10_fewest : MethodName := ⟨RX10, "fewest", "()I"⟩
abbrev cX10_heard : ByteArray := prog_1_method_37_code
def yX10_heard : MethodName := ⟨RX10, "heard", "(II)I"⟩
abbrev cX10_forget : ByteArray := prog_1_method_38_code
def yX10_forget : MethodName := ⟨RX10, "forget", "()I"⟩
abbrev cX10_fits : ByteArray := prog_1_method_39_code
def yX10_fits : MethodName := ⟨RX10, "fits", "()I"⟩
abbrev cX10_asks : ByteArray := prog_1_method_40_code
def yX10_asks : MethodName := ⟨RX10, "asks", "()I"⟩
abbrev cX10_saw : ByteArray := prog_1_method_41_code
def yX10_saw : MethodName := ⟨RX10, "saw", "(II)I"⟩
abbrev cX10_denies : ByteArray := prog_1_method_42_code
def yX10_denies : MethodName := ⟨RX10, "denies", "()I"⟩
abbrev cX10_weights : ByteArray := prog_1_method_43_code
def yX10_weights : MethodName := ⟨RX10, "weights", "()I"⟩
abbrev cX10_looks : ByteArray := prog_1_method_44_code
def yX10_looks : MethodName := ⟨RX10, "looks", "()I"⟩
abbrev cX10_odds : ByteArray := prog_1_method_45_code
def yX10_odds : MethodName := ⟨RX10, "odds", "(III)I"⟩
abbrev cX10_divisors : ByteArray := prog_1_method_46_code
def yX10_divisors : MethodName := ⟨RX10, "divisors", "(I)I"⟩
abbrev cX10_rests : ByteArray := prog_1_method_47_code
def yX10_rests : MethodName := ⟨RX10, "rests", "(I)I"⟩
abbrev cX10_isBest : ByteArray := prog_1_method_48_code
def yX10_isBest : MethodName := ⟨RX10, "isBest", "(III)Z"⟩
abbrev cX10_gain : ByteArray := prog_1_method_49_code
def yX10_gain : MethodName := ⟨RX10, "gain", "(III)I"⟩
abbrev cX10_law : ByteArray := prog_1_method_50_code
def yX10_law : MethodName := ⟨RX10, "law", "()I"⟩
abbrev cX10_firstMissBy : ByteArray := prog_1_method_51_code
def yX10_firstMissBy : MethodName := ⟨RX10, "firstMissBy", "(LFairSlots$Ties;)I"⟩
abbrev cX10_years : ByteArray := prog_1_method_52_code
def yX10_years : MethodName := ⟨RX10, "years", "(II)I"⟩
abbrev cX10_nextDraw : ByteArray := prog_1_method_53_code
def yX10_nextDraw : MethodName := ⟨RX10, "nextDraw", "(I)I"⟩
abbrev cX10_drawOf : ByteArray := prog_1_method_54_code
def yX10_drawOf : MethodName := ⟨RX10, "drawOf", "(II)I"⟩
abbrev cX10_keep : ByteArray := prog_1_method_55_code
def yX10_keep : MethodName := ⟨RX10, "keep", "(I)Z"⟩
abbrev cX10_again : ByteArray := prog_1_method_56_code
def yX10_again : MethodName := ⟨RX10, "again", "(I)Z"⟩
abbrev cX10_count : ByteArray := prog_1_method_57_code
def yX10_count : MethodName := ⟨RX10, "count", "(I)I"⟩
abbrev cX10_row : ByteArray := prog_1_method_58_code
def yX10_row : MethodName := ⟨RX10, "row", "(I)J"⟩
def RX11 : String := "FairSlotsModel"
def TX11 : u_T := fun k => match k with
  | 0 => ("FairSlotsModel", "now", "[I", true)
  | 1 => ("FairSlotsModel", "text", "[B", true)
  | 2 => ("FairSlotsModel", "typed", "I", false)
  | 3 => ("FairSlotsModel", "row", "[J", true)
  | 4 => ("FairSlotsModel", "rowMany", "I", false)
  | 5 => ("FairSlotsModel", "thrown", "I", false)
  | 6 => ("FairSlotsModel", "ties", "[B", false)
  | 7 => ("FairSlotsModel", "otherTies", "[B", false)
  | 8 => ("FairSlotsModel", "tieMany", "I", false)
  | 9 => ("FairSlotsModel", "useUp", "J", false)
  | 10 => ("FairSlotsModel", "useLow", "J", false)
  | 11 => ("FairSlotsModel", "line", "[I", true)
  | 12 => ("FairSlotsModel", "read", "[B", false)
  | 13 => ("FairSlotsModel", "length", "I", false)
  | 14 => ("FairSlotsModel", "top", "I", false)
  | 15 => ("FairSlotsModel", "at", "I", false)
  | 16 => ("FairSlotsModel", "wrong", "I", false)
  | 17 => ("FairSlotsModel", "told", "[I", true)
  | 18 => ("FairSlotsModel", "undos", "[I", true)
  | 19 => ("FairSlotsModel", "undoMany", "I", false)
  | 20 => ("FairSlotsModel", "aside", "[I", true)
  | 21 => ("FairSlotsModel", "then", "[I", true)
  | 22 => ("FairSlotsModel", "ready", "I", false)
  | 23 => ("FairSlotsModel", "missed", "I", false)
  | 24 => ("FairSlotsModel", "idle", "I", false)
  | 25 => ("FairSlotsModel", "acts", "[I", true)
  | 26 => ("FairSlotsModel", "both", "[I", true)
  | 27 => ("FairSlotsModel", "due", "[I", true)
  | 28 => ("FairSlotsModel", "dueMany", "I", false)
  | 29 => ("FairSlotsModel", "holder", "[I", true)
  | 30 => ("FairSlotsModel", "load", "[I", true)
  | 31 => ("FairSlotsModel", "wasTried", "[Z", true)
  | 32 => ("FairSlotsModel", "wasSlot", "[Z", true)
  | 33 => ("FairSlotsModel", "isTaken", "[Z", true)
  | 34 => ("FairSlotsModel", "heardOf", "[I", true)
  | 35 => ("FairSlotsModel", "heardBy", "[I", true)
  | 36 => ("FairSlotsModel", "heardMany", "I", false)
  | 37 => ("FairSlotsModel", "sawBy", "[I", true)
  | 38 => ("FairSlotsModel", "sawAs", "[I", true)
  | 39 => ("FairSlotsModel", "sawMany", "I", false)
  | 40 => ("FairSlotsModel", "many", "[I", true)
  | 41 => ("FairSlotsModel", "wins", "[Z", true)
  | 42 => ("FairSlotsModel", "firstMiss", "I", false)
  | 43 => ("FairSlotsModel", "drawn", "I", false)
  | 44 => ("FairSlotsModel", "kept", "[I", true)
  | _ => ("FairSlotsModel", "isKept", "[Z", true)
def tyX11 : Nat → FieldType := fun k => match k with
  | 0 => .array .int
  | 1 => .array .byte
  | 2 => .int
  | 3 => .array .long
  | 4 => .int
  | 5 => .int
  | 6 => .array .byte
  | 7 => .array .byte
  | 8 => .int
  | 9 => .long
  | 10 => .long
  | 11 => .array .int
  | 12 => .array .byte
  | 13 => .int
  | 14 => .int
  | 15 => .int
  | 16 => .int
  | 17 => .array .int
  | 18 => .array .int
  | 19 => .int
  | 20 => .array .int
  | 21 => .array .int
  | 22 => .int
  | 23 => .int
  | 24 => .int
  | 25 => .array .int
  | 26 => .array .int
  | 27 => .array .int
  | 28 => .int
  | 29 => .array .int
  | 30 => .array .int
  | 31 => .array .boolean
  | 32 => .array .boolean
  | 33 => .array .boolean
  | 34 => .array .int
  | 35 => .array .int
  | 36 => .int
  | 37 => .array .int
  | 38 => .array .int
  | 39 => .int
  | 40 => .array .int
  | 41 => .array .boolean
  | 42 => .int
  | 43 => .int
  | 44 => .array .int
  | _ => .array .boolean
abbrev wsX110 : List Cond := u_ws RX11 TX11 46
theorem nmX11 : ∀ a, a < 46 → ∀ b, b < 46 → a ≠ b → (TX11 a).2.1 ≠ (TX11 b).2.1 := by decide +kernel
theorem tyX11_ok : ∀ k, k < 46 → parseFieldDescriptor (TX11 k).2.2.1 = some (tyX11 k) := by decide +kernel
abbrev cX11_init : ByteArray := prog_13_method_1_code
def yX11_init : MethodName := ⟨RX11, "<init>", "()V"⟩
abbrev cX11_thrown : ByteArray := prog_13_method_2_code
def yX11_thrown : MethodName := ⟨RX11, "thrown", "()I"⟩
abbrev cX11_in : ByteArray := prog_13_method_3_code
def yX11_in : MethodName := ⟨RX11, "in", "(III)Z"⟩
abbrev cX11_has : ByteArray := prog_13_method_4_code
def yX11_has : MethodName := ⟨RX11, "has", "(II)Z"⟩
abbrev cX11_lost : ByteArray := prog_13_method_5_code
def yX11_lost : MethodName := ⟨RX11, "lost", "()I"⟩
abbrev cX11_tell : ByteArray := prog_13_method_6_code
def yX11_tell : MethodName := ⟨RX11, "tell", "(J)V"⟩
abbrev cX11_isThere : ByteArray := prog_13_method_7_code
def yX11_isThere : MethodName := ⟨RX11, "isThere", "([II)Z"⟩
abbrev cX11_isTask : ByteArray := prog_13_method_8_code
def yX11_isTask : MethodName := ⟨RX11, "isTask", "(I)Z"⟩
abbrev cX11_thereOf : ByteArray := prog_13_method_9_code
def yX11_thereOf : MethodName := ⟨RX11, "thereOf", "([I)I"⟩
abbrev cX11_common : ByteArray := prog_13_method_10_code
def yX11_common : MethodName := ⟨RX11, "common", "(JJ)J"⟩
abbrev cX11_tellPart : ByteArray := prog_13_method_11_code
def yX11_tellPart : MethodName := ⟨RX11, "tellPart", "(JJ)V"⟩
abbrev cX11_layUse : ByteArray := prog_13_method_12_code
def yX11_layUse : MethodName := ⟨RX11, "layUse", "([I)V"⟩
abbrev cX11_releaseOf : ByteArray := prog_13_method_13_code
def yX11_releaseOf : MethodName := ⟨RX11, "releaseOf", "([III)I"⟩
abbrev cX11_deadlineOf : ByteArray := prog_13_method_14_code
def yX11_deadlineOf : MethodName := ⟨RX11, "deadlineOf", "([III)I"⟩
abbrev cX11_overlapOf : ByteArray := prog_13_method_15_code
def yX11_overlapOf : MethodName := ⟨RX11, "overlapOf", "([III)I"⟩
abbrev cX11_lengthOf : ByteArray := prog_13_method_16_code
def yX11_lengthOf : MethodName := ⟨RX11, "lengthOf", "([III)I"⟩
abbrev cX11_groupOf : ByteArray := prog_13_method_17_code
def yX11_groupOf : MethodName := ⟨RX11, "groupOf", "([III)I"⟩
abbrev cX11_isReady : ByteArray := prog_13_method_18_code
def yX11_isReady : MethodName := ⟨RX11, "isReady", "([II)Z"⟩
abbrev cX11_leadBy : ByteArray := prog_13_method_19_code
def yX11_leadBy : MethodName := ⟨RX11, "leadBy", "([IIII)I"⟩
abbrev cX11_isAhead : ByteArray := prog_13_method_20_code
def yX11_isAhead : MethodName := ⟨RX11, "isAhead", "([III)Z"⟩
abbrev cX11_layOrder : ByteArray := prog_13_method_21_code
def yX11_layOrder : MethodName := ⟨RX11, "layOrder", "([II)I"⟩
abbrev cX11_sign : ByteArray := prog_13_method_22_code
def yX11_sign : MethodName := ⟨RX11, "sign", "(I)I"⟩
abbrev cX11_end : ByteArray := prog_13_method_23_code
def yX11_end : MethodName := ⟨RX11, "end", "(I)Z"⟩
abbrev cX11_begin : ByteArray := prog_13_method_24_code
def yX11_begin : MethodName := ⟨RX11, "begin", "([BII)V"⟩
abbrev cX11_beginText : ByteArray := prog_13_method_25_code
def yX11_beginText : MethodName := ⟨RX11, "beginText", "(I)V"⟩
abbrev cX11_here : ByteArray := prog_13_method_26_code
def yX11_here : MethodName := ⟨RX11, "here", "()I"⟩
abbrev cX11_fine : ByteArray := prog_13_method_27_code
def yX11_fine : MethodName := ⟨RX11, "fine", "()Z"⟩
abbrev cX11_fault : ByteArray := prog_13_method_28_code
def yX11_fault : MethodName := ⟨RX11, "fault", "(I)V"⟩
abbrev cX11_passes : ByteArray := prog_13_method_29_code
def yX11_passes : MethodName := ⟨RX11, "passes", "(C)Z"⟩
abbrev cX11_oneOf : ByteArray := prog_13_method_31_code
def yX11_oneOf : MethodName := ⟨RX11, "oneOf", "(CI)I"⟩
abbrev cX11_wasRight : ByteArray := prog_13_method_33_code
def yX11_wasRight : MethodName := ⟨RX11, "wasRight", "()Z"⟩
abbrev cX11_numberOf : ByteArray := prog_13_method_34_code
def yX11_numberOf : MethodName := ⟨RX11, "numberOf", "()I"⟩
abbrev cX11_readLine : ByteArray := prog_13_method_35_code
def yX11_readLine : MethodName := ⟨RX11, "readLine", "(I)V"⟩
abbrev cX11_joins : ByteArray := prog_13_method_36_code
def yX11_joins : MethodName := ⟨RX11, "joins", "()I"⟩
abbrev cX11_isTie : ByteArray := prog_13_method_37_code
def yX11_isTie : MethodName := ⟨RX11, "isTie", "(I)Z"⟩
abbrev cX11_rightTies : ByteArray := prog_13_method_38_code
def yX11_rightTies : MethodName := ⟨RX11, "rightTies", "(I)I"⟩
abbrev cX11_ties : ByteArray := prog_13_method_39_code
def yX11_ties : MethodName := ⟨RX11, "ties", "()I"⟩
abbrev cX11_task : ByteArray := prog_13_method_40_code
def yX11_task : MethodName := ⟨RX11, "task", "(II)I"⟩
abbrev cX11_part : ByteArray := prog_13_method_41_code
def yX11_part : MethodName := ⟨RX11, "part", "(III)I"⟩
abbrev cX11_sheet : ByteArray := prog_13_method_42_code
def yX11_sheet : MethodName := ⟨RX11, "sheet", "(IIII)I"⟩
abbrev cX11_lay : ByteArray := prog_13_method_43_code
def yX11_lay : MethodName := ⟨RX11, "lay", "([I[II)V"⟩
abbrev cX11_remember : ByteArray := prog_13_method_44_code
def yX11_remember : MethodName := ⟨RX11, "remember", "([I)V"⟩
abbrev cX11_goSlot : ByteArray := prog_13_method_45_code
def yX11_goSlot : MethodName := ⟨RX11, "goSlot", "([II)I"⟩
abbrev cX11_slot : ByteArray := prog_13_method_46_code
def yX11_slot : MethodName := ⟨RX11, "slot", "()I"⟩
abbrev cX11_goSlots : ByteArray := prog_13_method_47_code
def yX11_goSlots : MethodName := ⟨RX11, "goSlots", "([II)I"⟩
abbrev cX11_slots : ByteArray := prog_13_method_48_code
def yX11_slots : MethodName := ⟨RX11, "slots", "(I)I"⟩
abbrev cX11_refusesProcessors : ByteArray := prog_13_method_49_code
def yX11_refusesProcessors : MethodName := ⟨RX11, "refusesProcessors", "(I)I"⟩
abbrev cX11_processors : ByteArray := prog_13_method_50_code
def yX11_processors : MethodName := ⟨RX11, "processors", "(I)I"⟩
abbrev cX11_refusesLeaving : ByteArray := prog_13_method_51_code
def yX11_refusesLeaving : MethodName := ⟨RX11, "refusesLeaving", "([II)I"⟩
abbrev cX11_goLeave : ByteArray := prog_13_method_52_code
def yX11_goLeave : MethodName := ⟨RX11, "goLeave", "([II)I"⟩
abbrev cX11_leaves : ByteArray := prog_13_method_53_code
def yX11_leaves : MethodName := ⟨RX11, "leaves", "(I)I"⟩
abbrev cX11_hurries : ByteArray := prog_13_method_54_code
def yX11_hurries : MethodName := ⟨RX11, "hurries", "(I)I"⟩
abbrev cX11_shift : ByteArray := prog_13_method_55_code
def yX11_shift : MethodName := ⟨RX11, "shift", "()I"⟩
abbrev cX11_readAct : ByteArray := prog_13_method_56_code
def yX11_readAct : MethodName := ⟨RX11, "readAct", "(I)V"⟩
abbrev cX11_act : ByteArray := prog_13_method_57_code
def yX11_act : MethodName := ⟨RX11, "act", "(II)Z"⟩
abbrev cX11_undo : ByteArray := prog_13_method_58_code
def yX11_undo : MethodName := ⟨RX11, "undo", "()I"⟩
abbrev cX11_lagUp : ByteArray := prog_13_method_59_code
def yX11_lagUp : MethodName := ⟨RX11, "lagUp", "([II)I"⟩
abbrev cX11_lag : ByteArray := prog_13_method_60_code
def yX11_lag : MethodName := ⟨RX11, "lag", "(I)I"⟩
abbrev cX11_use : ByteArray := prog_13_method_61_code
def yX11_use : MethodName := ⟨RX11, "use", "()I"⟩
abbrev cX11_order : ByteArray := prog_13_method_62_code
def yX11_order : MethodName := ⟨RX11, "order", "()I"⟩
abbrev cX11_greatestLag : ByteArray := prog_13_method_63_code
def yX11_greatestLag : MethodName := ⟨RX11, "greatestLag", "([I)I"⟩
abbrev cX11_behind : ByteArray := prog_13_method_64_code
def yX11_behind : MethodName := ⟨RX11, "behind", "()I"⟩
abbrev cX11_ahead : ByteArray := prog_13_method_65_code
def yX11_ahead : MethodName := ⟨RX11, "ahead", "(I)I"⟩
abbrev cX11_runs : ByteArray := prog_13_method_66_code
def yX11_runs : MethodName := ⟨RX11, "runs", "(I)I"⟩
abbrev cX11_when : ByteArray := prog_13_method_67_code
def yX11_when : MethodName := ⟨RX11, "when", "(II)I"⟩
abbrev cX11_misses : ByteArray := prog_13_method_68_code
def yX11_misses : MethodName := ⟨RX11, "misses", "()I"⟩
abbrev cX11_round : ByteArray := prog_13_method_69_code
def yX11_round : MethodName := ⟨RX11, "round", "()I"⟩
abbrev cX11_share : ByteArray := prog_13_method_70_code
def yX11_share : MethodName := ⟨RX11, "share", "(II)I"⟩
abbrev cX11_pairs : ByteArray := prog_13_method_71_code
def yX11_pairs : MethodName := ⟨RX11, "pairs", "(I)I"⟩
abbrev cX11_lags : ByteArray := prog_13_method_72_code
def yX11_lags : MethodName := ⟨RX11, "lags", "(I)I"⟩
abbrev cX11_layDue : ByteArray := prog_13_method_73_code
def yX11_layDue : MethodName := ⟨RX11, "layDue", "(I)V"⟩
abbrev cX11_finds : ByteArray := prog_13_method_74_code
def yX11_finds : MethodName := ⟨RX11, "finds", "(I)Z"⟩
abbrev cX11_hasRoom : ByteArray := prog_13_method_75_code
def yX11_hasRoom : MethodName := ⟨RX11, "hasRoom", "(I)Z"⟩
abbrev cX11_flow : ByteArray := prog_13_method_76_code
def yX11_flow : MethodName := ⟨RX11, "flow", "(I)I"⟩
abbrev cX11_waits : ByteArray := prog_13_method_77_code
def yX11_waits : MethodName := ⟨RX11, "waits", "(I)I"⟩
abbrev cX11_room : ByteArray := prog_13_method_78_code
def yX11_room : MethodName := ⟨RX11, "room", "()I"⟩
abbrev cX11_fewest : ByteArray := prog_13_method_79_code
def yX11_fewest : MethodName := ⟨RX11, "fewest", "()I"⟩
abbrev cX11_lowOf : ByteArray := prog_13_method_80_code
def yX11_lowOf : MethodName := ⟨RX11, "lowOf", "(I)I"⟩
abbrev cX11_highOf : ByteArray := prog_13_method_81_code
def yX11_highOf : MethodName := ⟨RX11, "highOf", "(I)I"⟩
abbrev cX11_heard : ByteArray := prog_13_method_82_code
def yX11_heard : MethodName := ⟨RX11, "heard", "(II)I"⟩
abbrev cX11_forget : ByteArray := prog_13_method_83_code
def yX11_forget : MethodName := ⟨RX11, "forget", "()I"⟩
abbrev cX11_isSo : ByteArray := prog_13_method_84_code
def yX11_isSo : MethodName := ⟨RX11, "isSo", "(III)Z"⟩
abbrev cX11_fitting : ByteArray := prog_13_method_85_code
def yX11_fitting : MethodName := ⟨RX11, "fitting", "()I"⟩
abbrev cX11_fits : ByteArray := prog_13_method_86_code
def yX11_fits : MethodName := ⟨RX11, "fits", "()I"⟩
abbrev cX11_asks : ByteArray := prog_13_method_87_code
def yX11_asks : MethodName := ⟨RX11, "asks", "()I"⟩
abbrev cX11_saw : ByteArray := prog_13_method_88_code
def yX11_saw : MethodName := ⟨RX11, "saw", "(II)I"⟩
abbrev cX11_denies : ByteArray := prog_13_method_89_code
def yX11_denies : MethodName := ⟨RX11, "denies", "()I"⟩
abbrev cX11_isWeight : ByteArray := prog_13_method_90_code
def yX11_isWeight : MethodName := ⟨RX11, "isWeight", "(II)Z"⟩
abbrev cX11_weights : ByteArray := prog_13_method_91_code
def yX11_weights : MethodName := ⟨RX11, "weights", "()I"⟩
abbrev cX11_looks : ByteArray := prog_13_method_92_code
def yX11_looks : MethodName := ⟨RX11, "looks", "()I"⟩
abbrev cX11_odds : ByteArray := prog_13_method_93_code
def yX11_odds : MethodName := ⟨RX11, "odds", "(III)I"⟩
abbrev cX11_take : ByteArray := prog_13_method_94_code
def yX11_take : MethodName := ⟨RX11, "take", "(I)I"⟩
abbrev cX11_divisors : ByteArray := prog_13_method_95_code
def yX11_divisors : MethodName := ⟨RX11, "divisors", "(I)I"⟩
abbrev cX11_gets : ByteArray := prog_13_method_96_code
def yX11_gets : MethodName := ⟨RX11, "gets", "(III)I"⟩
abbrev cX11_isBest : ByteArray := prog_13_method_97_code
def yX11_isBest : MethodName := ⟨RX11, "isBest", "(III)Z"⟩
abbrev cX11_rests : ByteArray := prog_13_method_98_code
def yX11_rests : MethodName := ⟨RX11, "rests", "(I)I"⟩
abbrev cX11_lay60 : ByteArray := prog_13_method_99_code
def yX11_lay60 : MethodName := ⟨RX11, "lay60", "()I"⟩
abbrev cX11_law : ByteArray := prog_13_method_100_code
def yX11_law : MethodName := ⟨RX11, "law", "()I"⟩
abbrev cX11_draw : ByteArray := prog_13_method_101_code
def yX11_draw : MethodName := ⟨RX11, "draw", "(I)I"⟩
abbrev cX11_doneOf : ByteArray := prog_13_method_102_code
def yX11_doneOf : MethodName := ⟨RX11, "doneOf", "([I)I"⟩
abbrev cX11_years : ByteArray := prog_13_method_103_code
def yX11_years : MethodName := ⟨RX11, "years", "(II)I"⟩
abbrev cX11_keep : ByteArray := prog_13_method_104_code
def yX11_keep : MethodName := ⟨RX11, "keep", "(I)Z"⟩
abbrev cX11_again : ByteArray := prog_13_method_105_code
def yX11_again : MethodName := ⟨RX11, "again", "(I)Z"⟩
abbrev cX11_count : ByteArray := prog_13_method_106_code
def yX11_count : MethodName := ⟨RX11, "count", "(I)I"⟩
abbrev cX11_row : ByteArray := prog_13_method_107_code
def yX11_row : MethodName := ⟨RX11, "row", "(I)J"⟩
def RJx145de : String := "java/io/Serializable"
def TJx145de : u_T := fun k => match k with
  | _ => ("", "", "", false)
def tyJx145de : Nat → FieldType := fun k => match k with
  | _ => .int
abbrev wsJx145de0 : List Cond := u_ws RJx145de TJx145de 0
theorem nmJx145de : ∀ a, a < 0 → ∀ b, b < 0 → a ≠ b → (TJx145de a).2.1 ≠ (TJx145de b).2.1 := by decide +kernel
theorem tyJx145de_ok : ∀ k, k < 0 → parseFieldDescriptor (TJx145de k).2.2.1 = some (tyJx145de k) := by decide +kernel
def RJ6 : String := "java/lang/Integer"
def TJ6 : u_T := fun k => match k with
  | _ => ("", "", "", false)
def tyJ6 : Nat → FieldType := fun k => match k with
  | _ => .int
abbrev wsJ60 : List Cond := u_ws RJ6 TJ6 0
theorem nmJ6 : ∀ a, a < 0 → ∀ b, b < 0 → a ≠ b → (TJ6 a).2.1 ≠ (TJ6 b).2.1 := by decide +kernel
theorem tyJ6_ok : ∀ k, k < 0 → parseFieldDescriptor (TJ6 k).2.2.1 = some (tyJ6 k) := by decide +kernel
abbrev cJ6_compare_7cf53 : ByteArray := prog_16_method_40_code
def yJ6_compare_7cf53 : MethodName := ⟨RJ6, "compare", "(II)I"⟩
abbrev cJ6_bitCount_0f7a4 : ByteArray := prog_16_method_49_code
def yJ6_bitCount_0f7a4 : MethodName := ⟨RJ6, "bitCount", "(I)I"⟩
def RJ13 : String := "java/lang/Long"
def TJ13 : u_T := fun k => match k with
  | _ => ("", "", "", false)
def tyJ13 : Nat → FieldType := fun k => match k with
  | _ => .int
abbrev wsJ130 : List Cond := u_ws RJ13 TJ13 0
theorem nmJ13 : ∀ a, a < 0 → ∀ b, b < 0 → a ≠ b → (TJ13 a).2.1 ≠ (TJ13 b).2.1 := by decide +kernel
theorem tyJ13_ok : ∀ k, k < 0 → parseFieldDescriptor (TJ13 k).2.2.1 = some (tyJ13 k) := by decide +kernel
abbrev cJ13_compare_74951 : ByteArray := prog_17_method_42_code
def yJ13_compare_74951 : MethodName := ⟨RJ13, "compare", "(JJ)I"⟩
def RJ9 : String := "java/lang/Math"
def TJ9 : u_T := fun k => match k with
  | _ => ("", "", "", false)
def tyJ9 : Nat → FieldType := fun k => match k with
  | _ => .int
abbrev wsJ90 : List Cond := u_ws RJ9 TJ9 0
theorem nmJ9 : ∀ a, a < 0 → ∀ b, b < 0 → a ≠ b → (TJ9 a).2.1 ≠ (TJ9 b).2.1 := by decide +kernel
theorem tyJ9_ok : ∀ k, k < 0 → parseFieldDescriptor (TJ9 k).2.2.1 = some (tyJ9 k) := by decide +kernel
abbrev cJ9_abs_067f4 : ByteArray := prog_18_method_61_code
def yJ9_abs_067f4 : MethodName := ⟨RJ9, "abs", "(J)J"⟩
abbrev cJ9_max_7cf53 : ByteArray := prog_18_method_65_code
def yJ9_max_7cf53 : MethodName := ⟨RJ9, "max", "(II)I"⟩
abbrev cJ9_min_7cf53 : ByteArray := prog_18_method_69_code
def yJ9_min_7cf53 : MethodName := ⟨RJ9, "min", "(II)I"⟩
def RJ10 : String := "java/lang/System"
def TJ10 : u_T := fun k => match k with
  | _ => ("", "", "", false)
def tyJ10 : Nat → FieldType := fun k => match k with
  | _ => .int
abbrev wsJ100 : List Cond := u_ws RJ10 TJ10 0
theorem nmJ10 : ∀ a, a < 0 → ∀ b, b < 0 → a ≠ b → (TJ10 a).2.1 ≠ (TJ10 b).2.1 := by decide +kernel
theorem tyJ10_ok : ∀ k, k < 0 → parseFieldDescriptor (TJ10 k).2.2.1 = some (tyJ10 k) := by decide +kernel
def RJ7 : String := "java/util/Arrays"
def TJ7 : u_T := fun k => match k with
  | _ => ("", "", "", false)
def tyJ7 : Nat → FieldType := fun k => match k with
  | _ => .int
abbrev wsJ70 : List Cond := u_ws RJ7 TJ7 0
theorem nmJ7 : ∀ a, a < 0 → ∀ b, b < 0 → a ≠ b → (TJ7 a).2.1 ≠ (TJ7 b).2.1 := by decide +kernel
theorem tyJ7_ok : ∀ k, k < 0 → parseFieldDescriptor (TJ7 k).2.2.1 = some (tyJ7 k) := by decide +kernel
abbrev cJ7_fill_d0a16 : ByteArray := prog_22_method_101_code
def yJ7_fill_d0a16 : MethodName := ⟨RJ7, "fill", "([JJ)V"⟩
abbrev cJ7_fill_53178 : ByteArray := prog_22_method_103_code
def yJ7_fill_53178 : MethodName := ⟨RJ7, "fill", "([II)V"⟩
def RL : String := "FairSlotsLaw"
abbrev cL_task : ByteArray := method_3_code
def yL_task : MethodName := ⟨RL, "task", "(LFairSlots;II[J)I"⟩
abbrev cL_part : ByteArray := method_4_code
def yL_part : MethodName := ⟨RL, "part", "(LFairSlots;III[J)I"⟩
abbrev cL_row : ByteArray := method_5_code
def yL_row : MethodName := ⟨RL, "row", "(LFairSlots;I[J)I"⟩
abbrev cL_law : ByteArray := code
def yL_law : MethodName := ⟨RL, "law", "([I)Z"⟩
end
section
abbrev mj_E : Type := Nat × Instr × Nat × Nat × Int32 × Nat
abbrev mj_S : Type := MethodName × ByteArray × Nat × Option FieldType × Nat × Bool × Nat × Nat × Nat × Nat × String
def mj_sigs : List mj_S := [
  (yX0_clear, cX0_clear, 1, none, 1, false, 0, 735, 733, 734, RX0),
  (yX0_take, cX0_take, 8, none, 5, false, 0, 739, 737, 738, RX0),
  (yX1_add, cX1_add, 3, (some .int), 3, false, 1, 816, 814, 815, RX1),
  (yX1_clear, cX1_clear, 2, (some .int), 1, false, 1, 828, 826, 827, RX1),
  (yX1_fitting, cX1_fitting, 4, (some .int), 2, false, 1, 836, 834, 835, RX1),
  (yX1_whereSo, cX1_whereSo, 6, (some .int), 4, true, 1, 840, 839, 0, RX1),
  (yX1_isSo, cX1_isSo, 4, (some .boolean), 4, true, 1, 843, 842, 0, RX1),
  (yX2_release, cX2_release, 3, (some .int), 3, true, 2, 453, 452, 0, RX2),
  (yX2_deadline, cX2_deadline, 3, (some .int), 3, true, 2, 450, 449, 0, RX2),
  (yX2_overlap, cX2_overlap, 3, (some .int), 3, true, 2, 456, 455, 0, RX2),
  (yX2_group, cX2_group, 6, (some .int), 3, true, 2, 447, 446, 0, RX2),
  (yX3_remember, cX3_remember, 2, none, 2, false, 3, 471, 469, 470, RX3),
  (yX3_bringBack, cX3_bringBack, 2, (some .int), 2, false, 3, 638, 636, 637, RX3),
  (yX3_keepUnder, cX3_keepUnder, 3, (some .boolean), 3, false, 3, 940, 938, 939, RX3),
  (yX3_bringKept, cX3_bringKept, 3, (some .boolean), 3, false, 3, 948, 946, 947, RX3),
  (yX4_clear, cX4_clear, 1, none, 1, false, 4, 549, 547, 548, RX4),
  (yX4_add, cX4_add, 3, none, 2, false, 4, 553, 551, 552, RX4),
  (yX4_addFraction, cX4_addFraction, 7, none, 3, false, 4, 650, 648, 649, RX4),
  (yX4_commonDivisor, cX4_commonDivisor, 11, (some .long), 2, true, 4, 656, 655, 0, RX4),
  (yX5_append, cX5_append, 3, (some .int), 2, false, 5, 390, 388, 389, RX5),
  (yX5_cutTo, cX5_cutTo, 2, (some .boolean), 2, false, 5, 398, 396, 397, RX5),
  (yX5_clear, cX5_clear, 1, none, 1, false, 5, 463, 461, 462, RX5),
  (yX5_signAt, cX5_signAt, 2, (some .int), 2, false, 5, 436, 434, 435, RX5),
  (yX5_digitAt, cX5_digitAt, 3, (some .int), 2, false, 5, 432, 430, 431, RX5),
  (yX5_readTies, cX5_readTies, 3, (some .int), 2, false, 5, 480, 478, 479, RX5),
  (yX5_readLines, cX5_readLines, 4, (some .int), 2, false, 5, 413, 411, 412, RX5),
  (yX5_readLine, cX5_readLine, 8, (some .int), 2, false, 5, 420, 419, 0, RX5),
  (yX5_readNumber, cX5_readNumber, 3, (some .int), 1, false, 5, 428, 427, 1, RX5),
  (yX5_actLength, cX5_actLength, 2, (some .int), 2, false, 5, 623, 621, 622, RX5),
  (yX5_firstBadAct, cX5_firstBadAct, 4, (some .int), 1, false, 5, 619, 617, 618, RX5),
  (yX6_add, cX6_add, 3, (some .int), 3, false, 6, 859, 857, 858, RX6),
  (yX6_clear, cX6_clear, 2, (some .int), 1, false, 6, 867, 865, 866, RX6),
  (yX6_fit, cX6_fit, 4, (some .boolean), 3, false, 6, 875, 873, 874, RX6),
  (yX6_mostAlike, cX6_mostAlike, 6, (some .int), 2, false, 6, 884, 882, 883, RX6),
  (yX7_gather, cX7_gather, 5, (some .int), 3, false, 7, 747, 745, 746, RX7),
  (yX7_gatherOf, cX7_gatherOf, 11, (some .int), 4, false, 7, 753, 752, 7, RX7),
  (yX7_greatest, cX7_greatest, 4, (some .int), 2, false, 7, 763, 761, 762, RX7),
  (yX7_findPlace, cX7_findPlace, 5, (some .boolean), 3, false, 7, 767, 766, 8, RX7),
  (yX7_reach, cX7_reach, 3, none, 3, false, 7, 771, 770, 9, RX7),
  (yX7_goOnFromPart, cX7_goOnFromPart, 4, none, 2, false, 7, 775, 774, 10, RX7),
  (yX7_goOnFromPlace, cX7_goOnFromPlace, 2, none, 2, false, 7, 779, 778, 11, RX7),
  (yX7_goOnFromSlot, cX7_goOnFromSlot, 4, none, 2, false, 7, 787, 786, 13, RX7),
  (yX7_settle, cX7_settle, 5, none, 2, false, 7, 783, 782, 12, RX7),
  (yX8_copyFrom, cX8_copyFrom, 2, none, 2, false, 8, 492, 490, 491, RX8),
  (yX8_clear, cX8_clear, 1, none, 1, false, 8, 484, 482, 483, RX8),
  (yX8_add, cX8_add, 3, (some .boolean), 2, false, 8, 488, 486, 487, RX8),
  (yX8_isAhead, cX8_isAhead, 6, (some .boolean), 4, false, 8, 535, 533, 534, RX8),
  (yX8_leadBy, cX8_leadBy, 4, (some .int), 4, true, 8, 538, 537, 0, RX8),
  (yX9_copyFrom, cX9_copyFrom, 2, none, 2, false, 9, 406, 404, 405, RX9),
  (yX9_isThere, cX9_isThere, 2, (some .boolean), 2, false, 9, 501, 499, 500, RX9),
  (yX9_thereSet, cX9_thereSet, 3, (some .int), 1, false, 9, 603, 601, 602, RX9),
  (yX9_leastFree, cX9_leastFree, 2, (some .int), 1, false, 9, 424, 422, 423, RX9),
  (yX9_doneOfAll, cX9_doneOfAll, 3, (some .int), 1, false, 9, 932, 930, 931, RX9),
  (yX9_enter, cX9_enter, 5, none, 5, false, 9, 440, 438, 439, RX9),
  (yX9_lookAtNext, cX9_lookAtNext, 6, none, 2, false, 9, 444, 443, 2, RX9),
  (yX9_releaseOf, cX9_releaseOf, 3, (some .int), 3, false, 9, 759, 757, 758, RX9),
  (yX9_deadlineOf, cX9_deadlineOf, 3, (some .int), 3, false, 9, 595, 593, 594, RX9),
  (yX9_overlapOf, cX9_overlapOf, 3, (some .int), 3, false, 9, 599, 597, 598, RX9),
  (yX9_groupOf, cX9_groupOf, 4, (some .int), 3, false, 9, 591, 589, 590, RX9),
  (yX9_isReady, cX9_isReady, 2, (some .boolean), 2, false, 9, 520, 518, 519, RX9),
  (yX9_hasRun, cX9_hasRun, 2, (some .boolean), 2, false, 9, 545, 543, 544, RX9),
  (yX9_readySet, cX9_readySet, 4, (some .int), 2, false, 9, 516, 514, 515, RX9),
  (yX9_firstOf, cX9_firstOf, 5, (some .int), 3, false, 9, 531, 529, 530, RX9),
  (yX9_goBy, cX9_goBy, 6, none, 3, false, 9, 512, 510, 511, RX9),
  (yX9_goByMany, cX9_goByMany, 6, (some .int), 3, false, 9, 561, 559, 560, RX9),
  (yX9_takeProcessors, cX9_takeProcessors, 3, (some .int), 2, false, 9, 570, 568, 569, RX9),
  (yX9_letGo, cX9_letGo, 2, (some .int), 2, false, 9, 583, 581, 582, RX9),
  (yX9_mayLeaveFrom, cX9_mayLeaveFrom, 4, (some .int), 2, false, 9, 587, 586, 4, RX9),
  (yX9_turnEarly, cX9_turnEarly, 2, (some .int), 2, false, 9, 611, 609, 610, RX9),
  (yX9_weightSum, cX9_weightSum, 3, (some .int), 1, false, 9, 467, 465, 466, RX9),
  (yX9_heaviestOf, cX9_heaviestOf, 5, (some .int), 2, false, 9, 808, 806, 807, RX9),
  (yX9_lagUpper, cX9_lagUpper, 2, (some .int), 2, false, 9, 646, 644, 645, RX9),
  (yX9_compareLags, cX9_compareLags, 7, (some .int), 3, false, 9, 677, 675, 676, RX9),
  (yX9_hasLagsOf, cX9_hasLagsOf, 3, (some .boolean), 2, false, 9, 708, 706, 707, RX9),
  (yX10_sign, cX10_sign, 2, (some .int), 2, false, 10, 386, 384, 385, RX10),
  (yX10_end, cX10_end, 2, (some .boolean), 2, false, 10, 394, 392, 393, RX10),
  (yX10_joins, cX10_joins, 2, (some .int), 1, false, 10, 402, 400, 401, RX10),
  (yX10_ties, cX10_ties, 2, (some .int), 1, false, 10, 476, 474, 475, RX10),
  (yX10_task, cX10_task, 3, (some .int), 3, false, 10, 960, 958, 959, RX10),
  (yX10_part, cX10_part, 4, (some .int), 4, false, 10, 1028, 1026, 1027, RX10),
  (yX10_sheet, cX10_sheet, 10, (some .int), 5, false, 10, 497, 495, 496, RX10),
  (yX10_entry, cX10_entry, 2, (some .int), 2, true, 10, 504, 503, 0, RX10),
  (yX10_slot, cX10_slot, 2, (some .int), 1, false, 10, 508, 506, 507, RX10),
  (yX10_slots, cX10_slots, 4, (some .int), 2, false, 10, 557, 555, 556, RX10),
  (yX10_processors, cX10_processors, 2, (some .int), 2, false, 10, 566, 564, 565, RX10),
  (yX10_leaves, cX10_leaves, 2, (some .int), 2, false, 10, 579, 577, 578, RX10),
  (yX10_hurries, cX10_hurries, 2, (some .int), 2, false, 10, 607, 605, 606, RX10),
  (yX10_rememberedIfDone, cX10_rememberedIfDone, 2, (some .int), 2, false, 10, 575, 574, 3, RX10),
  (yX10_shift, cX10_shift, 6, (some .int), 1, false, 10, 615, 613, 614, RX10),
  (yX10_answerOfAct, cX10_answerOfAct, 3, (some .int), 2, false, 10, 627, 626, 5, RX10),
  (yX10_undo, cX10_undo, 1, (some .int), 1, false, 10, 634, 632, 633, RX10),
  (yX10_lag, cX10_lag, 2, (some .int), 2, false, 10, 642, 640, 641, RX10),
  (yX10_use, cX10_use, 2, (some .int), 1, false, 10, 661, 659, 660, RX10),
  (yX10_order, cX10_order, 5, (some .int), 1, false, 10, 666, 664, 665, RX10),
  (yX10_behind, cX10_behind, 3, (some .int), 1, false, 10, 673, 671, 672, RX10),
  (yX10_ahead, cX10_ahead, 5, (some .int), 2, false, 10, 685, 683, 684, RX10),
  (yX10_runs, cX10_runs, 3, (some .int), 2, false, 10, 690, 688, 689, RX10),
  (yX10_when, cX10_when, 5, (some .int), 3, false, 10, 694, 692, 693, RX10),
  (yX10_misses, cX10_misses, 3, (some .int), 1, false, 10, 699, 697, 698, RX10),
  (yX10_round, cX10_round, 3, (some .int), 1, false, 10, 703, 701, 702, RX10),
  (yX10_share, cX10_share, 10, (some .int), 3, false, 10, 712, 710, 711, RX10),
  (yX10_pairs, cX10_pairs, 7, (some .int), 2, false, 10, 720, 718, 719, RX10),
  (yX10_countPairs, cX10_countPairs, 5, none, 2, false, 10, 724, 723, 6, RX10),
  (yX10_lags, cX10_lags, 4, (some .int), 2, false, 10, 731, 729, 730, RX10),
  (yX10_flow, cX10_flow, 3, (some .int), 2, false, 10, 743, 741, 742, RX10),
  (yX10_waits, cX10_waits, 4, (some .int), 2, false, 10, 791, 789, 790, RX10),
  (yX10_missesWhenKept, cX10_missesWhenKept, 4, (some .boolean), 3, false, 10, 795, 794, 14, RX10),
  (yX10_room, cX10_room, 8, (some .int), 1, false, 10, 799, 797, 798, RX10),
  (yX10_fewest, cX10_fewest, 8, (some .int), 1, false, 10, 804, 802, 803, RX10),
  (yX10_heard, cX10_heard, 3, (some .int), 3, false, 10, 812, 810, 811, RX10),
  (yX10_forget, cX10_forget, 1, (some .int), 1, false, 10, 824, 822, 823, RX10),
  (yX10_fits, cX10_fits, 2, (some .int), 1, false, 10, 832, 830, 831, RX10),
  (yX10_asks, cX10_asks, 9, (some .int), 1, false, 10, 848, 846, 847, RX10),
  (yX10_saw, cX10_saw, 3, (some .int), 3, false, 10, 855, 853, 854, RX10),
  (yX10_denies, cX10_denies, 1, (some .int), 1, false, 10, 863, 861, 862, RX10),
  (yX10_weights, cX10_weights, 4, (some .int), 1, false, 10, 871, 869, 870, RX10),
  (yX10_looks, cX10_looks, 5, (some .int), 1, false, 10, 880, 878, 879, RX10),
  (yX10_odds, cX10_odds, 9, (some .int), 4, false, 10, 891, 889, 890, RX10),
  (yX10_divisors, cX10_divisors, 2, (some .int), 2, false, 10, 899, 897, 898, RX10),
  (yX10_rests, cX10_rests, 5, (some .int), 2, false, 10, 903, 901, 902, RX10),
  (yX10_isBest, cX10_isBest, 5, (some .boolean), 3, true, 10, 906, 905, 0, RX10),
  (yX10_gain, cX10_gain, 4, (some .int), 3, true, 10, 909, 908, 0, RX10),
  (yX10_law, cX10_law, 6, (some .int), 1, false, 10, 913, 911, 912, RX10),
  (yX10_firstMissBy, cX10_firstMissBy, 5, (some .int), 2, false, 10, 917, 916, 15, RX10),
  (yX10_years, cX10_years, 7, (some .int), 3, false, 10, 921, 919, 920, RX10),
  (yX10_nextDraw, cX10_nextDraw, 1, (some .int), 1, true, 10, 924, 923, 0, RX10),
  (yX10_drawOf, cX10_drawOf, 2, (some .int), 2, true, 10, 928, 927, 0, RX10),
  (yX10_keep, cX10_keep, 2, (some .boolean), 2, false, 10, 936, 934, 935, RX10),
  (yX10_again, cX10_again, 2, (some .boolean), 2, false, 10, 944, 942, 943, RX10),
  (yX10_count, cX10_count, 2, (some .int), 2, false, 10, 952, 950, 951, RX10),
  (yX10_row, cX10_row, 2, (some .long), 2, false, 10, 1038, 1036, 1037, RX10),
  (yX11_thrown, cX11_thrown, 1, (some .int), 1, false, 11, 1188, 1186, 1187, RX11),
  (yX11_in, cX11_in, 3, (some .boolean), 3, true, 11, 1199, 1198, 0, RX11),
  (yX11_has, cX11_has, 2, (some .boolean), 2, true, 11, 1326, 1325, 0, RX11),
  (yX11_lost, cX11_lost, 1, (some .int), 1, false, 11, 1288, 1287, 31, RX11),
  (yX11_tell, cX11_tell, 3, none, 2, false, 11, 1341, 1340, 35, RX11),
  (yX11_isThere, cX11_isThere, 2, (some .boolean), 2, true, 11, 1217, 1216, 0, RX11),
  (yX11_isTask, cX11_isTask, 2, (some .boolean), 2, false, 11, 1284, 1283, 30, RX11),
  (yX11_thereOf, cX11_thereOf, 3, (some .int), 1, true, 11, 1214, 1213, 0, RX11),
  (yX11_common, cX11_common, 4, (some .long), 2, true, 11, 1260, 1259, 0, RX11),
  (yX11_tellPart, cX11_tellPart, 7, none, 3, false, 11, 1398, 1397, 40, RX11),
  (yX11_layUse, cX11_layUse, 5, none, 2, false, 11, 1257, 1256, 27, RX11),
  (yX11_releaseOf, cX11_releaseOf, 3, (some .int), 3, true, 11, 1295, 1294, 0, RX11),
  (yX11_deadlineOf, cX11_deadlineOf, 3, (some .int), 3, true, 11, 1298, 1297, 0, RX11),
  (yX11_overlapOf, cX11_overlapOf, 3, (some .int), 3, true, 11, 1301, 1300, 0, RX11),
  (yX11_lengthOf, cX11_lengthOf, 3, (some .int), 3, true, 11, 1307, 1306, 0, RX11),
  (yX11_groupOf, cX11_groupOf, 6, (some .int), 3, true, 11, 1304, 1303, 0, RX11),
  (yX11_isReady, cX11_isReady, 2, (some .boolean), 2, true, 11, 1329, 1328, 0, RX11),
  (yX11_leadBy, cX11_leadBy, 6, (some .int), 4, true, 11, 1336, 1335, 0, RX11),
  (yX11_isAhead, cX11_isAhead, 6, (some .boolean), 4, false, 11, 1333, 1332, 34, RX11),
  (yX11_layOrder, cX11_layOrder, 8, (some .int), 3, false, 11, 1323, 1322, 33, RX11),
  (yX11_sign, cX11_sign, 3, (some .int), 2, false, 11, 1192, 1190, 1191, RX11),
  (yX11_end, cX11_end, 2, (some .boolean), 2, false, 11, 1196, 1194, 1195, RX11),
  (yX11_begin, cX11_begin, 4, none, 4, false, 11, 1211, 1210, 18, RX11),
  (yX11_beginText, cX11_beginText, 2, none, 2, false, 11, 1207, 1206, 17, RX11),
  (yX11_here, cX11_here, 1, (some .int), 1, false, 11, 1242, 1241, 24, RX11),
  (yX11_fine, cX11_fine, 1, (some .boolean), 1, false, 11, 1222, 1221, 19, RX11),
  (yX11_fault, cX11_fault, 2, none, 2, false, 11, 1226, 1225, 20, RX11),
  (yX11_passes, cX11_passes, 2, (some .boolean), 2, false, 11, 1246, 1245, 25, RX11),
  (yX11_oneOf, cX11_oneOf, 3, (some .int), 3, false, 11, 1238, 1237, 23, RX11),
  (yX11_wasRight, cX11_wasRight, 1, (some .boolean), 1, false, 11, 1250, 1249, 26, RX11),
  (yX11_numberOf, cX11_numberOf, 2, (some .int), 1, false, 11, 1234, 1233, 22, RX11),
  (yX11_readLine, cX11_readLine, 6, none, 2, false, 11, 1230, 1229, 21, RX11),
  (yX11_joins, cX11_joins, 6, (some .int), 1, false, 11, 1203, 1201, 1202, RX11),
  (yX11_isTie, cX11_isTie, 1, (some .boolean), 1, true, 11, 1276, 1275, 0, RX11),
  (yX11_rightTies, cX11_rightTies, 4, (some .int), 2, false, 11, 1273, 1272, 29, RX11),
  (yX11_ties, cX11_ties, 4, (some .int), 1, false, 11, 1269, 1267, 1268, RX11),
  (yX11_task, cX11_task, 3, (some .int), 3, false, 11, 1280, 1278, 1279, RX11),
  (yX11_part, cX11_part, 4, (some .int), 4, false, 11, 1292, 1290, 1291, RX11),
  (yX11_sheet, cX11_sheet, 10, (some .int), 5, false, 11, 1311, 1309, 1310, RX11),
  (yX11_lay, cX11_lay, 4, none, 3, true, 11, 1253, 1252, 0, RX11),
  (yX11_remember, cX11_remember, 3, none, 2, false, 11, 1265, 1264, 28, RX11),
  (yX11_goSlot, cX11_goSlot, 5, (some .int), 3, false, 11, 1319, 1318, 32, RX11),
  (yX11_slot, cX11_slot, 2, (some .int), 1, false, 11, 1315, 1313, 1314, RX11),
  (yX11_goSlots, cX11_goSlots, 6, (some .int), 3, false, 11, 1349, 1348, 36, RX11),
  (yX11_slots, cX11_slots, 4, (some .int), 2, false, 11, 1345, 1343, 1344, RX11),
  (yX11_refusesProcessors, cX11_refusesProcessors, 2, (some .int), 2, false, 11, 1357, 1356, 37, RX11),
  (yX11_processors, cX11_processors, 4, (some .int), 2, false, 11, 1353, 1351, 1352, RX11),
  (yX11_refusesLeaving, cX11_refusesLeaving, 5, (some .int), 2, true, 11, 1364, 1363, 0, RX11),
  (yX11_goLeave, cX11_goLeave, 2, (some .int), 2, true, 11, 1367, 1366, 0, RX11),
  (yX11_leaves, cX11_leaves, 3, (some .int), 2, false, 11, 1361, 1359, 1360, RX11),
  (yX11_hurries, cX11_hurries, 2, (some .int), 2, false, 11, 1371, 1369, 1370, RX11),
  (yX11_shift, cX11_shift, 3, (some .int), 1, false, 11, 1375, 1373, 1374, RX11),
  (yX11_readAct, cX11_readAct, 4, none, 2, false, 11, 1379, 1378, 38, RX11),
  (yX11_act, cX11_act, 3, (some .boolean), 3, false, 11, 1383, 1382, 39, RX11),
  (yX11_undo, cX11_undo, 2, (some .int), 1, false, 11, 1387, 1385, 1386, RX11),
  (yX11_lagUp, cX11_lagUp, 2, (some .int), 2, true, 11, 1394, 1393, 0, RX11),
  (yX11_lag, cX11_lag, 2, (some .int), 2, false, 11, 1391, 1389, 1390, RX11),
  (yX11_use, cX11_use, 1, (some .int), 1, false, 11, 1402, 1400, 1401, RX11),
  (yX11_order, cX11_order, 3, (some .int), 1, false, 11, 1406, 1404, 1405, RX11),
  (yX11_greatestLag, cX11_greatestLag, 3, (some .int), 1, true, 11, 1413, 1412, 0, RX11),
  (yX11_behind, cX11_behind, 2, (some .int), 1, false, 11, 1410, 1408, 1409, RX11),
  (yX11_ahead, cX11_ahead, 2, (some .int), 2, false, 11, 1417, 1415, 1416, RX11),
  (yX11_runs, cX11_runs, 3, (some .int), 2, false, 11, 1421, 1419, 1420, RX11),
  (yX11_when, cX11_when, 4, (some .int), 3, false, 11, 1425, 1423, 1424, RX11),
  (yX11_misses, cX11_misses, 2, (some .int), 1, false, 11, 1429, 1427, 1428, RX11),
  (yX11_round, cX11_round, 5, (some .int), 1, false, 11, 1433, 1431, 1432, RX11),
  (yX11_share, cX11_share, 10, (some .int), 3, false, 11, 1437, 1435, 1436, RX11),
  (yX11_pairs, cX11_pairs, 6, (some .int), 2, false, 11, 1442, 1440, 1441, RX11),
  (yX11_lags, cX11_lags, 19, (some .int), 2, false, 11, 1446, 1444, 1445, RX11),
  (yX11_layDue, cX11_layDue, 4, none, 2, false, 11, 1454, 1453, 41, RX11),
  (yX11_finds, cX11_finds, 5, (some .boolean), 2, false, 11, 1458, 1457, 42, RX11),
  (yX11_hasRoom, cX11_hasRoom, 4, (some .boolean), 2, false, 11, 1462, 1461, 43, RX11),
  (yX11_flow, cX11_flow, 5, (some .int), 2, false, 11, 1450, 1448, 1449, RX11),
  (yX11_waits, cX11_waits, 5, (some .int), 2, false, 11, 1466, 1464, 1465, RX11),
  (yX11_room, cX11_room, 7, (some .int), 1, false, 11, 1470, 1468, 1469, RX11),
  (yX11_fewest, cX11_fewest, 10, (some .int), 1, false, 11, 1474, 1472, 1473, RX11),
  (yX11_lowOf, cX11_lowOf, 1, (some .int), 1, true, 11, 1481, 1480, 0, RX11),
  (yX11_highOf, cX11_highOf, 1, (some .int), 1, true, 11, 1484, 1483, 0, RX11),
  (yX11_heard, cX11_heard, 3, (some .int), 3, false, 11, 1478, 1476, 1477, RX11),
  (yX11_forget, cX11_forget, 2, (some .int), 1, false, 11, 1488, 1486, 1487, RX11),
  (yX11_isSo, cX11_isSo, 4, (some .boolean), 4, false, 11, 1500, 1499, 45, RX11),
  (yX11_fitting, cX11_fitting, 5, (some .int), 1, false, 11, 1496, 1495, 44, RX11),
  (yX11_fits, cX11_fits, 2, (some .int), 1, false, 11, 1492, 1490, 1491, RX11),
  (yX11_asks, cX11_asks, 8, (some .int), 1, false, 11, 1504, 1502, 1503, RX11),
  (yX11_saw, cX11_saw, 3, (some .int), 3, false, 11, 1509, 1507, 1508, RX11),
  (yX11_denies, cX11_denies, 2, (some .int), 1, false, 11, 1513, 1511, 1512, RX11),
  (yX11_isWeight, cX11_isWeight, 4, (some .boolean), 3, false, 11, 1521, 1520, 46, RX11),
  (yX11_weights, cX11_weights, 4, (some .int), 1, false, 11, 1517, 1515, 1516, RX11),
  (yX11_looks, cX11_looks, 8, (some .int), 1, false, 11, 1525, 1523, 1524, RX11),
  (yX11_odds, cX11_odds, 12, (some .int), 4, false, 11, 1529, 1527, 1528, RX11),
  (yX11_take, cX11_take, 3, (some .int), 2, false, 11, 1538, 1537, 47, RX11),
  (yX11_divisors, cX11_divisors, 3, (some .int), 2, false, 11, 1534, 1532, 1533, RX11),
  (yX11_gets, cX11_gets, 3, (some .int), 3, true, 11, 1548, 1547, 0, RX11),
  (yX11_isBest, cX11_isBest, 4, (some .boolean), 3, true, 11, 1545, 1544, 0, RX11),
  (yX11_rests, cX11_rests, 5, (some .int), 2, false, 11, 1542, 1540, 1541, RX11),
  (yX11_lay60, cX11_lay60, 2, (some .int), 1, false, 11, 1556, 1555, 48, RX11),
  (yX11_law, cX11_law, 8, (some .int), 1, false, 11, 1552, 1550, 1551, RX11),
  (yX11_draw, cX11_draw, 2, (some .int), 2, false, 11, 1564, 1563, 49, RX11),
  (yX11_doneOf, cX11_doneOf, 3, (some .int), 1, true, 11, 1568, 1567, 0, RX11),
  (yX11_years, cX11_years, 6, (some .int), 3, false, 11, 1560, 1558, 1559, RX11),
  (yX11_keep, cX11_keep, 2, (some .boolean), 2, false, 11, 1572, 1570, 1571, RX11),
  (yX11_again, cX11_again, 3, (some .boolean), 2, false, 11, 1576, 1574, 1575, RX11),
  (yX11_count, cX11_count, 2, (some .int), 2, false, 11, 1580, 1578, 1579, RX11),
  (yX11_row, cX11_row, 2, (some .long), 2, false, 11, 1584, 1582, 1583, RX11),
  (yJ6_compare_7cf53, cJ6_compare_7cf53, 2, (some .int), 2, true, 99, 541, 540, 0, RJ6),
  (yJ6_bitCount_0f7a4, cJ6_bitCount_0f7a4, 1, (some .int), 1, true, 99, 524, 523, 0, RJ6),
  (yJ13_compare_74951, cJ13_compare_74951, 4, (some .int), 2, true, 99, 681, 680, 0, RJ13),
  (yJ9_abs_067f4, cJ9_abs_067f4, 2, (some .long), 1, true, 99, 653, 652, 0, RJ9),
  (yJ9_max_7cf53, cJ9_max_7cf53, 2, (some .int), 2, true, 99, 716, 715, 0, RJ9),
  (yJ9_min_7cf53, cJ9_min_7cf53, 2, (some .int), 2, true, 99, 416, 415, 0, RJ9),
  (yJ7_fill_d0a16, cJ7_fill_d0a16, 5, none, 2, true, 99, 894, 893, 0, RJ7),
  (yJ7_fill_53178, cJ7_fill_53178, 4, none, 2, true, 99, 727, 726, 0, RJ7)]
def kX0_clear : List mj_E := [
  (0, .aload_n 0, 1, 0, 0, 0),
  (1, .iconst (-1), 2, 0, (-1), 0),
  (2, .putfield 9, 5, 0, 0, 287),
  (5, .return_, 6, 0, 0, 0)]
def kX0_take : List mj_E := [
  (0, .aload_n 0, 1, 0, 0, 0),
  (1, .getfield 9, 4, 0, 0, 287),
  (4, .iconst (-1), 5, 0, (-1), 0),
  (5, .if_icmp .ne 7, 8, 12, 0, 0),
  (8, .iconst 1, 9, 0, 1, 0),
  (9, .goto 4, 12, 13, 0, 0),
  (12, .iconst 0, 13, 0, 0, 0),
  (13, .istore 7, 15, 0, 0, 0),
  (15, .iload 7, 17, 0, 0, 0),
  (17, .ifCond .ne 20, 20, 37, 0, 0),
  (20, .lload_n 3, 21, 0, 0, 0),
  (21, .aload_n 0, 22, 0, 0, 0),
  (22, .getfield 15, 25, 3, 0, 293),
  (25, .lmul, 26, 0, 0, 0),
  (26, .aload_n 0, 27, 0, 0, 0),
  (27, .getfield 19, 30, 2, 0, 291),
  (30, .lload 5, 32, 0, 0, 0),
  (32, .lmul, 33, 0, 0, 0),
  (33, .lcmp, 34, 0, 0, 0),
  (34, .ifCond .le 24, 37, 58, 0, 0),
  (37, .aload_n 0, 38, 0, 0, 0),
  (38, .iload_n 1, 39, 0, 0, 0),
  (39, .putfield 9, 42, 0, 0, 287),
  (42, .aload_n 0, 43, 0, 0, 0),
  (43, .iload_n 2, 44, 0, 0, 0),
  (44, .putfield 22, 47, 1, 0, 289),
  (47, .aload_n 0, 48, 0, 0, 0),
  (48, .lload_n 3, 49, 0, 0, 0),
  (49, .putfield 19, 52, 2, 0, 291),
  (52, .aload_n 0, 53, 0, 0, 0),
  (53, .lload 5, 55, 0, 0, 0),
  (55, .putfield 15, 58, 3, 0, 293),
  (58, .iload 7, 60, 0, 0, 0),
  (60, .ifCond .ne 20, 63, 80, 0, 0),
  (63, .lload_n 3, 64, 0, 0, 0),
  (64, .aload_n 0, 65, 0, 0, 0),
  (65, .getfield 25, 68, 5, 0, 297),
  (68, .lmul, 69, 0, 0, 0),
  (69, .aload_n 0, 70, 0, 0, 0),
  (70, .getfield 28, 73, 4, 0, 295),
  (73, .lload 5, 75, 0, 0, 0),
  (75, .lmul, 76, 0, 0, 0),
  (76, .lcmp, 77, 0, 0, 0),
  (77, .ifCond .ge 14, 80, 91, 0, 0),
  (80, .aload_n 0, 81, 0, 0, 0),
  (81, .lload_n 3, 82, 0, 0, 0),
  (82, .putfield 28, 85, 4, 0, 295),
  (85, .aload_n 0, 86, 0, 0, 0),
  (86, .lload 5, 88, 0, 0, 0),
  (88, .putfield 25, 91, 5, 0, 297),
  (91, .return_, 92, 0, 0, 0)]
def kX1_add : List mj_E := [
  (0, .iload_n 1, 1, 0, 0, 0),
  (1, .ifCond .lt 26, 4, 27, 0, 0),
  (4, .iload_n 1, 5, 0, 0, 0),
  (5, .iconst 5, 6, 0, 5, 0),
  (6, .if_icmp .ge 21, 9, 27, 0, 0),
  (9, .iload_n 2, 10, 0, 0, 0),
  (10, .getstatic 18, 13, 5247, 0, 817),
  (13, .iload_n 1, 14, 0, 0, 0),
  (14, .iaload, 15, 0, 0, 0),
  (15, .if_icmp .lt 12, 18, 27, 0, 0),
  (18, .iload_n 2, 19, 0, 0, 0),
  (19, .getstatic 21, 22, 5248, 0, 819),
  (22, .iload_n 1, 23, 0, 0, 0),
  (23, .iaload, 24, 0, 0, 0),
  (24, .if_icmp .le 5, 27, 29, 0, 0),
  (27, .iconst (-1), 28, 0, (-1), 0),
  (28, .ireturn, 29, 0, 0, 0),
  (29, .aload_n 0, 30, 0, 0, 0),
  (30, .getfield 24, 33, 66, 0, 252),
  (33, .bipush 12, 35, 0, 12, 0),
  (35, .if_icmp .lt 5, 38, 40, 0, 0),
  (38, .iconst (-1), 39, 0, (-1), 0),
  (39, .ireturn, 40, 0, 0, 0),
  (40, .aload_n 0, 41, 0, 0, 0),
  (41, .getfield 11, 44, 64, 0, 250),
  (44, .aload_n 0, 45, 0, 0, 0),
  (45, .getfield 24, 48, 66, 0, 252),
  (48, .iload_n 1, 49, 0, 0, 0),
  (49, .iastore, 50, 0, 0, 0),
  (50, .aload_n 0, 51, 0, 0, 0),
  (51, .getfield 15, 54, 65, 0, 251),
  (54, .aload_n 0, 55, 0, 0, 0),
  (55, .getfield 24, 58, 66, 0, 252),
  (58, .iload_n 2, 59, 0, 0, 0),
  (59, .iastore, 60, 0, 0, 0),
  (60, .aload_n 0, 61, 0, 0, 0),
  (61, .dup, 62, 0, 0, 0),
  (62, .getfield 24, 65, 66, 0, 252),
  (65, .iconst 1, 66, 0, 1, 0),
  (66, .iadd, 67, 0, 0, 0),
  (67, .putfield 24, 70, 66, 0, 252),
  (70, .aload_n 0, 71, 0, 0, 0),
  (71, .getfield 24, 74, 66, 0, 252),
  (74, .ireturn, 75, 0, 0, 0)]
def kX1_clear : List mj_E := [
  (0, .aload_n 0, 1, 0, 0, 0),
  (1, .getfield 24, 4, 66, 0, 252),
  (4, .istore_n 1, 5, 0, 0, 0),
  (5, .aload_n 0, 6, 0, 0, 0),
  (6, .iconst 0, 7, 0, 0, 0),
  (7, .putfield 24, 10, 66, 0, 252),
  (10, .iload_n 1, 11, 0, 0, 0),
  (11, .ireturn, 12, 0, 0, 0)]
def kX1_fitting : List mj_E := [
  (0, .aload_n 1, 1, 0, 0, 0),
  (1, .invokevirtual 28, 4, 50, 0, 837),
  (4, .istore_n 2, 5, 0, 0, 0),
  (5, .iconst 0, 6, 0, 0, 0),
  (6, .istore_n 3, 7, 0, 0, 0),
  (7, .iload_n 3, 8, 0, 0, 0),
  (8, .aload_n 0, 9, 0, 0, 0),
  (9, .getfield 24, 12, 66, 0, 252),
  (12, .if_icmp .ge 27, 15, 39, 0, 0),
  (15, .aload_n 1, 16, 0, 0, 0),
  (16, .iload_n 2, 17, 0, 0, 0),
  (17, .aload_n 0, 18, 0, 0, 0),
  (18, .getfield 11, 21, 64, 0, 250),
  (21, .iload_n 3, 22, 0, 0, 0),
  (22, .iaload, 23, 0, 0, 0),
  (23, .aload_n 0, 24, 0, 0, 0),
  (24, .getfield 15, 27, 65, 0, 251),
  (27, .iload_n 3, 28, 0, 0, 0),
  (28, .iaload, 29, 0, 0, 0),
  (29, .invokestatic 34, 32, 5, 0, 838),
  (32, .istore_n 2, 33, 0, 0, 0),
  (33, .iinc 3 1, 36, 0, 1, 0),
  (36, .goto (-29), 39, 7, 0, 0),
  (39, .iload_n 2, 40, 0, 0, 0),
  (40, .ireturn, 41, 0, 0, 0)]
def kX1_whereSo : List mj_E := [
  (0, .iconst 0, 1, 0, 0, 0),
  (1, .istore 4, 3, 0, 0, 0),
  (3, .iconst 0, 4, 0, 0, 0),
  (4, .istore 5, 6, 0, 0, 0),
  (6, .iload 5, 8, 0, 0, 0),
  (8, .bipush 8, 10, 0, 8, 0),
  (10, .if_icmp .ge 38, 13, 48, 0, 0),
  (13, .iload_n 1, 14, 0, 0, 0),
  (14, .iload 5, 16, 0, 0, 0),
  (16, .ishr, 17, 0, 0, 0),
  (17, .iconst 1, 18, 0, 1, 0),
  (18, .iand, 19, 0, 0, 0),
  (19, .ifCond .eq 23, 22, 42, 0, 0),
  (22, .aload_n 0, 23, 0, 0, 0),
  (23, .iload 5, 25, 0, 0, 0),
  (25, .iload_n 2, 26, 0, 0, 0),
  (26, .iload_n 3, 27, 0, 0, 0),
  (27, .invokestatic 38, 30, 6, 0, 841),
  (30, .ifCond .eq 12, 33, 42, 0, 0),
  (33, .iload 4, 35, 0, 0, 0),
  (35, .iconst 1, 36, 0, 1, 0),
  (36, .iload 5, 38, 0, 0, 0),
  (38, .ishl, 39, 0, 0, 0),
  (39, .ior, 40, 0, 0, 0),
  (40, .istore 4, 42, 0, 0, 0),
  (42, .iinc 5 1, 45, 0, 1, 0),
  (45, .goto (-39), 48, 6, 0, 0),
  (48, .iload 4, 50, 0, 0, 0),
  (50, .ireturn, 51, 0, 0, 0)]
def kX1_isSo : List mj_E := [
  (0, .iload_n 2, 1, 0, 0, 0),
  (1, .tableswitch 148 0 4 #[35, 51, 67, 91, 132], 36, 0, 0, 0),
  (36, .aload_n 0, 37, 0, 0, 0),
  (37, .getfield 42, 40, 577, 0, 92),
  (40, .iload_n 1, 41, 0, 0, 0),
  (41, .iaload, 42, 0, 0, 0),
  (42, .iload_n 3, 43, 0, 0, 0),
  (43, .if_icmp .ne 7, 46, 50, 0, 0),
  (46, .iconst 1, 47, 0, 1, 0),
  (47, .goto 4, 50, 51, 0, 0),
  (50, .iconst 0, 51, 0, 0, 0),
  (51, .ireturn, 52, 0, 0, 0),
  (52, .aload_n 0, 53, 0, 0, 0),
  (53, .getfield 45, 56, 576, 0, 88),
  (56, .iload_n 1, 57, 0, 0, 0),
  (57, .iaload, 58, 0, 0, 0),
  (58, .iload_n 3, 59, 0, 0, 0),
  (59, .if_icmp .lt 7, 62, 66, 0, 0),
  (62, .iconst 1, 63, 0, 1, 0),
  (63, .goto 4, 66, 67, 0, 0),
  (66, .iconst 0, 67, 0, 0, 0),
  (67, .ireturn, 68, 0, 0, 0),
  (68, .aload_n 0, 69, 0, 0, 0),
  (69, .iload_n 1, 70, 0, 0, 0),
  (70, .invokevirtual 48, 73, 59, 0, 844),
  (73, .iload_n 3, 74, 0, 0, 0),
  (74, .iconst 1, 75, 0, 1, 0),
  (75, .if_icmp .ne 7, 78, 82, 0, 0),
  (78, .iconst 1, 79, 0, 1, 0),
  (79, .goto 4, 82, 83, 0, 0),
  (82, .iconst 0, 83, 0, 0, 0),
  (83, .if_icmp .ne 7, 86, 90, 0, 0),
  (86, .iconst 1, 87, 0, 1, 0),
  (87, .goto 4, 90, 91, 0, 0),
  (90, .iconst 0, 91, 0, 0, 0),
  (91, .ireturn, 92, 0, 0, 0),
  (92, .iconst 2, 93, 0, 2, 0),
  (93, .aload_n 0, 94, 0, 0, 0),
  (94, .getfield 45, 97, 576, 0, 88),
  (97, .iload_n 1, 98, 0, 0, 0),
  (98, .iaload, 99, 0, 0, 0),
  (99, .imul, 100, 0, 0, 0),
  (100, .aload_n 0, 101, 0, 0, 0),
  (101, .getfield 42, 104, 577, 0, 92),
  (104, .iload_n 1, 105, 0, 0, 0),
  (105, .iaload, 106, 0, 0, 0),
  (106, .if_icmp .lt 7, 109, 113, 0, 0),
  (109, .iconst 1, 110, 0, 1, 0),
  (110, .goto 4, 113, 114, 0, 0),
  (113, .iconst 0, 114, 0, 0, 0),
  (114, .iload_n 3, 115, 0, 0, 0),
  (115, .iconst 1, 116, 0, 1, 0),
  (116, .if_icmp .ne 7, 119, 123, 0, 0),
  (119, .iconst 1, 120, 0, 1, 0),
  (120, .goto 4, 123, 124, 0, 0),
  (123, .iconst 0, 124, 0, 0, 0),
  (124, .if_icmp .ne 7, 127, 131, 0, 0),
  (127, .iconst 1, 128, 0, 1, 0),
  (128, .goto 4, 131, 132, 0, 0),
  (131, .iconst 0, 132, 0, 0, 0),
  (132, .ireturn, 133, 0, 0, 0),
  (133, .aload_n 0, 134, 0, 0, 0),
  (134, .getfield 52, 137, 581, 0, 106),
  (137, .iload_n 1, 138, 0, 0, 0),
  (138, .iaload, 139, 0, 0, 0),
  (139, .iload_n 3, 140, 0, 0, 0),
  (140, .if_icmp .lt 7, 143, 147, 0, 0),
  (143, .iconst 1, 144, 0, 1, 0),
  (144, .goto 4, 147, 148, 0, 0),
  (147, .iconst 0, 148, 0, 0, 0),
  (148, .ireturn, 149, 0, 0, 0),
  (149, .iconst 0, 150, 0, 0, 0),
  (150, .ireturn, 151, 0, 0, 0)]
def kX2_release : List mj_E := [
  (0, .iload_n 0, 1, 0, 0, 0),
  (1, .ifCond .le 13, 4, 14, 0, 0),
  (4, .iload_n 2, 5, 0, 0, 0),
  (5, .iconst 1, 6, 0, 1, 0),
  (6, .isub, 7, 0, 0, 0),
  (7, .iload_n 1, 8, 0, 0, 0),
  (8, .imul, 9, 0, 0, 0),
  (9, .iload_n 0, 10, 0, 0, 0),
  (10, .idiv, 11, 0, 0, 0),
  (11, .goto 4, 14, 15, 0, 0),
  (14, .iconst 0, 15, 0, 0, 0),
  (15, .ireturn, 16, 0, 0, 0)]
def kX2_deadline : List mj_E := [
  (0, .iload_n 0, 1, 0, 0, 0),
  (1, .ifCond .le 15, 4, 16, 0, 0),
  (4, .iload_n 2, 5, 0, 0, 0),
  (5, .iload_n 1, 6, 0, 0, 0),
  (6, .imul, 7, 0, 0, 0),
  (7, .iload_n 0, 8, 0, 0, 0),
  (8, .iadd, 9, 0, 0, 0),
  (9, .iconst 1, 10, 0, 1, 0),
  (10, .isub, 11, 0, 0, 0),
  (11, .iload_n 0, 12, 0, 0, 0),
  (12, .idiv, 13, 0, 0, 0),
  (13, .goto 4, 16, 17, 0, 0),
  (16, .iconst 0, 17, 0, 0, 0),
  (17, .ireturn, 18, 0, 0, 0)]
def kX2_overlap : List mj_E := [
  (0, .iload_n 0, 1, 0, 0, 0),
  (1, .ifCond .le 15, 4, 16, 0, 0),
  (4, .iload_n 2, 5, 0, 0, 0),
  (5, .iload_n 1, 6, 0, 0, 0),
  (6, .imul, 7, 0, 0, 0),
  (7, .iload_n 0, 8, 0, 0, 0),
  (8, .irem, 9, 0, 0, 0),
  (9, .ifCond .eq 7, 12, 16, 0, 0),
  (12, .iconst 1, 13, 0, 1, 0),
  (13, .goto 4, 16, 17, 0, 0),
  (16, .iconst 0, 17, 0, 0, 0),
  (17, .ireturn, 18, 0, 0, 0)]
def kX2_group : List mj_E := [
  (0, .iconst 2, 1, 0, 2, 0),
  (1, .iload_n 0, 2, 0, 0, 0),
  (2, .imul, 3, 0, 0, 0),
  (3, .iload_n 1, 4, 0, 0, 0),
  (4, .if_icmp .ge 5, 7, 9, 0, 0),
  (7, .iconst 0, 8, 0, 0, 0),
  (8, .ireturn, 9, 0, 0, 0),
  (9, .iload_n 0, 10, 0, 0, 0),
  (10, .iload_n 1, 11, 0, 0, 0),
  (11, .iload_n 2, 12, 0, 0, 0),
  (12, .invokestatic 7, 15, 8, 0, 448),
  (15, .istore_n 3, 16, 0, 0, 0),
  (16, .iload_n 2, 17, 0, 0, 0),
  (17, .istore 4, 19, 0, 0, 0),
  (19, .iload 4, 21, 0, 0, 0),
  (21, .iload_n 2, 22, 0, 0, 0),
  (22, .iload_n 0, 23, 0, 0, 0),
  (23, .iadd, 24, 0, 0, 0),
  (24, .if_icmp .ge 56, 27, 80, 0, 0),
  (27, .iload_n 0, 28, 0, 0, 0),
  (28, .iload_n 1, 29, 0, 0, 0),
  (29, .iload 4, 31, 0, 0, 0),
  (31, .invokestatic 7, 34, 8, 0, 448),
  (34, .istore 5, 36, 0, 0, 0),
  (36, .iload 5, 38, 0, 0, 0),
  (38, .iload_n 3, 39, 0, 0, 0),
  (39, .if_icmp .le 22, 42, 61, 0, 0),
  (42, .iload 5, 44, 0, 0, 0),
  (44, .iload_n 0, 45, 0, 0, 0),
  (45, .iload_n 1, 46, 0, 0, 0),
  (46, .iload 4, 48, 0, 0, 0),
  (48, .invokestatic 13, 51, 7, 0, 451),
  (51, .isub, 52, 0, 0, 0),
  (52, .iconst 3, 53, 0, 3, 0),
  (53, .if_icmp .ne 8, 56, 61, 0, 0),
  (56, .iload 5, 58, 0, 0, 0),
  (58, .iconst 1, 59, 0, 1, 0),
  (59, .isub, 60, 0, 0, 0),
  (60, .ireturn, 61, 0, 0, 0),
  (61, .iload_n 0, 62, 0, 0, 0),
  (62, .iload_n 1, 63, 0, 0, 0),
  (63, .iload 4, 65, 0, 0, 0),
  (65, .invokestatic 16, 68, 9, 0, 454),
  (68, .ifCond .ne 6, 71, 74, 0, 0),
  (71, .iload 5, 73, 0, 0, 0),
  (73, .ireturn, 74, 0, 0, 0),
  (74, .iinc 4 1, 77, 0, 1, 0),
  (77, .goto (-58), 80, 19, 0, 0),
  (80, .iload_n 3, 81, 0, 0, 0),
  (81, .ireturn, 82, 0, 0, 0)]
def kX3_remember : List mj_E := [
  (0, .aload_n 0, 1, 0, 0, 0),
  (1, .getfield 11, 4, 192, 0, 175),
  (4, .aload_n 0, 5, 0, 0, 0),
  (5, .getfield 25, 8, 193, 0, 176),
  (8, .aload_n 0, 9, 0, 0, 0),
  (9, .getfield 29, 12, 194, 0, 177),
  (12, .iadd, 13, 0, 0, 0),
  (13, .bipush 12, 15, 0, 12, 0),
  (15, .irem, 16, 0, 0, 0),
  (16, .aaload, 17, 0, 0, 0),
  (17, .aload_n 1, 18, 0, 0, 0),
  (18, .invokevirtual 32, 21, 48, 0, 472),
  (21, .aload_n 0, 22, 0, 0, 0),
  (22, .getfield 29, 25, 194, 0, 177),
  (25, .bipush 12, 27, 0, 12, 0),
  (27, .if_icmp .ge 16, 30, 43, 0, 0),
  (30, .aload_n 0, 31, 0, 0, 0),
  (31, .dup, 32, 0, 0, 0),
  (32, .getfield 29, 35, 194, 0, 177),
  (35, .iconst 1, 36, 0, 1, 0),
  (36, .iadd, 37, 0, 0, 0),
  (37, .putfield 29, 40, 194, 0, 177),
  (40, .goto 16, 43, 56, 0, 0),
  (43, .aload_n 0, 44, 0, 0, 0),
  (44, .aload_n 0, 45, 0, 0, 0),
  (45, .getfield 25, 48, 193, 0, 176),
  (48, .iconst 1, 49, 0, 1, 0),
  (49, .iadd, 50, 0, 0, 0),
  (50, .bipush 12, 52, 0, 12, 0),
  (52, .irem, 53, 0, 0, 0),
  (53, .putfield 25, 56, 193, 0, 176),
  (56, .return_, 57, 0, 0, 0)]
def kX3_bringBack : List mj_E := [
  (0, .aload_n 0, 1, 0, 0, 0),
  (1, .getfield 29, 4, 194, 0, 177),
  (4, .ifCond .ne 5, 7, 9, 0, 0),
  (7, .iconst (-1), 8, 0, (-1), 0),
  (8, .ireturn, 9, 0, 0, 0),
  (9, .aload_n 0, 10, 0, 0, 0),
  (10, .dup, 11, 0, 0, 0),
  (11, .getfield 29, 14, 194, 0, 177),
  (14, .iconst 1, 15, 0, 1, 0),
  (15, .isub, 16, 0, 0, 0),
  (16, .putfield 29, 19, 194, 0, 177),
  (19, .aload_n 1, 20, 0, 0, 0),
  (20, .aload_n 0, 21, 0, 0, 0),
  (21, .getfield 11, 24, 192, 0, 175),
  (24, .aload_n 0, 25, 0, 0, 0),
  (25, .getfield 25, 28, 193, 0, 176),
  (28, .aload_n 0, 29, 0, 0, 0),
  (29, .getfield 29, 32, 194, 0, 177),
  (32, .iadd, 33, 0, 0, 0),
  (33, .bipush 12, 35, 0, 12, 0),
  (35, .irem, 36, 0, 0, 0),
  (36, .aaload, 37, 0, 0, 0),
  (37, .invokevirtual 32, 40, 48, 0, 472),
  (40, .aload_n 0, 41, 0, 0, 0),
  (41, .getfield 29, 44, 194, 0, 177),
  (44, .ireturn, 45, 0, 0, 0)]
def kX3_keepUnder : List mj_E := [
  (0, .iload_n 1, 1, 0, 0, 0),
  (1, .ifCond .lt 8, 4, 9, 0, 0),
  (4, .iload_n 1, 5, 0, 0, 0),
  (5, .iconst 2, 6, 0, 2, 0),
  (6, .if_icmp .lt 5, 9, 11, 0, 0),
  (9, .iconst 0, 10, 0, 0, 0),
  (10, .ireturn, 11, 0, 0, 0),
  (11, .aload_n 0, 12, 0, 0, 0),
  (12, .getfield 17, 15, 195, 0, 179),
  (15, .iload_n 1, 16, 0, 0, 0),
  (16, .aaload, 17, 0, 0, 0),
  (17, .aload_n 2, 18, 0, 0, 0),
  (18, .invokevirtual 32, 21, 48, 0, 472),
  (21, .aload_n 0, 22, 0, 0, 0),
  (22, .getfield 20, 25, 196, 0, 180),
  (25, .iload_n 1, 26, 0, 0, 0),
  (26, .iconst 1, 27, 0, 1, 0),
  (27, .bastore, 28, 0, 0, 0),
  (28, .iconst 1, 29, 0, 1, 0),
  (29, .ireturn, 30, 0, 0, 0)]
def kX3_bringKept : List mj_E := [
  (0, .iload_n 1, 1, 0, 0, 0),
  (1, .ifCond .lt 17, 4, 18, 0, 0),
  (4, .iload_n 1, 5, 0, 0, 0),
  (5, .iconst 2, 6, 0, 2, 0),
  (6, .if_icmp .ge 12, 9, 18, 0, 0),
  (9, .aload_n 0, 10, 0, 0, 0),
  (10, .getfield 20, 13, 196, 0, 180),
  (13, .iload_n 1, 14, 0, 0, 0),
  (14, .baload, 15, 0, 0, 0),
  (15, .ifCond .ne 5, 18, 20, 0, 0),
  (18, .iconst 0, 19, 0, 0, 0),
  (19, .ireturn, 20, 0, 0, 0),
  (20, .aload_n 2, 21, 0, 0, 0),
  (21, .aload_n 0, 22, 0, 0, 0),
  (22, .getfield 17, 25, 195, 0, 179),
  (25, .iload_n 1, 26, 0, 0, 0),
  (26, .aaload, 27, 0, 0, 0),
  (27, .invokevirtual 32, 30, 48, 0, 472),
  (30, .aload_n 0, 31, 0, 0, 0),
  (31, .iconst 0, 32, 0, 0, 0),
  (32, .putfield 29, 35, 194, 0, 177),
  (35, .iconst 1, 36, 0, 1, 0),
  (36, .ireturn, 37, 0, 0, 0)]
def kX4_clear : List mj_E := [
  (0, .aload_n 0, 1, 0, 0, 0),
  (1, .iconst 0, 2, 0, 0, 0),
  (2, .putfield 13, 5, 257, 0, 236),
  (5, .return_, 6, 0, 0, 0)]
def kX4_add : List mj_E := [
  (0, .aload_n 0, 1, 0, 0, 0),
  (1, .getfield 13, 4, 257, 0, 236),
  (4, .bipush 8, 6, 0, 8, 0),
  (6, .if_icmp .ge 23, 9, 29, 0, 0),
  (9, .aload_n 0, 10, 0, 0, 0),
  (10, .getfield 9, 13, 256, 0, 234),
  (13, .aload_n 0, 14, 0, 0, 0),
  (14, .getfield 13, 17, 257, 0, 236),
  (17, .lload_n 1, 18, 0, 0, 0),
  (18, .lastore, 19, 0, 0, 0),
  (19, .aload_n 0, 20, 0, 0, 0),
  (20, .dup, 21, 0, 0, 0),
  (21, .getfield 13, 24, 257, 0, 236),
  (24, .iconst 1, 25, 0, 1, 0),
  (25, .iadd, 26, 0, 0, 0),
  (26, .putfield 13, 29, 257, 0, 236),
  (29, .return_, 30, 0, 0, 0)]
def kX4_addFraction : List mj_E := [
  (0, .lload_n 1, 1, 0, 0, 0),
  (1, .invokestatic 17, 4, 238, 0, 651),
  (4, .lload_n 3, 5, 0, 0, 0),
  (5, .invokestatic 23, 8, 18, 0, 654),
  (8, .lstore 5, 10, 0, 0, 0),
  (10, .lload 5, 12, 0, 0, 0),
  (12, .lconst 0, 13, 0, 0, 0),
  (13, .lcmp, 14, 0, 0, 0),
  (14, .ifCond .gt 4, 17, 18, 0, 0),
  (17, .return_, 18, 0, 0, 0),
  (18, .aload_n 0, 19, 0, 0, 0),
  (19, .lload_n 1, 20, 0, 0, 0),
  (20, .lload 5, 22, 0, 0, 0),
  (22, .ldiv, 23, 0, 0, 0),
  (23, .invokevirtual 27, 26, 16, 0, 657),
  (26, .aload_n 0, 27, 0, 0, 0),
  (27, .lload_n 3, 28, 0, 0, 0),
  (28, .lload 5, 30, 0, 0, 0),
  (30, .ldiv, 31, 0, 0, 0),
  (31, .invokevirtual 27, 34, 16, 0, 657),
  (34, .return_, 35, 0, 0, 0)]
def kX4_commonDivisor : List mj_E := [
  (0, .lload_n 0, 1, 0, 0, 0),
  (1, .lstore 4, 3, 0, 0, 0),
  (3, .lload_n 2, 4, 0, 0, 0),
  (4, .lstore 6, 6, 0, 0, 0),
  (6, .iconst 0, 7, 0, 0, 0),
  (7, .istore 8, 9, 0, 0, 0),
  (9, .iload 8, 11, 0, 0, 0),
  (11, .bipush 100, 13, 0, 100, 0),
  (13, .if_icmp .ge 31, 16, 44, 0, 0),
  (16, .lload 6, 18, 0, 0, 0),
  (18, .lconst 0, 19, 0, 0, 0),
  (19, .lcmp, 20, 0, 0, 0),
  (20, .ifCond .eq 24, 23, 44, 0, 0),
  (23, .lload 4, 25, 0, 0, 0),
  (25, .lload 6, 27, 0, 0, 0),
  (27, .lrem, 28, 0, 0, 0),
  (28, .lstore 9, 30, 0, 0, 0),
  (30, .lload 6, 32, 0, 0, 0),
  (32, .lstore 4, 34, 0, 0, 0),
  (34, .lload 9, 36, 0, 0, 0),
  (36, .lstore 6, 38, 0, 0, 0),
  (38, .iinc 8 1, 41, 0, 1, 0),
  (41, .goto (-32), 44, 9, 0, 0),
  (44, .lload 4, 46, 0, 0, 0),
  (46, .lreturn, 47, 0, 0, 0)]
def kX5_append : List mj_E := [
  (0, .aload_n 0, 1, 0, 0, 0),
  (1, .getfield 15, 4, 321, 0, 200),
  (4, .iconst 4, 5, 0, 4, 0),
  (5, .iadd, 6, 0, 0, 0),
  (6, .bipush 80, 8, 0, 80, 0),
  (8, .if_icmp .le 5, 11, 13, 0, 0),
  (11, .iconst (-1), 12, 0, (-1), 0),
  (12, .ireturn, 13, 0, 0, 0),
  (13, .iconst 0, 14, 0, 0, 0),
  (14, .istore_n 2, 15, 0, 0, 0),
  (15, .iload_n 2, 16, 0, 0, 0),
  (16, .iconst 4, 17, 0, 4, 0),
  (17, .if_icmp .ge 34, 20, 51, 0, 0),
  (20, .aload_n 0, 21, 0, 0, 0),
  (21, .getfield 11, 24, 320, 0, 199),
  (24, .aload_n 0, 25, 0, 0, 0),
  (25, .getfield 15, 28, 321, 0, 200),
  (28, .iload_n 2, 29, 0, 0, 0),
  (29, .iadd, 30, 0, 0, 0),
  (30, .iload_n 1, 31, 0, 0, 0),
  (31, .bipush 24, 33, 0, 24, 0),
  (33, .bipush 8, 35, 0, 8, 0),
  (35, .iload_n 2, 36, 0, 0, 0),
  (36, .imul, 37, 0, 0, 0),
  (37, .isub, 38, 0, 0, 0),
  (38, .iushr, 39, 0, 0, 0),
  (39, .sipush 255, 42, 0, 255, 0),
  (42, .iand, 43, 0, 0, 0),
  (43, .i2c, 44, 0, 0, 0),
  (44, .castore, 45, 0, 0, 0),
  (45, .iinc 2 1, 48, 0, 1, 0),
  (48, .goto (-33), 51, 15, 0, 0),
  (51, .aload_n 0, 52, 0, 0, 0),
  (52, .dup, 53, 0, 0, 0),
  (53, .getfield 15, 56, 321, 0, 200),
  (56, .iconst 4, 57, 0, 4, 0),
  (57, .iadd, 58, 0, 0, 0),
  (58, .putfield 15, 61, 321, 0, 200),
  (61, .aload_n 0, 62, 0, 0, 0),
  (62, .getfield 15, 65, 321, 0, 200),
  (65, .ireturn, 66, 0, 0, 0)]
def kX5_cutTo : List mj_E := [
  (0, .iload_n 1, 1, 0, 0, 0),
  (1, .ifCond .lt 11, 4, 12, 0, 0),
  (4, .iload_n 1, 5, 0, 0, 0),
  (5, .aload_n 0, 6, 0, 0, 0),
  (6, .getfield 15, 9, 321, 0, 200),
  (9, .if_icmp .le 5, 12, 14, 0, 0),
  (12, .iconst 0, 13, 0, 0, 0),
  (13, .ireturn, 14, 0, 0, 0),
  (14, .aload_n 0, 15, 0, 0, 0),
  (15, .iload_n 1, 16, 0, 0, 0),
  (16, .putfield 15, 19, 321, 0, 200),
  (19, .iconst 1, 20, 0, 1, 0),
  (20, .ireturn, 21, 0, 0, 0)]
def kX5_clear : List mj_E := [
  (0, .aload_n 0, 1, 0, 0, 0),
  (1, .iconst 0, 2, 0, 0, 0),
  (2, .putfield 15, 5, 321, 0, 200),
  (5, .return_, 6, 0, 0, 0)]
def kX5_signAt : List mj_E := [
  (0, .iload_n 1, 1, 0, 0, 0),
  (1, .ifCond .lt 20, 4, 21, 0, 0),
  (4, .iload_n 1, 5, 0, 0, 0),
  (5, .aload_n 0, 6, 0, 0, 0),
  (6, .getfield 15, 9, 321, 0, 200),
  (9, .if_icmp .ge 12, 12, 21, 0, 0),
  (12, .aload_n 0, 13, 0, 0, 0),
  (13, .getfield 11, 16, 320, 0, 199),
  (16, .iload_n 1, 17, 0, 0, 0),
  (17, .caload, 18, 0, 0, 0),
  (18, .goto 4, 21, 22, 0, 0),
  (21, .iconst (-1), 22, 0, (-1), 0),
  (22, .ireturn, 23, 0, 0, 0)]
def kX5_digitAt : List mj_E := [
  (0, .aload_n 0, 1, 0, 0, 0),
  (1, .iload_n 1, 2, 0, 0, 0),
  (2, .invokevirtual 19, 5, 22, 0, 433),
  (5, .istore_n 2, 6, 0, 0, 0),
  (6, .iload_n 2, 7, 0, 0, 0),
  (7, .bipush 48, 9, 0, 48, 0),
  (9, .if_icmp .lt 16, 12, 25, 0, 0),
  (12, .iload_n 2, 13, 0, 0, 0),
  (13, .bipush 57, 15, 0, 57, 0),
  (15, .if_icmp .gt 10, 18, 25, 0, 0),
  (18, .iload_n 2, 19, 0, 0, 0),
  (19, .bipush 48, 21, 0, 48, 0),
  (21, .isub, 22, 0, 0, 0),
  (22, .goto 4, 25, 26, 0, 0),
  (25, .iconst (-1), 26, 0, (-1), 0),
  (26, .ireturn, 27, 0, 0, 0)]
def kX5_readTies : List mj_E := [
  (0, .aload_n 1, 1, 0, 0, 0),
  (1, .invokevirtual 23, 4, 44, 0, 481),
  (4, .iconst 0, 5, 0, 0, 0),
  (5, .istore_n 2, 6, 0, 0, 0),
  (6, .iload_n 2, 7, 0, 0, 0),
  (7, .aload_n 0, 8, 0, 0, 0),
  (8, .getfield 15, 11, 321, 0, 200),
  (11, .if_icmp .ge 24, 14, 35, 0, 0),
  (14, .aload_n 1, 15, 0, 0, 0),
  (15, .aload_n 0, 16, 0, 0, 0),
  (16, .getfield 11, 19, 320, 0, 199),
  (19, .iload_n 2, 20, 0, 0, 0),
  (20, .caload, 21, 0, 0, 0),
  (21, .invokevirtual 28, 24, 45, 0, 485),
  (24, .ifCond .ne 5, 27, 29, 0, 0),
  (27, .iload_n 2, 28, 0, 0, 0),
  (28, .ireturn, 29, 0, 0, 0),
  (29, .iinc 2 1, 32, 0, 1, 0),
  (32, .goto (-26), 35, 6, 0, 0),
  (35, .iconst (-1), 36, 0, (-1), 0),
  (36, .ireturn, 37, 0, 0, 0)]
def kX5_readLines : List mj_E := [
  (0, .aload_n 0, 1, 0, 0, 0),
  (1, .getfield 15, 4, 321, 0, 200),
  (4, .ifCond .ne 5, 7, 9, 0, 0),
  (7, .iconst 0, 8, 0, 0, 0),
  (8, .ireturn, 9, 0, 0, 0),
  (9, .aload_n 0, 10, 0, 0, 0),
  (10, .iconst 0, 11, 0, 0, 0),
  (11, .putfield 32, 14, 322, 0, 202),
  (14, .aload_n 0, 15, 0, 0, 0),
  (15, .aload_n 0, 16, 0, 0, 0),
  (16, .getfield 15, 19, 321, 0, 200),
  (19, .bipush 55, 21, 0, 55, 0),
  (21, .invokestatic 35, 24, 240, 0, 414),
  (24, .putfield 41, 27, 323, 0, 203),
  (27, .iconst 1, 28, 0, 1, 0),
  (28, .istore_n 2, 29, 0, 0, 0),
  (29, .iload_n 2, 30, 0, 0, 0),
  (30, .bipush 8, 32, 0, 8, 0),
  (32, .if_icmp .gt 88, 35, 120, 0, 0),
  (35, .aload_n 0, 36, 0, 0, 0),
  (36, .aload_n 1, 37, 0, 0, 0),
  (37, .invokevirtual 44, 40, 26, 0, 417),
  (40, .istore_n 3, 41, 0, 0, 0),
  (41, .iload_n 3, 42, 0, 0, 0),
  (42, .iconst (-1), 43, 0, (-1), 0),
  (43, .if_icmp .eq 7, 46, 50, 0, 0),
  (46, .iconst (-1), 47, 0, (-1), 0),
  (47, .iload_n 3, 48, 0, 0, 0),
  (48, .isub, 49, 0, 0, 0),
  (49, .ireturn, 50, 0, 0, 0),
  (50, .aload_n 0, 51, 0, 0, 0),
  (51, .getfield 32, 54, 322, 0, 202),
  (54, .aload_n 0, 55, 0, 0, 0),
  (55, .getfield 41, 58, 323, 0, 203),
  (58, .if_icmp .lt 25, 61, 83, 0, 0),
  (61, .aload_n 0, 62, 0, 0, 0),
  (62, .getfield 15, 65, 321, 0, 200),
  (65, .aload_n 0, 66, 0, 0, 0),
  (66, .getfield 41, 69, 323, 0, 203),
  (69, .if_icmp .le 12, 72, 81, 0, 0),
  (72, .iconst (-1), 73, 0, (-1), 0),
  (73, .aload_n 0, 74, 0, 0, 0),
  (74, .getfield 41, 77, 323, 0, 203),
  (77, .isub, 78, 0, 0, 0),
  (78, .goto 4, 81, 82, 0, 0),
  (81, .iload_n 2, 82, 0, 0, 0),
  (82, .ireturn, 83, 0, 0, 0),
  (83, .aload_n 0, 84, 0, 0, 0),
  (84, .getfield 11, 87, 320, 0, 199),
  (87, .aload_n 0, 88, 0, 0, 0),
  (88, .getfield 32, 91, 322, 0, 202),
  (91, .caload, 92, 0, 0, 0),
  (92, .bipush 59, 94, 0, 59, 0),
  (94, .if_icmp .eq 10, 97, 104, 0, 0),
  (97, .iconst (-1), 98, 0, (-1), 0),
  (98, .aload_n 0, 99, 0, 0, 0),
  (99, .getfield 32, 102, 322, 0, 202),
  (102, .isub, 103, 0, 0, 0),
  (103, .ireturn, 104, 0, 0, 0),
  (104, .aload_n 0, 105, 0, 0, 0),
  (105, .dup, 106, 0, 0, 0),
  (106, .getfield 32, 109, 322, 0, 202),
  (109, .iconst 1, 110, 0, 1, 0),
  (110, .iadd, 111, 0, 0, 0),
  (111, .putfield 32, 114, 322, 0, 202),
  (114, .iinc 2 1, 117, 0, 1, 0),
  (117, .goto (-88), 120, 29, 0, 0),
  (120, .iconst (-1), 121, 0, (-1), 0),
  (121, .aload_n 0, 122, 0, 0, 0),
  (122, .getfield 32, 125, 322, 0, 202),
  (125, .isub, 126, 0, 0, 0),
  (126, .ireturn, 127, 0, 0, 0)]
def kX5_readLine : List mj_E := [
  (0, .aload_n 1, 1, 0, 0, 0),
  (1, .invokevirtual 48, 4, 51, 0, 421),
  (4, .istore_n 2, 5, 0, 0, 0),
  (5, .aload_n 0, 6, 0, 0, 0),
  (6, .getfield 32, 9, 322, 0, 202),
  (9, .istore_n 3, 10, 0, 0, 0),
  (10, .iload_n 2, 11, 0, 0, 0),
  (11, .iconst (-1), 12, 0, (-1), 0),
  (12, .if_icmp .ne 7, 15, 19, 0, 0),
  (15, .iconst 0, 16, 0, 0, 0),
  (16, .goto 7, 19, 23, 0, 0),
  (19, .aload_n 0, 20, 0, 0, 0),
  (20, .invokevirtual 54, 23, 27, 0, 425),
  (23, .istore 4, 25, 0, 0, 0),
  (25, .iload 4, 27, 0, 0, 0),
  (27, .ifCond .eq 28, 30, 55, 0, 0),
  (30, .aload_n 0, 31, 0, 0, 0),
  (31, .getfield 32, 34, 322, 0, 202),
  (34, .aload_n 0, 35, 0, 0, 0),
  (35, .getfield 41, 38, 323, 0, 203),
  (38, .if_icmp .ge 17, 41, 55, 0, 0),
  (41, .aload_n 0, 42, 0, 0, 0),
  (42, .getfield 11, 45, 320, 0, 199),
  (45, .aload_n 0, 46, 0, 0, 0),
  (46, .getfield 32, 49, 322, 0, 202),
  (49, .caload, 50, 0, 0, 0),
  (50, .bipush 47, 52, 0, 47, 0),
  (52, .if_icmp .eq 8, 55, 60, 0, 0),
  (55, .aload_n 0, 56, 0, 0, 0),
  (56, .getfield 32, 59, 322, 0, 202),
  (59, .ireturn, 60, 0, 0, 0),
  (60, .aload_n 0, 61, 0, 0, 0),
  (61, .dup, 62, 0, 0, 0),
  (62, .getfield 32, 65, 322, 0, 202),
  (65, .iconst 1, 66, 0, 1, 0),
  (66, .iadd, 67, 0, 0, 0),
  (67, .putfield 32, 70, 322, 0, 202),
  (70, .aload_n 0, 71, 0, 0, 0),
  (71, .getfield 32, 74, 322, 0, 202),
  (74, .istore 5, 76, 0, 0, 0),
  (76, .aload_n 0, 77, 0, 0, 0),
  (77, .invokevirtual 54, 80, 27, 0, 425),
  (80, .istore 6, 82, 0, 0, 0),
  (82, .iload 6, 84, 0, 0, 0),
  (84, .ifCond .ne 8, 87, 92, 0, 0),
  (87, .aload_n 0, 88, 0, 0, 0),
  (88, .getfield 32, 91, 322, 0, 202),
  (91, .ireturn, 92, 0, 0, 0),
  (92, .iload 6, 94, 0, 0, 0),
  (94, .bipush 12, 96, 0, 12, 0),
  (96, .if_icmp .le 6, 99, 102, 0, 0),
  (99, .iload 5, 101, 0, 0, 0),
  (101, .ireturn, 102, 0, 0, 0),
  (102, .iload 4, 104, 0, 0, 0),
  (104, .iload 6, 106, 0, 0, 0),
  (106, .if_icmp .le 5, 109, 111, 0, 0),
  (109, .iload_n 3, 110, 0, 0, 0),
  (110, .ireturn, 111, 0, 0, 0),
  (111, .aload_n 0, 112, 0, 0, 0),
  (112, .getfield 32, 115, 322, 0, 202),
  (115, .aload_n 0, 116, 0, 0, 0),
  (116, .getfield 41, 119, 323, 0, 203),
  (119, .if_icmp .ge 21, 122, 140, 0, 0),
  (122, .aload_n 0, 123, 0, 0, 0),
  (123, .getfield 11, 126, 320, 0, 199),
  (126, .aload_n 0, 127, 0, 0, 0),
  (127, .getfield 32, 130, 322, 0, 202),
  (130, .caload, 131, 0, 0, 0),
  (131, .bipush 101, 133, 0, 101, 0),
  (133, .if_icmp .ne 7, 136, 140, 0, 0),
  (136, .iconst 1, 137, 0, 1, 0),
  (137, .goto 4, 140, 141, 0, 0),
  (140, .iconst 0, 141, 0, 0, 0),
  (141, .istore 7, 143, 0, 0, 0),
  (143, .iload 7, 145, 0, 0, 0),
  (145, .ifCond .eq 13, 148, 158, 0, 0),
  (148, .aload_n 0, 149, 0, 0, 0),
  (149, .dup, 150, 0, 0, 0),
  (150, .getfield 32, 153, 322, 0, 202),
  (153, .iconst 1, 154, 0, 1, 0),
  (154, .iadd, 155, 0, 0, 0),
  (155, .putfield 32, 158, 322, 0, 202),
  (158, .aload_n 1, 159, 0, 0, 0),
  (159, .iload_n 2, 160, 0, 0, 0),
  (160, .iload 4, 162, 0, 0, 0),
  (162, .iload 6, 164, 0, 0, 0),
  (164, .iload 7, 166, 0, 0, 0),
  (166, .ifCond .eq 7, 169, 173, 0, 0),
  (169, .iconst 1, 170, 0, 1, 0),
  (170, .goto 4, 173, 174, 0, 0),
  (173, .iconst 0, 174, 0, 0, 0),
  (174, .invokevirtual 57, 177, 53, 0, 437),
  (177, .iconst (-1), 178, 0, (-1), 0),
  (178, .ireturn, 179, 0, 0, 0)]
def kX5_readNumber : List mj_E := [
  (0, .aload_n 0, 1, 0, 0, 0),
  (1, .getfield 32, 4, 322, 0, 202),
  (4, .aload_n 0, 5, 0, 0, 0),
  (5, .getfield 41, 8, 323, 0, 203),
  (8, .if_icmp .ge 14, 11, 22, 0, 0),
  (11, .aload_n 0, 12, 0, 0, 0),
  (12, .aload_n 0, 13, 0, 0, 0),
  (13, .getfield 32, 16, 322, 0, 202),
  (16, .invokevirtual 61, 19, 23, 0, 429),
  (19, .goto 4, 22, 23, 0, 0),
  (22, .iconst (-1), 23, 0, (-1), 0),
  (23, .istore_n 1, 24, 0, 0, 0),
  (24, .iload_n 1, 25, 0, 0, 0),
  (25, .iconst 1, 26, 0, 1, 0),
  (26, .if_icmp .ge 5, 29, 31, 0, 0),
  (29, .iconst 0, 30, 0, 0, 0),
  (30, .ireturn, 31, 0, 0, 0),
  (31, .aload_n 0, 32, 0, 0, 0),
  (32, .dup, 33, 0, 0, 0),
  (33, .getfield 32, 36, 322, 0, 202),
  (36, .iconst 1, 37, 0, 1, 0),
  (37, .iadd, 38, 0, 0, 0),
  (38, .putfield 32, 41, 322, 0, 202),
  (41, .aload_n 0, 42, 0, 0, 0),
  (42, .getfield 32, 45, 322, 0, 202),
  (45, .aload_n 0, 46, 0, 0, 0),
  (46, .getfield 41, 49, 323, 0, 203),
  (49, .if_icmp .ge 14, 52, 63, 0, 0),
  (52, .aload_n 0, 53, 0, 0, 0),
  (53, .aload_n 0, 54, 0, 0, 0),
  (54, .getfield 32, 57, 322, 0, 202),
  (57, .invokevirtual 61, 60, 23, 0, 429),
  (60, .goto 4, 63, 64, 0, 0),
  (63, .iconst (-1), 64, 0, (-1), 0),
  (64, .istore_n 2, 65, 0, 0, 0),
  (65, .iload_n 2, 66, 0, 0, 0),
  (66, .iconst (-1), 67, 0, (-1), 0),
  (67, .if_icmp .ne 5, 70, 72, 0, 0),
  (70, .iload_n 1, 71, 0, 0, 0),
  (71, .ireturn, 72, 0, 0, 0),
  (72, .aload_n 0, 73, 0, 0, 0),
  (73, .dup, 74, 0, 0, 0),
  (74, .getfield 32, 77, 322, 0, 202),
  (77, .iconst 1, 78, 0, 1, 0),
  (78, .iadd, 79, 0, 0, 0),
  (79, .putfield 32, 82, 322, 0, 202),
  (82, .bipush 10, 84, 0, 10, 0),
  (84, .iload_n 1, 85, 0, 0, 0),
  (85, .imul, 86, 0, 0, 0),
  (86, .iload_n 2, 87, 0, 0, 0),
  (87, .iadd, 88, 0, 0, 0),
  (88, .ireturn, 89, 0, 0, 0)]
def kX5_actLength : List mj_E := [
  (0, .aload_n 0, 1, 0, 0, 0),
  (1, .iload_n 1, 2, 0, 0, 0),
  (2, .invokevirtual 19, 5, 22, 0, 433),
  (5, .lookupswitch 57 #[(42, 51), (104, 55), (108, 55), (110, 53), (112, 55)], 56, 0, 0, 0),
  (56, .iconst 1, 57, 0, 1, 0),
  (57, .ireturn, 58, 0, 0, 0),
  (58, .iconst 3, 59, 0, 3, 0),
  (59, .ireturn, 60, 0, 0, 0),
  (60, .iconst 2, 61, 0, 2, 0),
  (61, .ireturn, 62, 0, 0, 0),
  (62, .iconst 0, 63, 0, 0, 0),
  (63, .ireturn, 64, 0, 0, 0)]
def kX5_firstBadAct : List mj_E := [
  (0, .aload_n 0, 1, 0, 0, 0),
  (1, .getfield 15, 4, 321, 0, 200),
  (4, .bipush 60, 6, 0, 60, 0),
  (6, .invokestatic 35, 9, 240, 0, 414),
  (9, .istore_n 1, 10, 0, 0, 0),
  (10, .iconst 0, 11, 0, 0, 0),
  (11, .istore_n 2, 12, 0, 0, 0),
  (12, .iconst 0, 13, 0, 0, 0),
  (13, .istore_n 3, 14, 0, 0, 0),
  (14, .iload_n 3, 15, 0, 0, 0),
  (15, .iload_n 1, 16, 0, 0, 0),
  (16, .if_icmp .ge 44, 19, 60, 0, 0),
  (19, .iload_n 2, 20, 0, 0, 0),
  (20, .ifCond .le 20, 23, 40, 0, 0),
  (23, .aload_n 0, 24, 0, 0, 0),
  (24, .iload_n 3, 25, 0, 0, 0),
  (25, .invokevirtual 61, 28, 23, 0, 429),
  (28, .iconst (-1), 29, 0, (-1), 0),
  (29, .if_icmp .ne 5, 32, 34, 0, 0),
  (32, .iload_n 3, 33, 0, 0, 0),
  (33, .ireturn, 34, 0, 0, 0),
  (34, .iinc 2 (-1), 37, 0, (-1), 0),
  (37, .goto 17, 40, 54, 0, 0),
  (40, .aload_n 0, 41, 0, 0, 0),
  (41, .iload_n 3, 42, 0, 0, 0),
  (42, .invokevirtual 64, 45, 28, 0, 620),
  (45, .iconst 1, 46, 0, 1, 0),
  (46, .isub, 47, 0, 0, 0),
  (47, .istore_n 2, 48, 0, 0, 0),
  (48, .iload_n 2, 49, 0, 0, 0),
  (49, .ifCond .ge 5, 52, 54, 0, 0),
  (52, .iload_n 3, 53, 0, 0, 0),
  (53, .ireturn, 54, 0, 0, 0),
  (54, .iinc 3 1, 57, 0, 1, 0),
  (57, .goto (-43), 60, 14, 0, 0),
  (60, .iload_n 2, 61, 0, 0, 0),
  (61, .ifCond .gt 11, 64, 72, 0, 0),
  (64, .aload_n 0, 65, 0, 0, 0),
  (65, .getfield 15, 68, 321, 0, 200),
  (68, .iload_n 1, 69, 0, 0, 0),
  (69, .if_icmp .le 7, 72, 76, 0, 0),
  (72, .iload_n 1, 73, 0, 0, 0),
  (73, .goto 4, 76, 77, 0, 0),
  (76, .iconst (-1), 77, 0, (-1), 0),
  (77, .ireturn, 78, 0, 0, 0)]
def kX6_add : List mj_E := [
  (0, .iload_n 1, 1, 0, 0, 0),
  (1, .iconst 1, 2, 0, 1, 0),
  (2, .if_icmp .lt 29, 5, 31, 0, 0),
  (5, .iload_n 1, 6, 0, 0, 0),
  (6, .bipush 12, 8, 0, 12, 0),
  (8, .if_icmp .gt 23, 11, 31, 0, 0),
  (11, .iload_n 2, 12, 0, 0, 0),
  (12, .ifCond .lt 19, 15, 31, 0, 0),
  (15, .iload_n 2, 16, 0, 0, 0),
  (16, .sipush 150, 19, 0, 150, 0),
  (19, .if_icmp .gt 12, 22, 31, 0, 0),
  (22, .aload_n 0, 23, 0, 0, 0),
  (23, .getfield 21, 26, 387, 0, 270),
  (26, .bipush 10, 28, 0, 10, 0),
  (28, .if_icmp .lt 5, 31, 33, 0, 0),
  (31, .iconst (-1), 32, 0, (-1), 0),
  (32, .ireturn, 33, 0, 0, 0),
  (33, .aload_n 0, 34, 0, 0, 0),
  (34, .getfield 11, 37, 384, 0, 267),
  (37, .aload_n 0, 38, 0, 0, 0),
  (38, .getfield 21, 41, 387, 0, 270),
  (41, .iload_n 1, 42, 0, 0, 0),
  (42, .iastore, 43, 0, 0, 0),
  (43, .aload_n 0, 44, 0, 0, 0),
  (44, .getfield 15, 47, 385, 0, 268),
  (47, .aload_n 0, 48, 0, 0, 0),
  (48, .getfield 21, 51, 387, 0, 270),
  (51, .iload_n 2, 52, 0, 0, 0),
  (52, .iastore, 53, 0, 0, 0),
  (53, .aload_n 0, 54, 0, 0, 0),
  (54, .dup, 55, 0, 0, 0),
  (55, .getfield 21, 58, 387, 0, 270),
  (58, .iconst 1, 59, 0, 1, 0),
  (59, .iadd, 60, 0, 0, 0),
  (60, .putfield 21, 63, 387, 0, 270),
  (63, .aload_n 0, 64, 0, 0, 0),
  (64, .getfield 21, 67, 387, 0, 270),
  (67, .ireturn, 68, 0, 0, 0)]
def kX6_clear : List mj_E := [
  (0, .aload_n 0, 1, 0, 0, 0),
  (1, .getfield 21, 4, 387, 0, 270),
  (4, .istore_n 1, 5, 0, 0, 0),
  (5, .aload_n 0, 6, 0, 0, 0),
  (6, .iconst 0, 7, 0, 0, 0),
  (7, .putfield 21, 10, 387, 0, 270),
  (10, .iload_n 1, 11, 0, 0, 0),
  (11, .ireturn, 12, 0, 0, 0)]
def kX6_fit : List mj_E := [
  (0, .iconst 0, 1, 0, 0, 0),
  (1, .istore_n 3, 2, 0, 0, 0),
  (2, .iload_n 3, 3, 0, 0, 0),
  (3, .aload_n 0, 4, 0, 0, 0),
  (4, .getfield 21, 7, 387, 0, 270),
  (7, .if_icmp .ge 31, 10, 38, 0, 0),
  (10, .iload_n 1, 11, 0, 0, 0),
  (11, .iload_n 2, 12, 0, 0, 0),
  (12, .aload_n 0, 13, 0, 0, 0),
  (13, .getfield 11, 16, 384, 0, 267),
  (16, .iload_n 3, 17, 0, 0, 0),
  (17, .iaload, 18, 0, 0, 0),
  (18, .invokestatic 25, 21, 7, 0, 876),
  (21, .aload_n 0, 22, 0, 0, 0),
  (22, .getfield 15, 25, 385, 0, 268),
  (25, .iload_n 3, 26, 0, 0, 0),
  (26, .iaload, 27, 0, 0, 0),
  (27, .if_icmp .eq 5, 30, 32, 0, 0),
  (30, .iconst 0, 31, 0, 0, 0),
  (31, .ireturn, 32, 0, 0, 0),
  (32, .iinc 3 1, 35, 0, 1, 0),
  (35, .goto (-33), 38, 2, 0, 0),
  (38, .iconst 1, 39, 0, 1, 0),
  (39, .ireturn, 40, 0, 0, 0)]
def kX6_mostAlike : List mj_E := [
  (0, .aload_n 0, 1, 0, 0, 0),
  (1, .getfield 18, 4, 386, 0, 269),
  (4, .iconst 0, 5, 0, 0, 0),
  (5, .invokestatic 31, 8, 242, 0, 885),
  (8, .iconst 0, 9, 0, 0, 0),
  (9, .istore_n 2, 10, 0, 0, 0),
  (10, .iconst 1, 11, 0, 1, 0),
  (11, .istore_n 3, 12, 0, 0, 0),
  (12, .iload_n 3, 13, 0, 0, 0),
  (13, .bipush 12, 15, 0, 12, 0),
  (15, .if_icmp .gt 79, 18, 94, 0, 0),
  (18, .iconst 1, 19, 0, 1, 0),
  (19, .istore 4, 21, 0, 0, 0),
  (21, .iload 4, 23, 0, 0, 0),
  (23, .iload_n 3, 24, 0, 0, 0),
  (24, .if_icmp .gt 64, 27, 88, 0, 0),
  (27, .iload 4, 29, 0, 0, 0),
  (29, .iload_n 3, 30, 0, 0, 0),
  (30, .iload_n 1, 31, 0, 0, 0),
  (31, .invokestatic 25, 34, 7, 0, 876),
  (34, .istore 5, 36, 0, 0, 0),
  (36, .iload 5, 38, 0, 0, 0),
  (38, .ifCond .lt 44, 41, 82, 0, 0),
  (41, .iload 5, 43, 0, 0, 0),
  (43, .sipush 150, 46, 0, 150, 0),
  (46, .if_icmp .gt 36, 49, 82, 0, 0),
  (49, .aload_n 0, 50, 0, 0, 0),
  (50, .iload 4, 52, 0, 0, 0),
  (52, .iload_n 3, 53, 0, 0, 0),
  (53, .invokevirtual 37, 56, 32, 0, 886),
  (56, .ifCond .eq 26, 59, 82, 0, 0),
  (59, .aload_n 0, 60, 0, 0, 0),
  (60, .getfield 18, 63, 386, 0, 269),
  (63, .iload 5, 65, 0, 0, 0),
  (65, .dup2, 66, 0, 0, 0),
  (66, .iaload, 67, 0, 0, 0),
  (67, .iconst 1, 68, 0, 1, 0),
  (68, .iadd, 69, 0, 0, 0),
  (69, .iastore, 70, 0, 0, 0),
  (70, .iload_n 2, 71, 0, 0, 0),
  (71, .aload_n 0, 72, 0, 0, 0),
  (72, .getfield 18, 75, 386, 0, 269),
  (75, .iload 5, 77, 0, 0, 0),
  (77, .iaload, 78, 0, 0, 0),
  (78, .invokestatic 41, 81, 239, 0, 887),
  (81, .istore_n 2, 82, 0, 0, 0),
  (82, .iinc 4 1, 85, 0, 1, 0),
  (85, .goto (-64), 88, 21, 0, 0),
  (88, .iinc 3 1, 91, 0, 1, 0),
  (91, .goto (-79), 94, 12, 0, 0),
  (94, .iload_n 2, 95, 0, 0, 0),
  (95, .ireturn, 96, 0, 0, 0)]
def kX7_gather : List mj_E := [
  (0, .iconst 0, 1, 0, 0, 0),
  (1, .istore_n 3, 2, 0, 0, 0),
  (2, .aload_n 0, 3, 0, 0, 0),
  (3, .getfield 15, 6, 449, 0, 319),
  (6, .iconst 0, 7, 0, 0, 0),
  (7, .invokestatic 30, 10, 242, 0, 748),
  (10, .iconst 0, 11, 0, 0, 0),
  (11, .istore 4, 13, 0, 0, 0),
  (13, .iload 4, 15, 0, 0, 0),
  (15, .bipush 8, 17, 0, 8, 0),
  (17, .if_icmp .ge 29, 20, 46, 0, 0),
  (20, .aload_n 1, 21, 0, 0, 0),
  (21, .iload 4, 23, 0, 0, 0),
  (23, .invokevirtual 36, 26, 49, 0, 749),
  (26, .ifCond .eq 14, 29, 40, 0, 0),
  (29, .iload_n 3, 30, 0, 0, 0),
  (30, .aload_n 0, 31, 0, 0, 0),
  (31, .aload_n 1, 32, 0, 0, 0),
  (32, .iload 4, 34, 0, 0, 0),
  (34, .iload_n 2, 35, 0, 0, 0),
  (35, .invokevirtual 42, 38, 35, 0, 750),
  (38, .iadd, 39, 0, 0, 0),
  (39, .istore_n 3, 40, 0, 0, 0),
  (40, .iinc 4 1, 43, 0, 1, 0),
  (43, .goto (-30), 46, 13, 0, 0),
  (46, .iload_n 3, 47, 0, 0, 0),
  (47, .ireturn, 48, 0, 0, 0)]
def kX7_gatherOf : List mj_E := [
  (0, .aload_n 1, 1, 0, 0, 0),
  (1, .getfield 46, 4, 577, 0, 91),
  (4, .iload_n 2, 5, 0, 0, 0),
  (5, .iaload, 6, 0, 0, 0),
  (6, .istore 4, 8, 0, 0, 0),
  (8, .aload_n 1, 9, 0, 0, 0),
  (9, .getfield 49, 12, 587, 0, 118),
  (12, .aload_n 1, 13, 0, 0, 0),
  (13, .getfield 53, 16, 579, 0, 98),
  (16, .iload_n 2, 17, 0, 0, 0),
  (17, .iaload, 18, 0, 0, 0),
  (18, .isub, 19, 0, 0, 0),
  (19, .aload_n 1, 20, 0, 0, 0),
  (20, .getfield 56, 23, 576, 0, 87),
  (23, .iload_n 2, 24, 0, 0, 0),
  (24, .iaload, 25, 0, 0, 0),
  (25, .imul, 26, 0, 0, 0),
  (26, .istore 5, 28, 0, 0, 0),
  (28, .iload 4, 30, 0, 0, 0),
  (30, .ifCond .le 13, 33, 43, 0, 0),
  (33, .iload 5, 35, 0, 0, 0),
  (35, .iload 4, 37, 0, 0, 0),
  (37, .idiv, 38, 0, 0, 0),
  (38, .iconst 1, 39, 0, 1, 0),
  (39, .iadd, 40, 0, 0, 0),
  (40, .goto 4, 43, 44, 0, 0),
  (43, .iconst 1, 44, 0, 1, 0),
  (44, .istore 6, 46, 0, 0, 0),
  (46, .aload_n 1, 47, 0, 0, 0),
  (47, .getfield 59, 50, 581, 0, 104),
  (50, .iload_n 2, 51, 0, 0, 0),
  (51, .iaload, 52, 0, 0, 0),
  (52, .iconst 1, 53, 0, 1, 0),
  (53, .iadd, 54, 0, 0, 0),
  (54, .iload 6, 56, 0, 0, 0),
  (56, .invokestatic 62, 59, 239, 0, 754),
  (59, .istore 7, 61, 0, 0, 0),
  (61, .iconst 0, 62, 0, 0, 0),
  (62, .istore 8, 64, 0, 0, 0),
  (64, .iload 8, 66, 0, 0, 0),
  (66, .bipush 8, 68, 0, 8, 0),
  (68, .if_icmp .ge 97, 71, 165, 0, 0),
  (71, .aload_n 1, 72, 0, 0, 0),
  (72, .iload_n 2, 73, 0, 0, 0),
  (73, .iload 7, 75, 0, 0, 0),
  (75, .iload 8, 77, 0, 0, 0),
  (77, .iadd, 78, 0, 0, 0),
  (78, .invokevirtual 68, 81, 56, 0, 755),
  (81, .aload_n 1, 82, 0, 0, 0),
  (82, .getfield 49, 85, 587, 0, 118),
  (85, .isub, 86, 0, 0, 0),
  (86, .istore 9, 88, 0, 0, 0),
  (88, .iload 9, 90, 0, 0, 0),
  (90, .iload_n 3, 91, 0, 0, 0),
  (91, .if_icmp .le 6, 94, 97, 0, 0),
  (94, .iload 8, 96, 0, 0, 0),
  (96, .ireturn, 97, 0, 0, 0),
  (97, .aload_n 1, 98, 0, 0, 0),
  (98, .iload_n 2, 99, 0, 0, 0),
  (99, .iload 7, 101, 0, 0, 0),
  (101, .iload 8, 103, 0, 0, 0),
  (103, .iadd, 104, 0, 0, 0),
  (104, .invokevirtual 71, 107, 55, 0, 756),
  (107, .aload_n 1, 108, 0, 0, 0),
  (108, .getfield 49, 111, 587, 0, 118),
  (111, .isub, 112, 0, 0, 0),
  (112, .istore 10, 114, 0, 0, 0),
  (114, .aload_n 0, 115, 0, 0, 0),
  (115, .getfield 11, 118, 448, 0, 318),
  (118, .iload_n 2, 119, 0, 0, 0),
  (119, .bipush 8, 121, 0, 8, 0),
  (121, .imul, 122, 0, 0, 0),
  (122, .iload 8, 124, 0, 0, 0),
  (124, .iadd, 125, 0, 0, 0),
  (125, .aload_n 1, 126, 0, 0, 0),
  (126, .getfield 74, 129, 580, 0, 101),
  (129, .iload_n 2, 130, 0, 0, 0),
  (130, .iaload, 131, 0, 0, 0),
  (131, .ifCond .eq 7, 134, 138, 0, 0),
  (134, .iconst 0, 135, 0, 0, 0),
  (135, .goto 9, 138, 144, 0, 0),
  (138, .iload 10, 140, 0, 0, 0),
  (140, .iconst 0, 141, 0, 0, 0),
  (141, .invokestatic 62, 144, 239, 0, 754),
  (144, .iastore, 145, 0, 0, 0),
  (145, .aload_n 0, 146, 0, 0, 0),
  (146, .getfield 15, 149, 449, 0, 319),
  (149, .iload_n 2, 150, 0, 0, 0),
  (150, .bipush 8, 152, 0, 8, 0),
  (152, .imul, 153, 0, 0, 0),
  (153, .iload 8, 155, 0, 0, 0),
  (155, .iadd, 156, 0, 0, 0),
  (156, .iload 9, 158, 0, 0, 0),
  (158, .iastore, 159, 0, 0, 0),
  (159, .iinc 8 1, 162, 0, 1, 0),
  (162, .goto (-98), 165, 64, 0, 0),
  (165, .bipush 8, 167, 0, 8, 0),
  (167, .ireturn, 168, 0, 0, 0)]
def kX7_greatest : List mj_E := [
  (0, .aload_n 0, 1, 0, 0, 0),
  (1, .getfield 18, 4, 450, 0, 320),
  (4, .iconst (-1), 5, 0, (-1), 0),
  (5, .invokestatic 30, 8, 242, 0, 748),
  (8, .aload_n 0, 9, 0, 0, 0),
  (9, .getfield 21, 12, 451, 0, 321),
  (12, .iconst 0, 13, 0, 0, 0),
  (13, .invokestatic 30, 16, 242, 0, 748),
  (16, .iconst 0, 17, 0, 0, 0),
  (17, .istore_n 2, 18, 0, 0, 0),
  (18, .iconst 0, 19, 0, 0, 0),
  (19, .istore_n 3, 20, 0, 0, 0),
  (20, .iload_n 3, 21, 0, 0, 0),
  (21, .bipush 64, 23, 0, 64, 0),
  (23, .if_icmp .ge 30, 26, 53, 0, 0),
  (26, .aload_n 0, 27, 0, 0, 0),
  (27, .getfield 15, 30, 449, 0, 319),
  (30, .iload_n 3, 31, 0, 0, 0),
  (31, .iaload, 32, 0, 0, 0),
  (32, .ifCond .le 15, 35, 47, 0, 0),
  (35, .aload_n 0, 36, 0, 0, 0),
  (36, .iload_n 3, 37, 0, 0, 0),
  (37, .iload_n 1, 38, 0, 0, 0),
  (38, .invokevirtual 77, 41, 37, 0, 764),
  (41, .ifCond .eq 6, 44, 47, 0, 0),
  (44, .iinc 2 1, 47, 0, 1, 0),
  (47, .iinc 3 1, 50, 0, 1, 0),
  (50, .goto (-30), 53, 20, 0, 0),
  (53, .iload_n 2, 54, 0, 0, 0),
  (54, .ireturn, 55, 0, 0, 0)]
def kX7_findPlace : List mj_E := [
  (0, .aload_n 0, 1, 0, 0, 0),
  (1, .getfield 24, 4, 452, 0, 322),
  (4, .bipush (-2), 6, 0, (-2), 0),
  (6, .invokestatic 30, 9, 242, 0, 748),
  (9, .aload_n 0, 10, 0, 0, 0),
  (10, .iconst 0, 11, 0, 0, 0),
  (11, .putfield 81, 14, 454, 0, 324),
  (14, .aload_n 0, 15, 0, 0, 0),
  (15, .iload_n 1, 16, 0, 0, 0),
  (16, .iconst (-1), 17, 0, (-1), 0),
  (17, .invokevirtual 84, 20, 38, 0, 768),
  (20, .iconst 0, 21, 0, 0, 0),
  (21, .istore_n 3, 22, 0, 0, 0),
  (22, .iload_n 3, 23, 0, 0, 0),
  (23, .aload_n 0, 24, 0, 0, 0),
  (24, .getfield 81, 27, 454, 0, 324),
  (27, .if_icmp .ge 108, 30, 135, 0, 0),
  (30, .iload_n 3, 31, 0, 0, 0),
  (31, .sipush 136, 34, 0, 136, 0),
  (34, .if_icmp .ge 101, 37, 135, 0, 0),
  (37, .aload_n 0, 38, 0, 0, 0),
  (38, .getfield 27, 41, 453, 0, 323),
  (41, .iload_n 3, 42, 0, 0, 0),
  (42, .iaload, 43, 0, 0, 0),
  (43, .istore 4, 45, 0, 0, 0),
  (45, .iload 4, 47, 0, 0, 0),
  (47, .bipush 64, 49, 0, 64, 0),
  (49, .if_icmp .ge 12, 52, 61, 0, 0),
  (52, .aload_n 0, 53, 0, 0, 0),
  (53, .iload 4, 55, 0, 0, 0),
  (55, .invokevirtual 88, 58, 39, 0, 772),
  (58, .goto 71, 61, 129, 0, 0),
  (61, .iload 4, 63, 0, 0, 0),
  (63, .sipush 128, 66, 0, 128, 0),
  (66, .if_icmp .ge 15, 69, 81, 0, 0),
  (69, .aload_n 0, 70, 0, 0, 0),
  (70, .iload 4, 72, 0, 0, 0),
  (72, .bipush 64, 74, 0, 64, 0),
  (74, .isub, 75, 0, 0, 0),
  (75, .invokevirtual 92, 78, 40, 0, 776),
  (78, .goto 51, 81, 129, 0, 0),
  (81, .aload_n 0, 82, 0, 0, 0),
  (82, .getfield 21, 85, 451, 0, 321),
  (85, .iload 4, 87, 0, 0, 0),
  (87, .sipush 128, 90, 0, 128, 0),
  (90, .isub, 91, 0, 0, 0),
  (91, .iaload, 92, 0, 0, 0),
  (92, .iload_n 2, 93, 0, 0, 0),
  (93, .if_icmp .ge 26, 96, 119, 0, 0),
  (96, .aload_n 0, 97, 0, 0, 0),
  (97, .getfield 21, 100, 451, 0, 321),
  (100, .iload 4, 102, 0, 0, 0),
  (102, .sipush 128, 105, 0, 128, 0),
  (105, .isub, 106, 0, 0, 0),
  (106, .dup2, 107, 0, 0, 0),
  (107, .iaload, 108, 0, 0, 0),
  (108, .iconst 1, 109, 0, 1, 0),
  (109, .iadd, 110, 0, 0, 0),
  (110, .iastore, 111, 0, 0, 0),
  (111, .aload_n 0, 112, 0, 0, 0),
  (112, .iload 4, 114, 0, 0, 0),
  (114, .invokevirtual 95, 117, 42, 0, 780),
  (117, .iconst 1, 118, 0, 1, 0),
  (118, .ireturn, 119, 0, 0, 0),
  (119, .aload_n 0, 120, 0, 0, 0),
  (120, .iload 4, 122, 0, 0, 0),
  (122, .sipush 128, 125, 0, 128, 0),
  (125, .isub, 126, 0, 0, 0),
  (126, .invokevirtual 98, 129, 41, 0, 784),
  (129, .iinc 3 1, 132, 0, 1, 0),
  (132, .goto (-110), 135, 22, 0, 0),
  (135, .iconst 0, 136, 0, 0, 0),
  (136, .ireturn, 137, 0, 0, 0)]
def kX7_reach : List mj_E := [
  (0, .aload_n 0, 1, 0, 0, 0),
  (1, .getfield 24, 4, 452, 0, 322),
  (4, .iload_n 1, 5, 0, 0, 0),
  (5, .iaload, 6, 0, 0, 0),
  (6, .bipush (-2), 8, 0, (-2), 0),
  (8, .if_icmp .ne 40, 11, 48, 0, 0),
  (11, .aload_n 0, 12, 0, 0, 0),
  (12, .getfield 81, 15, 454, 0, 324),
  (15, .sipush 136, 18, 0, 136, 0),
  (18, .if_icmp .ge 30, 21, 48, 0, 0),
  (21, .aload_n 0, 22, 0, 0, 0),
  (22, .getfield 24, 25, 452, 0, 322),
  (25, .iload_n 1, 26, 0, 0, 0),
  (26, .iload_n 2, 27, 0, 0, 0),
  (27, .iastore, 28, 0, 0, 0),
  (28, .aload_n 0, 29, 0, 0, 0),
  (29, .getfield 27, 32, 453, 0, 323),
  (32, .aload_n 0, 33, 0, 0, 0),
  (33, .getfield 81, 36, 454, 0, 324),
  (36, .iload_n 1, 37, 0, 0, 0),
  (37, .iastore, 38, 0, 0, 0),
  (38, .aload_n 0, 39, 0, 0, 0),
  (39, .dup, 40, 0, 0, 0),
  (40, .getfield 81, 43, 454, 0, 324),
  (43, .iconst 1, 44, 0, 1, 0),
  (44, .iadd, 45, 0, 0, 0),
  (45, .putfield 81, 48, 454, 0, 324),
  (48, .return_, 49, 0, 0, 0)]
def kX7_goOnFromPart : List mj_E := [
  (0, .iload_n 1, 1, 0, 0, 0),
  (1, .iload_n 1, 2, 0, 0, 0),
  (2, .bipush 8, 4, 0, 8, 0),
  (4, .irem, 5, 0, 0, 0),
  (5, .isub, 6, 0, 0, 0),
  (6, .istore_n 2, 7, 0, 0, 0),
  (7, .aload_n 0, 8, 0, 0, 0),
  (8, .getfield 11, 11, 448, 0, 318),
  (11, .iload_n 1, 12, 0, 0, 0),
  (12, .iaload, 13, 0, 0, 0),
  (13, .istore_n 3, 14, 0, 0, 0),
  (14, .iload_n 3, 15, 0, 0, 0),
  (15, .aload_n 0, 16, 0, 0, 0),
  (16, .getfield 15, 19, 449, 0, 319),
  (19, .iload_n 1, 20, 0, 0, 0),
  (20, .iaload, 21, 0, 0, 0),
  (21, .if_icmp .ge 26, 24, 47, 0, 0),
  (24, .iload_n 3, 25, 0, 0, 0),
  (25, .bipush 8, 27, 0, 8, 0),
  (27, .if_icmp .ge 20, 30, 47, 0, 0),
  (30, .aload_n 0, 31, 0, 0, 0),
  (31, .bipush 64, 33, 0, 64, 0),
  (33, .iload_n 2, 34, 0, 0, 0),
  (34, .iadd, 35, 0, 0, 0),
  (35, .iload_n 3, 36, 0, 0, 0),
  (36, .iadd, 37, 0, 0, 0),
  (37, .iload_n 1, 38, 0, 0, 0),
  (38, .invokevirtual 84, 41, 38, 0, 768),
  (41, .iinc 3 1, 44, 0, 1, 0),
  (44, .goto (-30), 47, 14, 0, 0),
  (47, .return_, 48, 0, 0, 0)]
def kX7_goOnFromPlace : List mj_E := [
  (0, .aload_n 0, 1, 0, 0, 0),
  (1, .getfield 18, 4, 450, 0, 320),
  (4, .iload_n 1, 5, 0, 0, 0),
  (5, .iaload, 6, 0, 0, 0),
  (6, .iconst (-1), 7, 0, (-1), 0),
  (7, .if_icmp .ne 22, 10, 29, 0, 0),
  (10, .aload_n 0, 11, 0, 0, 0),
  (11, .sipush 128, 14, 0, 128, 0),
  (14, .iload_n 1, 15, 0, 0, 0),
  (15, .bipush 8, 17, 0, 8, 0),
  (17, .irem, 18, 0, 0, 0),
  (18, .iadd, 19, 0, 0, 0),
  (19, .bipush 64, 21, 0, 64, 0),
  (21, .iload_n 1, 22, 0, 0, 0),
  (22, .iadd, 23, 0, 0, 0),
  (23, .invokevirtual 84, 26, 38, 0, 768),
  (26, .goto 17, 29, 43, 0, 0),
  (29, .aload_n 0, 30, 0, 0, 0),
  (30, .aload_n 0, 31, 0, 0, 0),
  (31, .getfield 18, 34, 450, 0, 320),
  (34, .iload_n 1, 35, 0, 0, 0),
  (35, .iaload, 36, 0, 0, 0),
  (36, .bipush 64, 38, 0, 64, 0),
  (38, .iload_n 1, 39, 0, 0, 0),
  (39, .iadd, 40, 0, 0, 0),
  (40, .invokevirtual 84, 43, 38, 0, 768),
  (43, .return_, 44, 0, 0, 0)]
def kX7_goOnFromSlot : List mj_E := [
  (0, .iconst 0, 1, 0, 0, 0),
  (1, .istore_n 2, 2, 0, 0, 0),
  (2, .iload_n 2, 3, 0, 0, 0),
  (3, .bipush 8, 5, 0, 8, 0),
  (5, .if_icmp .ge 39, 8, 44, 0, 0),
  (8, .iload_n 2, 9, 0, 0, 0),
  (9, .bipush 8, 11, 0, 8, 0),
  (11, .imul, 12, 0, 0, 0),
  (12, .iload_n 1, 13, 0, 0, 0),
  (13, .iadd, 14, 0, 0, 0),
  (14, .istore_n 3, 15, 0, 0, 0),
  (15, .aload_n 0, 16, 0, 0, 0),
  (16, .getfield 18, 19, 450, 0, 320),
  (19, .iload_n 3, 20, 0, 0, 0),
  (20, .iaload, 21, 0, 0, 0),
  (21, .iconst (-1), 22, 0, (-1), 0),
  (22, .if_icmp .eq 16, 25, 38, 0, 0),
  (25, .aload_n 0, 26, 0, 0, 0),
  (26, .bipush 64, 28, 0, 64, 0),
  (28, .iload_n 3, 29, 0, 0, 0),
  (29, .iadd, 30, 0, 0, 0),
  (30, .sipush 128, 33, 0, 128, 0),
  (33, .iload_n 1, 34, 0, 0, 0),
  (34, .iadd, 35, 0, 0, 0),
  (35, .invokevirtual 84, 38, 38, 0, 768),
  (38, .iinc 2 1, 41, 0, 1, 0),
  (41, .goto (-39), 44, 2, 0, 0),
  (44, .return_, 45, 0, 0, 0)]
def kX7_settle : List mj_E := [
  (0, .iload_n 1, 1, 0, 0, 0),
  (1, .istore_n 2, 2, 0, 0, 0),
  (2, .iconst 0, 3, 0, 0, 0),
  (3, .istore_n 3, 4, 0, 0, 0),
  (4, .iload_n 3, 5, 0, 0, 0),
  (5, .sipush 136, 8, 0, 136, 0),
  (8, .if_icmp .ge 60, 11, 68, 0, 0),
  (11, .iload_n 2, 12, 0, 0, 0),
  (12, .iconst (-1), 13, 0, (-1), 0),
  (13, .if_icmp .eq 55, 16, 68, 0, 0),
  (16, .aload_n 0, 17, 0, 0, 0),
  (17, .getfield 24, 20, 452, 0, 322),
  (20, .iload_n 2, 21, 0, 0, 0),
  (21, .iaload, 22, 0, 0, 0),
  (22, .istore 4, 24, 0, 0, 0),
  (24, .iload_n 2, 25, 0, 0, 0),
  (25, .bipush 64, 27, 0, 64, 0),
  (27, .if_icmp .lt 32, 30, 59, 0, 0),
  (30, .iload_n 2, 31, 0, 0, 0),
  (31, .sipush 128, 34, 0, 128, 0),
  (34, .if_icmp .ge 25, 37, 59, 0, 0),
  (37, .aload_n 0, 38, 0, 0, 0),
  (38, .getfield 18, 41, 450, 0, 320),
  (41, .iload_n 2, 42, 0, 0, 0),
  (42, .bipush 64, 44, 0, 64, 0),
  (44, .isub, 45, 0, 0, 0),
  (45, .iload 4, 47, 0, 0, 0),
  (47, .bipush 64, 49, 0, 64, 0),
  (49, .if_icmp .ge 8, 52, 57, 0, 0),
  (52, .iload 4, 54, 0, 0, 0),
  (54, .goto 4, 57, 58, 0, 0),
  (57, .iconst (-1), 58, 0, (-1), 0),
  (58, .iastore, 59, 0, 0, 0),
  (59, .iload 4, 61, 0, 0, 0),
  (61, .istore_n 2, 62, 0, 0, 0),
  (62, .iinc 3 1, 65, 0, 1, 0),
  (65, .goto (-61), 68, 4, 0, 0),
  (68, .return_, 69, 0, 0, 0)]
def kX8_copyFrom : List mj_E := [
  (0, .aload_n 1, 1, 0, 0, 0),
  (1, .getfield 9, 4, 512, 0, 220),
  (4, .iconst 0, 5, 0, 0, 0),
  (5, .aload_n 0, 6, 0, 0, 0),
  (6, .getfield 9, 9, 512, 0, 220),
  (9, .iconst 0, 10, 0, 0, 0),
  (10, .iconst 5, 11, 0, 5, 0),
  (11, .invokestatic 17, 14, 9999, 0, 493),
  (14, .aload_n 0, 15, 0, 0, 0),
  (15, .aload_n 1, 16, 0, 0, 0),
  (16, .getfield 13, 19, 513, 0, 221),
  (19, .putfield 13, 22, 513, 0, 221),
  (22, .return_, 23, 0, 0, 0)]
def kX8_clear : List mj_E := [
  (0, .aload_n 0, 1, 0, 0, 0),
  (1, .iconst 0, 2, 0, 0, 0),
  (2, .putfield 13, 5, 513, 0, 221),
  (5, .return_, 6, 0, 0, 0)]
def kX8_add : List mj_E := [
  (0, .iload_n 1, 1, 0, 0, 0),
  (1, .bipush 100, 3, 0, 100, 0),
  (3, .if_icmp .eq 29, 6, 32, 0, 0),
  (6, .iload_n 1, 7, 0, 0, 0),
  (7, .bipush 98, 9, 0, 98, 0),
  (9, .if_icmp .eq 23, 12, 32, 0, 0),
  (12, .iload_n 1, 13, 0, 0, 0),
  (13, .bipush 103, 15, 0, 103, 0),
  (15, .if_icmp .eq 17, 18, 32, 0, 0),
  (18, .iload_n 1, 19, 0, 0, 0),
  (19, .bipush 119, 21, 0, 119, 0),
  (21, .if_icmp .eq 11, 24, 32, 0, 0),
  (24, .iload_n 1, 25, 0, 0, 0),
  (25, .bipush 114, 27, 0, 114, 0),
  (27, .if_icmp .eq 5, 30, 32, 0, 0),
  (30, .iconst 0, 31, 0, 0, 0),
  (31, .ireturn, 32, 0, 0, 0),
  (32, .iconst 0, 33, 0, 0, 0),
  (33, .istore_n 2, 34, 0, 0, 0),
  (34, .iload_n 2, 35, 0, 0, 0),
  (35, .aload_n 0, 36, 0, 0, 0),
  (36, .getfield 13, 39, 513, 0, 221),
  (39, .if_icmp .ge 21, 42, 60, 0, 0),
  (42, .aload_n 0, 43, 0, 0, 0),
  (43, .getfield 9, 46, 512, 0, 220),
  (46, .iload_n 2, 47, 0, 0, 0),
  (47, .iaload, 48, 0, 0, 0),
  (48, .iload_n 1, 49, 0, 0, 0),
  (49, .if_icmp .ne 5, 52, 54, 0, 0),
  (52, .iconst 0, 53, 0, 0, 0),
  (53, .ireturn, 54, 0, 0, 0),
  (54, .iinc 2 1, 57, 0, 1, 0),
  (57, .goto (-23), 60, 34, 0, 0),
  (60, .aload_n 0, 61, 0, 0, 0),
  (61, .getfield 13, 64, 513, 0, 221),
  (64, .iconst 5, 65, 0, 5, 0),
  (65, .if_icmp .lt 5, 68, 70, 0, 0),
  (68, .iconst 0, 69, 0, 0, 0),
  (69, .ireturn, 70, 0, 0, 0),
  (70, .aload_n 0, 71, 0, 0, 0),
  (71, .getfield 9, 74, 512, 0, 220),
  (74, .aload_n 0, 75, 0, 0, 0),
  (75, .getfield 13, 78, 513, 0, 221),
  (78, .iload_n 1, 79, 0, 0, 0),
  (79, .iastore, 80, 0, 0, 0),
  (80, .aload_n 0, 81, 0, 0, 0),
  (81, .dup, 82, 0, 0, 0),
  (82, .getfield 13, 85, 513, 0, 221),
  (85, .iconst 1, 86, 0, 1, 0),
  (86, .iadd, 87, 0, 0, 0),
  (87, .putfield 13, 90, 513, 0, 221),
  (90, .iconst 1, 91, 0, 1, 0),
  (91, .ireturn, 92, 0, 0, 0)]
def kX8_isAhead : List mj_E := [
  (0, .iconst 0, 1, 0, 0, 0),
  (1, .istore 4, 3, 0, 0, 0),
  (3, .iload 4, 5, 0, 0, 0),
  (5, .aload_n 0, 6, 0, 0, 0),
  (6, .getfield 13, 9, 513, 0, 221),
  (9, .if_icmp .ge 40, 12, 49, 0, 0),
  (12, .aload_n 0, 13, 0, 0, 0),
  (13, .getfield 9, 16, 512, 0, 220),
  (16, .iload 4, 18, 0, 0, 0),
  (18, .iaload, 19, 0, 0, 0),
  (19, .aload_n 1, 20, 0, 0, 0),
  (20, .iload_n 2, 21, 0, 0, 0),
  (21, .iload_n 3, 22, 0, 0, 0),
  (22, .invokestatic 23, 25, 47, 0, 536),
  (25, .istore 5, 27, 0, 0, 0),
  (27, .iload 5, 29, 0, 0, 0),
  (29, .ifCond .eq 14, 32, 43, 0, 0),
  (32, .iload 5, 34, 0, 0, 0),
  (34, .ifCond .le 7, 37, 41, 0, 0),
  (37, .iconst 1, 38, 0, 1, 0),
  (38, .goto 4, 41, 42, 0, 0),
  (41, .iconst 0, 42, 0, 0, 0),
  (42, .ireturn, 43, 0, 0, 0),
  (43, .iinc 4 1, 46, 0, 1, 0),
  (46, .goto (-43), 49, 3, 0, 0),
  (49, .iload_n 2, 50, 0, 0, 0),
  (50, .iload_n 3, 51, 0, 0, 0),
  (51, .if_icmp .ge 7, 54, 58, 0, 0),
  (54, .iconst 1, 55, 0, 1, 0),
  (55, .goto 4, 58, 59, 0, 0),
  (58, .iconst 0, 59, 0, 0, 0),
  (59, .ireturn, 60, 0, 0, 0)]
def kX8_leadBy : List mj_E := [
  (0, .iload_n 0, 1, 0, 0, 0),
  (1, .lookupswitch 151 #[(98, 67), (100, 51), (103, 83), (114, 135), (119, 119)], 52, 0, 0, 0),
  (52, .aload_n 1, 53, 0, 0, 0),
  (53, .getfield 27, 56, 583, 0, 110),
  (56, .iload_n 3, 57, 0, 0, 0),
  (57, .iaload, 58, 0, 0, 0),
  (58, .aload_n 1, 59, 0, 0, 0),
  (59, .getfield 27, 62, 583, 0, 110),
  (62, .iload_n 2, 63, 0, 0, 0),
  (63, .iaload, 64, 0, 0, 0),
  (64, .invokestatic 32, 67, 235, 0, 539),
  (67, .ireturn, 68, 0, 0, 0),
  (68, .aload_n 1, 69, 0, 0, 0),
  (69, .getfield 38, 72, 584, 0, 112),
  (72, .iload_n 2, 73, 0, 0, 0),
  (73, .iaload, 74, 0, 0, 0),
  (74, .aload_n 1, 75, 0, 0, 0),
  (75, .getfield 38, 78, 584, 0, 112),
  (78, .iload_n 3, 79, 0, 0, 0),
  (79, .iaload, 80, 0, 0, 0),
  (80, .invokestatic 32, 83, 235, 0, 539),
  (83, .ireturn, 84, 0, 0, 0),
  (84, .aload_n 1, 85, 0, 0, 0),
  (85, .getfield 38, 88, 584, 0, 112),
  (88, .iload_n 2, 89, 0, 0, 0),
  (89, .iaload, 90, 0, 0, 0),
  (90, .ifCond .eq 12, 93, 102, 0, 0),
  (93, .aload_n 1, 94, 0, 0, 0),
  (94, .getfield 38, 97, 584, 0, 112),
  (97, .iload_n 3, 98, 0, 0, 0),
  (98, .iaload, 99, 0, 0, 0),
  (99, .ifCond .ne 5, 102, 104, 0, 0),
  (102, .iconst 0, 103, 0, 0, 0),
  (103, .ireturn, 104, 0, 0, 0),
  (104, .aload_n 1, 105, 0, 0, 0),
  (105, .getfield 41, 108, 585, 0, 114),
  (108, .iload_n 2, 109, 0, 0, 0),
  (109, .iaload, 110, 0, 0, 0),
  (110, .aload_n 1, 111, 0, 0, 0),
  (111, .getfield 41, 114, 585, 0, 114),
  (114, .iload_n 3, 115, 0, 0, 0),
  (115, .iaload, 116, 0, 0, 0),
  (116, .invokestatic 32, 119, 235, 0, 539),
  (119, .ireturn, 120, 0, 0, 0),
  (120, .aload_n 1, 121, 0, 0, 0),
  (121, .getfield 44, 124, 578, 0, 95),
  (124, .iload_n 2, 125, 0, 0, 0),
  (125, .iaload, 126, 0, 0, 0),
  (126, .aload_n 1, 127, 0, 0, 0),
  (127, .getfield 44, 130, 578, 0, 95),
  (130, .iload_n 3, 131, 0, 0, 0),
  (131, .iaload, 132, 0, 0, 0),
  (132, .invokestatic 32, 135, 235, 0, 539),
  (135, .ireturn, 136, 0, 0, 0),
  (136, .aload_n 1, 137, 0, 0, 0),
  (137, .getfield 47, 140, 582, 0, 108),
  (140, .iload_n 3, 141, 0, 0, 0),
  (141, .iaload, 142, 0, 0, 0),
  (142, .aload_n 1, 143, 0, 0, 0),
  (143, .getfield 47, 146, 582, 0, 108),
  (146, .iload_n 2, 147, 0, 0, 0),
  (147, .iaload, 148, 0, 0, 0),
  (148, .invokestatic 32, 151, 235, 0, 539),
  (151, .ireturn, 152, 0, 0, 0),
  (152, .iconst 0, 153, 0, 0, 0),
  (153, .ireturn, 154, 0, 0, 0)]
def kX9_copyFrom : List mj_E := [
  (0, .aload_n 1, 1, 0, 0, 0),
  (1, .getfield 9, 4, 576, 0, 86),
  (4, .iconst 0, 5, 0, 0, 0),
  (5, .aload_n 0, 6, 0, 0, 0),
  (6, .getfield 9, 9, 576, 0, 86),
  (9, .iconst 0, 10, 0, 0, 0),
  (10, .bipush 8, 12, 0, 8, 0),
  (12, .invokestatic 46, 15, 9999, 0, 407),
  (15, .aload_n 1, 16, 0, 0, 0),
  (16, .getfield 15, 19, 577, 0, 90),
  (19, .iconst 0, 20, 0, 0, 0),
  (20, .aload_n 0, 21, 0, 0, 0),
  (21, .getfield 15, 24, 577, 0, 90),
  (24, .iconst 0, 25, 0, 0, 0),
  (25, .bipush 8, 27, 0, 8, 0),
  (27, .invokestatic 46, 30, 9999, 0, 407),
  (30, .aload_n 1, 31, 0, 0, 0),
  (31, .getfield 18, 34, 578, 0, 94),
  (34, .iconst 0, 35, 0, 0, 0),
  (35, .aload_n 0, 36, 0, 0, 0),
  (36, .getfield 18, 39, 578, 0, 94),
  (39, .iconst 0, 40, 0, 0, 0),
  (40, .bipush 8, 42, 0, 8, 0),
  (42, .invokestatic 46, 45, 9999, 0, 407),
  (45, .aload_n 1, 46, 0, 0, 0),
  (46, .getfield 21, 49, 579, 0, 97),
  (49, .iconst 0, 50, 0, 0, 0),
  (50, .aload_n 0, 51, 0, 0, 0),
  (51, .getfield 21, 54, 579, 0, 97),
  (54, .iconst 0, 55, 0, 0, 0),
  (55, .bipush 8, 57, 0, 8, 0),
  (57, .invokestatic 46, 60, 9999, 0, 407),
  (60, .aload_n 1, 61, 0, 0, 0),
  (61, .getfield 24, 64, 580, 0, 100),
  (64, .iconst 0, 65, 0, 0, 0),
  (65, .aload_n 0, 66, 0, 0, 0),
  (66, .getfield 24, 69, 580, 0, 100),
  (69, .iconst 0, 70, 0, 0, 0),
  (70, .bipush 8, 72, 0, 8, 0),
  (72, .invokestatic 46, 75, 9999, 0, 407),
  (75, .aload_n 1, 76, 0, 0, 0),
  (76, .getfield 27, 79, 581, 0, 103),
  (79, .iconst 0, 80, 0, 0, 0),
  (80, .aload_n 0, 81, 0, 0, 0),
  (81, .getfield 27, 84, 581, 0, 103),
  (84, .iconst 0, 85, 0, 0, 0),
  (85, .bipush 8, 87, 0, 8, 0),
  (87, .invokestatic 46, 90, 9999, 0, 407),
  (90, .aload_n 1, 91, 0, 0, 0),
  (91, .getfield 30, 94, 582, 0, 107),
  (94, .iconst 0, 95, 0, 0, 0),
  (95, .aload_n 0, 96, 0, 0, 0),
  (96, .getfield 30, 99, 582, 0, 107),
  (99, .iconst 0, 100, 0, 0, 0),
  (100, .bipush 8, 102, 0, 8, 0),
  (102, .invokestatic 46, 105, 9999, 0, 407),
  (105, .aload_n 1, 106, 0, 0, 0),
  (106, .getfield 33, 109, 583, 0, 109),
  (109, .iconst 0, 110, 0, 0, 0),
  (110, .aload_n 0, 111, 0, 0, 0),
  (111, .getfield 33, 114, 583, 0, 109),
  (114, .iconst 0, 115, 0, 0, 0),
  (115, .bipush 8, 117, 0, 8, 0),
  (117, .invokestatic 46, 120, 9999, 0, 407),
  (120, .aload_n 1, 121, 0, 0, 0),
  (121, .getfield 36, 124, 584, 0, 111),
  (124, .iconst 0, 125, 0, 0, 0),
  (125, .aload_n 0, 126, 0, 0, 0),
  (126, .getfield 36, 129, 584, 0, 111),
  (129, .iconst 0, 130, 0, 0, 0),
  (130, .bipush 8, 132, 0, 8, 0),
  (132, .invokestatic 46, 135, 9999, 0, 407),
  (135, .aload_n 1, 136, 0, 0, 0),
  (136, .getfield 39, 139, 585, 0, 113),
  (139, .iconst 0, 140, 0, 0, 0),
  (140, .aload_n 0, 141, 0, 0, 0),
  (141, .getfield 39, 144, 585, 0, 113),
  (144, .iconst 0, 145, 0, 0, 0),
  (145, .bipush 8, 147, 0, 8, 0),
  (147, .invokestatic 46, 150, 9999, 0, 407),
  (150, .aload_n 0, 151, 0, 0, 0),
  (151, .aload_n 1, 152, 0, 0, 0),
  (152, .getfield 42, 155, 586, 0, 115),
  (155, .putfield 42, 158, 586, 0, 115),
  (158, .aload_n 0, 159, 0, 0, 0),
  (159, .aload_n 1, 160, 0, 0, 0),
  (160, .getfield 52, 163, 587, 0, 117),
  (163, .putfield 52, 166, 587, 0, 117),
  (166, .aload_n 0, 167, 0, 0, 0),
  (167, .aload_n 1, 168, 0, 0, 0),
  (168, .getfield 55, 171, 588, 0, 120),
  (171, .putfield 55, 174, 588, 0, 120),
  (174, .return_, 175, 0, 0, 0)]
def kX9_isThere : List mj_E := [
  (0, .iload_n 1, 1, 0, 0, 0),
  (1, .ifCond .lt 22, 4, 23, 0, 0),
  (4, .iload_n 1, 5, 0, 0, 0),
  (5, .bipush 8, 7, 0, 8, 0),
  (7, .if_icmp .ge 16, 10, 23, 0, 0),
  (10, .aload_n 0, 11, 0, 0, 0),
  (11, .getfield 15, 14, 577, 0, 90),
  (14, .iload_n 1, 15, 0, 0, 0),
  (15, .iaload, 16, 0, 0, 0),
  (16, .ifCond .le 7, 19, 23, 0, 0),
  (19, .iconst 1, 20, 0, 1, 0),
  (20, .goto 4, 23, 24, 0, 0),
  (23, .iconst 0, 24, 0, 0, 0),
  (24, .ireturn, 25, 0, 0, 0)]
def kX9_thereSet : List mj_E := [
  (0, .iconst 0, 1, 0, 0, 0),
  (1, .istore_n 1, 2, 0, 0, 0),
  (2, .iconst 0, 3, 0, 0, 0),
  (3, .istore_n 2, 4, 0, 0, 0),
  (4, .iload_n 2, 5, 0, 0, 0),
  (5, .bipush 8, 7, 0, 8, 0),
  (7, .if_icmp .ge 24, 10, 31, 0, 0),
  (10, .aload_n 0, 11, 0, 0, 0),
  (11, .getfield 15, 14, 577, 0, 90),
  (14, .iload_n 2, 15, 0, 0, 0),
  (15, .iaload, 16, 0, 0, 0),
  (16, .ifCond .le 9, 19, 25, 0, 0),
  (19, .iload_n 1, 20, 0, 0, 0),
  (20, .iconst 1, 21, 0, 1, 0),
  (21, .iload_n 2, 22, 0, 0, 0),
  (22, .ishl, 23, 0, 0, 0),
  (23, .ior, 24, 0, 0, 0),
  (24, .istore_n 1, 25, 0, 0, 0),
  (25, .iinc 2 1, 28, 0, 1, 0),
  (28, .goto (-24), 31, 4, 0, 0),
  (31, .iload_n 1, 32, 0, 0, 0),
  (32, .ireturn, 33, 0, 0, 0)]
def kX9_leastFree : List mj_E := [
  (0, .iconst 0, 1, 0, 0, 0),
  (1, .istore_n 1, 2, 0, 0, 0),
  (2, .iload_n 1, 3, 0, 0, 0),
  (3, .bipush 8, 5, 0, 8, 0),
  (5, .if_icmp .ge 20, 8, 25, 0, 0),
  (8, .aload_n 0, 9, 0, 0, 0),
  (9, .getfield 15, 12, 577, 0, 90),
  (12, .iload_n 1, 13, 0, 0, 0),
  (13, .iaload, 14, 0, 0, 0),
  (14, .ifCond .gt 5, 17, 19, 0, 0),
  (17, .iload_n 1, 18, 0, 0, 0),
  (18, .ireturn, 19, 0, 0, 0),
  (19, .iinc 1 1, 22, 0, 1, 0),
  (22, .goto (-20), 25, 2, 0, 0),
  (25, .iconst (-1), 26, 0, (-1), 0),
  (26, .ireturn, 27, 0, 0, 0)]
def kX9_doneOfAll : List mj_E := [
  (0, .iconst 0, 1, 0, 0, 0),
  (1, .istore_n 1, 2, 0, 0, 0),
  (2, .iconst 0, 3, 0, 0, 0),
  (3, .istore_n 2, 4, 0, 0, 0),
  (4, .iload_n 2, 5, 0, 0, 0),
  (5, .bipush 8, 7, 0, 8, 0),
  (7, .if_icmp .ge 27, 10, 34, 0, 0),
  (10, .aload_n 0, 11, 0, 0, 0),
  (11, .getfield 15, 14, 577, 0, 90),
  (14, .iload_n 2, 15, 0, 0, 0),
  (15, .iaload, 16, 0, 0, 0),
  (16, .ifCond .le 12, 19, 28, 0, 0),
  (19, .iload_n 1, 20, 0, 0, 0),
  (20, .aload_n 0, 21, 0, 0, 0),
  (21, .getfield 27, 24, 581, 0, 103),
  (24, .iload_n 2, 25, 0, 0, 0),
  (25, .iaload, 26, 0, 0, 0),
  (26, .iadd, 27, 0, 0, 0),
  (27, .istore_n 1, 28, 0, 0, 0),
  (28, .iinc 2 1, 31, 0, 1, 0),
  (31, .goto (-27), 34, 4, 0, 0),
  (34, .iload_n 1, 35, 0, 0, 0),
  (35, .ireturn, 36, 0, 0, 0)]
def kX9_enter : List mj_E := [
  (0, .iload_n 1, 1, 0, 0, 0),
  (1, .ifCond .lt 14, 4, 15, 0, 0),
  (4, .iload_n 1, 5, 0, 0, 0),
  (5, .bipush 8, 7, 0, 8, 0),
  (7, .if_icmp .ge 8, 10, 15, 0, 0),
  (10, .iload_n 3, 11, 0, 0, 0),
  (11, .iconst 1, 12, 0, 1, 0),
  (12, .if_icmp .ge 4, 15, 16, 0, 0),
  (15, .return_, 16, 0, 0, 0),
  (16, .aload_n 0, 17, 0, 0, 0),
  (17, .getfield 9, 20, 576, 0, 86),
  (20, .iload_n 1, 21, 0, 0, 0),
  (21, .iload_n 2, 22, 0, 0, 0),
  (22, .iastore, 23, 0, 0, 0),
  (23, .aload_n 0, 24, 0, 0, 0),
  (24, .getfield 15, 27, 577, 0, 90),
  (27, .iload_n 1, 28, 0, 0, 0),
  (28, .iload_n 3, 29, 0, 0, 0),
  (29, .iastore, 30, 0, 0, 0),
  (30, .aload_n 0, 31, 0, 0, 0),
  (31, .getfield 18, 34, 578, 0, 94),
  (34, .iload_n 1, 35, 0, 0, 0),
  (35, .iload_n 2, 36, 0, 0, 0),
  (36, .sipush 27720, 39, 0, 27720, 0),
  (39, .iload_n 3, 40, 0, 0, 0),
  (40, .idiv, 41, 0, 0, 0),
  (41, .imul, 42, 0, 0, 0),
  (42, .iastore, 43, 0, 0, 0),
  (43, .aload_n 0, 44, 0, 0, 0),
  (44, .getfield 21, 47, 579, 0, 97),
  (47, .iload_n 1, 48, 0, 0, 0),
  (48, .aload_n 0, 49, 0, 0, 0),
  (49, .getfield 52, 52, 587, 0, 117),
  (52, .iastore, 53, 0, 0, 0),
  (53, .aload_n 0, 54, 0, 0, 0),
  (54, .getfield 24, 57, 580, 0, 100),
  (57, .iload_n 1, 58, 0, 0, 0),
  (58, .iload 4, 60, 0, 0, 0),
  (60, .iastore, 61, 0, 0, 0),
  (61, .aload_n 0, 62, 0, 0, 0),
  (62, .getfield 27, 65, 581, 0, 103),
  (65, .iload_n 1, 66, 0, 0, 0),
  (66, .iconst 0, 67, 0, 0, 0),
  (67, .iastore, 68, 0, 0, 0),
  (68, .aload_n 0, 69, 0, 0, 0),
  (69, .iload_n 1, 70, 0, 0, 0),
  (70, .invokevirtual 58, 73, 54, 0, 441),
  (73, .return_, 74, 0, 0, 0)]
def kX9_lookAtNext : List mj_E := [
  (0, .aload_n 0, 1, 0, 0, 0),
  (1, .getfield 9, 4, 576, 0, 86),
  (4, .iload_n 1, 5, 0, 0, 0),
  (5, .iaload, 6, 0, 0, 0),
  (6, .istore_n 2, 7, 0, 0, 0),
  (7, .aload_n 0, 8, 0, 0, 0),
  (8, .getfield 15, 11, 577, 0, 90),
  (11, .iload_n 1, 12, 0, 0, 0),
  (12, .iaload, 13, 0, 0, 0),
  (13, .istore_n 3, 14, 0, 0, 0),
  (14, .aload_n 0, 15, 0, 0, 0),
  (15, .getfield 27, 18, 581, 0, 103),
  (18, .iload_n 1, 19, 0, 0, 0),
  (19, .iaload, 20, 0, 0, 0),
  (20, .iconst 1, 21, 0, 1, 0),
  (21, .iadd, 22, 0, 0, 0),
  (22, .istore 4, 24, 0, 0, 0),
  (24, .iload_n 2, 25, 0, 0, 0),
  (25, .iload_n 3, 26, 0, 0, 0),
  (26, .iload 4, 28, 0, 0, 0),
  (28, .invokestatic 62, 31, 10, 0, 445),
  (31, .istore 5, 33, 0, 0, 0),
  (33, .aload_n 0, 34, 0, 0, 0),
  (34, .getfield 30, 37, 582, 0, 107),
  (37, .iload_n 1, 38, 0, 0, 0),
  (38, .aload_n 0, 39, 0, 0, 0),
  (39, .getfield 21, 42, 579, 0, 97),
  (42, .iload_n 1, 43, 0, 0, 0),
  (43, .iaload, 44, 0, 0, 0),
  (44, .iload_n 2, 45, 0, 0, 0),
  (45, .iload_n 3, 46, 0, 0, 0),
  (46, .iload 4, 48, 0, 0, 0),
  (48, .invokestatic 67, 51, 7, 0, 457),
  (51, .iadd, 52, 0, 0, 0),
  (52, .iastore, 53, 0, 0, 0),
  (53, .aload_n 0, 54, 0, 0, 0),
  (54, .getfield 33, 57, 583, 0, 109),
  (57, .iload_n 1, 58, 0, 0, 0),
  (58, .aload_n 0, 59, 0, 0, 0),
  (59, .getfield 21, 62, 579, 0, 97),
  (62, .iload_n 1, 63, 0, 0, 0),
  (63, .iaload, 64, 0, 0, 0),
  (64, .iload_n 2, 65, 0, 0, 0),
  (65, .iload_n 3, 66, 0, 0, 0),
  (66, .iload 4, 68, 0, 0, 0),
  (68, .invokestatic 69, 71, 8, 0, 458),
  (71, .iadd, 72, 0, 0, 0),
  (72, .iastore, 73, 0, 0, 0),
  (73, .aload_n 0, 74, 0, 0, 0),
  (74, .getfield 36, 77, 584, 0, 111),
  (77, .iload_n 1, 78, 0, 0, 0),
  (78, .iload_n 2, 79, 0, 0, 0),
  (79, .iload_n 3, 80, 0, 0, 0),
  (80, .iload 4, 82, 0, 0, 0),
  (82, .invokestatic 71, 85, 9, 0, 459),
  (85, .iastore, 86, 0, 0, 0),
  (86, .aload_n 0, 87, 0, 0, 0),
  (87, .getfield 39, 90, 585, 0, 113),
  (90, .iload_n 1, 91, 0, 0, 0),
  (91, .iload 5, 93, 0, 0, 0),
  (93, .ifCond .ne 7, 96, 100, 0, 0),
  (96, .iconst 0, 97, 0, 0, 0),
  (97, .goto 12, 100, 109, 0, 0),
  (100, .aload_n 0, 101, 0, 0, 0),
  (101, .getfield 21, 104, 579, 0, 97),
  (104, .iload_n 1, 105, 0, 0, 0),
  (105, .iaload, 106, 0, 0, 0),
  (106, .iload 5, 108, 0, 0, 0),
  (108, .iadd, 109, 0, 0, 0),
  (109, .iastore, 110, 0, 0, 0),
  (110, .return_, 111, 0, 0, 0)]
def kX9_releaseOf : List mj_E := [
  (0, .aload_n 0, 1, 0, 0, 0),
  (1, .getfield 21, 4, 579, 0, 97),
  (4, .iload_n 1, 5, 0, 0, 0),
  (5, .iaload, 6, 0, 0, 0),
  (6, .aload_n 0, 7, 0, 0, 0),
  (7, .getfield 9, 10, 576, 0, 86),
  (10, .iload_n 1, 11, 0, 0, 0),
  (11, .iaload, 12, 0, 0, 0),
  (12, .aload_n 0, 13, 0, 0, 0),
  (13, .getfield 15, 16, 577, 0, 90),
  (16, .iload_n 1, 17, 0, 0, 0),
  (17, .iaload, 18, 0, 0, 0),
  (18, .iload_n 2, 19, 0, 0, 0),
  (19, .invokestatic 67, 22, 7, 0, 457),
  (22, .iadd, 23, 0, 0, 0),
  (23, .ireturn, 24, 0, 0, 0)]
def kX9_deadlineOf : List mj_E := [
  (0, .aload_n 0, 1, 0, 0, 0),
  (1, .getfield 21, 4, 579, 0, 97),
  (4, .iload_n 1, 5, 0, 0, 0),
  (5, .iaload, 6, 0, 0, 0),
  (6, .aload_n 0, 7, 0, 0, 0),
  (7, .getfield 9, 10, 576, 0, 86),
  (10, .iload_n 1, 11, 0, 0, 0),
  (11, .iaload, 12, 0, 0, 0),
  (12, .aload_n 0, 13, 0, 0, 0),
  (13, .getfield 15, 16, 577, 0, 90),
  (16, .iload_n 1, 17, 0, 0, 0),
  (17, .iaload, 18, 0, 0, 0),
  (18, .iload_n 2, 19, 0, 0, 0),
  (19, .invokestatic 69, 22, 8, 0, 458),
  (22, .iadd, 23, 0, 0, 0),
  (23, .ireturn, 24, 0, 0, 0)]
def kX9_overlapOf : List mj_E := [
  (0, .aload_n 0, 1, 0, 0, 0),
  (1, .getfield 9, 4, 576, 0, 86),
  (4, .iload_n 1, 5, 0, 0, 0),
  (5, .iaload, 6, 0, 0, 0),
  (6, .aload_n 0, 7, 0, 0, 0),
  (7, .getfield 15, 10, 577, 0, 90),
  (10, .iload_n 1, 11, 0, 0, 0),
  (11, .iaload, 12, 0, 0, 0),
  (12, .iload_n 2, 13, 0, 0, 0),
  (13, .invokestatic 71, 16, 9, 0, 459),
  (16, .ireturn, 17, 0, 0, 0)]
def kX9_groupOf : List mj_E := [
  (0, .aload_n 0, 1, 0, 0, 0),
  (1, .getfield 9, 4, 576, 0, 86),
  (4, .iload_n 1, 5, 0, 0, 0),
  (5, .iaload, 6, 0, 0, 0),
  (6, .aload_n 0, 7, 0, 0, 0),
  (7, .getfield 15, 10, 577, 0, 90),
  (10, .iload_n 1, 11, 0, 0, 0),
  (11, .iaload, 12, 0, 0, 0),
  (12, .iload_n 2, 13, 0, 0, 0),
  (13, .invokestatic 62, 16, 10, 0, 445),
  (16, .istore_n 3, 17, 0, 0, 0),
  (17, .iload_n 3, 18, 0, 0, 0),
  (18, .ifCond .ne 7, 21, 25, 0, 0),
  (21, .iconst 0, 22, 0, 0, 0),
  (22, .goto 11, 25, 33, 0, 0),
  (25, .aload_n 0, 26, 0, 0, 0),
  (26, .getfield 21, 29, 579, 0, 97),
  (29, .iload_n 1, 30, 0, 0, 0),
  (30, .iaload, 31, 0, 0, 0),
  (31, .iload_n 3, 32, 0, 0, 0),
  (32, .iadd, 33, 0, 0, 0),
  (33, .ireturn, 34, 0, 0, 0)]
def kX9_isReady : List mj_E := [
  (0, .aload_n 0, 1, 0, 0, 0),
  (1, .iload_n 1, 2, 0, 0, 0),
  (2, .invokevirtual 73, 5, 49, 0, 521),
  (5, .ifCond .eq 29, 8, 34, 0, 0),
  (8, .aload_n 0, 9, 0, 0, 0),
  (9, .getfield 24, 12, 580, 0, 100),
  (12, .iload_n 1, 13, 0, 0, 0),
  (13, .iaload, 14, 0, 0, 0),
  (14, .ifCond .ne 16, 17, 30, 0, 0),
  (17, .aload_n 0, 18, 0, 0, 0),
  (18, .getfield 30, 21, 582, 0, 107),
  (21, .iload_n 1, 22, 0, 0, 0),
  (22, .iaload, 23, 0, 0, 0),
  (23, .aload_n 0, 24, 0, 0, 0),
  (24, .getfield 52, 27, 587, 0, 117),
  (27, .if_icmp .gt 7, 30, 34, 0, 0),
  (30, .iconst 1, 31, 0, 1, 0),
  (31, .goto 4, 34, 35, 0, 0),
  (34, .iconst 0, 35, 0, 0, 0),
  (35, .ireturn, 36, 0, 0, 0)]
def kX9_hasRun : List mj_E := [
  (0, .aload_n 0, 1, 0, 0, 0),
  (1, .getfield 77, 4, 589, 0, 123),
  (4, .iload_n 1, 5, 0, 0, 0),
  (5, .ishr, 6, 0, 0, 0),
  (6, .iconst 1, 7, 0, 1, 0),
  (7, .iand, 8, 0, 0, 0),
  (8, .ifCond .eq 7, 11, 15, 0, 0),
  (11, .iconst 1, 12, 0, 1, 0),
  (12, .goto 4, 15, 16, 0, 0),
  (15, .iconst 0, 16, 0, 0, 0),
  (16, .ireturn, 17, 0, 0, 0)]
def kX9_readySet : List mj_E := [
  (0, .iconst 0, 1, 0, 0, 0),
  (1, .istore_n 2, 2, 0, 0, 0),
  (2, .iconst 0, 3, 0, 0, 0),
  (3, .istore_n 3, 4, 0, 0, 0),
  (4, .iload_n 3, 5, 0, 0, 0),
  (5, .bipush 8, 7, 0, 8, 0),
  (7, .if_icmp .ge 28, 10, 35, 0, 0),
  (10, .iload_n 3, 11, 0, 0, 0),
  (11, .iload_n 1, 12, 0, 0, 0),
  (12, .if_icmp .eq 17, 15, 29, 0, 0),
  (15, .aload_n 0, 16, 0, 0, 0),
  (16, .iload_n 3, 17, 0, 0, 0),
  (17, .invokevirtual 80, 20, 59, 0, 517),
  (20, .ifCond .eq 9, 23, 29, 0, 0),
  (23, .iload_n 2, 24, 0, 0, 0),
  (24, .iconst 1, 25, 0, 1, 0),
  (25, .iload_n 3, 26, 0, 0, 0),
  (26, .ishl, 27, 0, 0, 0),
  (27, .ior, 28, 0, 0, 0),
  (28, .istore_n 2, 29, 0, 0, 0),
  (29, .iinc 3 1, 32, 0, 1, 0),
  (32, .goto (-28), 35, 4, 0, 0),
  (35, .iload_n 2, 36, 0, 0, 0),
  (36, .ireturn, 37, 0, 0, 0)]
def kX9_firstOf : List mj_E := [
  (0, .iconst (-1), 1, 0, (-1), 0),
  (1, .istore_n 3, 2, 0, 0, 0),
  (2, .iconst 0, 3, 0, 0, 0),
  (3, .istore 4, 5, 0, 0, 0),
  (5, .iload 4, 7, 0, 0, 0),
  (7, .bipush 8, 9, 0, 8, 0),
  (9, .if_icmp .ge 37, 12, 46, 0, 0),
  (12, .iload_n 1, 13, 0, 0, 0),
  (13, .iload 4, 15, 0, 0, 0),
  (15, .ishr, 16, 0, 0, 0),
  (16, .iconst 1, 17, 0, 1, 0),
  (17, .iand, 18, 0, 0, 0),
  (18, .ifCond .eq 22, 21, 40, 0, 0),
  (21, .iload_n 3, 22, 0, 0, 0),
  (22, .iconst (-1), 23, 0, (-1), 0),
  (23, .if_icmp .eq 14, 26, 37, 0, 0),
  (26, .aload_n 2, 27, 0, 0, 0),
  (27, .aload_n 0, 28, 0, 0, 0),
  (28, .iload 4, 30, 0, 0, 0),
  (30, .iload_n 3, 31, 0, 0, 0),
  (31, .invokevirtual 83, 34, 46, 0, 532),
  (34, .ifCond .eq 6, 37, 40, 0, 0),
  (37, .iload 4, 39, 0, 0, 0),
  (39, .istore_n 3, 40, 0, 0, 0),
  (40, .iinc 4 1, 43, 0, 1, 0),
  (43, .goto (-38), 46, 5, 0, 0),
  (46, .iload_n 3, 47, 0, 0, 0),
  (47, .ireturn, 48, 0, 0, 0)]
def kX9_goBy : List mj_E := [
  (0, .aload_n 0, 1, 0, 0, 0),
  (1, .iload_n 2, 2, 0, 0, 0),
  (2, .invokevirtual 89, 5, 61, 0, 513),
  (5, .istore_n 3, 6, 0, 0, 0),
  (6, .aload_n 0, 7, 0, 0, 0),
  (7, .iload_n 3, 8, 0, 0, 0),
  (8, .invokestatic 93, 11, 236, 0, 522),
  (11, .putfield 98, 14, 590, 0, 125),
  (14, .aload_n 0, 15, 0, 0, 0),
  (15, .iconst 0, 16, 0, 0, 0),
  (16, .putfield 77, 19, 589, 0, 123),
  (19, .iconst 0, 20, 0, 0, 0),
  (20, .istore 4, 22, 0, 0, 0),
  (22, .iload 4, 24, 0, 0, 0),
  (24, .aload_n 0, 25, 0, 0, 0),
  (25, .getfield 42, 28, 586, 0, 115),
  (28, .if_icmp .ge 41, 31, 69, 0, 0),
  (31, .iload_n 3, 32, 0, 0, 0),
  (32, .ifCond .eq 37, 35, 69, 0, 0),
  (35, .iconst 1, 36, 0, 1, 0),
  (36, .aload_n 0, 37, 0, 0, 0),
  (37, .iload_n 3, 38, 0, 0, 0),
  (38, .aload_n 1, 39, 0, 0, 0),
  (39, .invokevirtual 101, 42, 62, 0, 528),
  (42, .ishl, 43, 0, 0, 0),
  (43, .istore 5, 45, 0, 0, 0),
  (45, .aload_n 0, 46, 0, 0, 0),
  (46, .dup, 47, 0, 0, 0),
  (47, .getfield 77, 50, 589, 0, 123),
  (50, .iload 5, 52, 0, 0, 0),
  (52, .ior, 53, 0, 0, 0),
  (53, .putfield 77, 56, 589, 0, 123),
  (56, .iload_n 3, 57, 0, 0, 0),
  (57, .iload 5, 59, 0, 0, 0),
  (59, .iconst (-1), 60, 0, (-1), 0),
  (60, .ixor, 61, 0, 0, 0),
  (61, .iand, 62, 0, 0, 0),
  (62, .istore_n 3, 63, 0, 0, 0),
  (63, .iinc 4 1, 66, 0, 1, 0),
  (66, .goto (-44), 69, 22, 0, 0),
  (69, .aload_n 0, 70, 0, 0, 0),
  (70, .iconst 0, 71, 0, 0, 0),
  (71, .putfield 105, 74, 591, 0, 126),
  (74, .iconst 0, 75, 0, 0, 0),
  (75, .istore 4, 77, 0, 0, 0),
  (77, .iload 4, 79, 0, 0, 0),
  (79, .bipush 8, 81, 0, 8, 0),
  (81, .if_icmp .ge 83, 84, 164, 0, 0),
  (84, .aload_n 0, 85, 0, 0, 0),
  (85, .iload 4, 87, 0, 0, 0),
  (87, .invokevirtual 108, 90, 60, 0, 542),
  (90, .ifCond .eq 20, 93, 110, 0, 0),
  (93, .aload_n 0, 94, 0, 0, 0),
  (94, .getfield 27, 97, 581, 0, 103),
  (97, .iload 4, 99, 0, 0, 0),
  (99, .dup2, 100, 0, 0, 0),
  (100, .iaload, 101, 0, 0, 0),
  (101, .iconst 1, 102, 0, 1, 0),
  (102, .iadd, 103, 0, 0, 0),
  (103, .iastore, 104, 0, 0, 0),
  (104, .aload_n 0, 105, 0, 0, 0),
  (105, .iload 4, 107, 0, 0, 0),
  (107, .invokevirtual 58, 110, 54, 0, 441),
  (110, .aload_n 0, 111, 0, 0, 0),
  (111, .iload 4, 113, 0, 0, 0),
  (113, .invokevirtual 73, 116, 49, 0, 521),
  (116, .ifCond .eq 42, 119, 158, 0, 0),
  (119, .aload_n 0, 120, 0, 0, 0),
  (120, .getfield 33, 123, 583, 0, 109),
  (123, .iload 4, 125, 0, 0, 0),
  (125, .iaload, 126, 0, 0, 0),
  (126, .aload_n 0, 127, 0, 0, 0),
  (127, .getfield 52, 130, 587, 0, 117),
  (130, .iconst 1, 131, 0, 1, 0),
  (131, .iadd, 132, 0, 0, 0),
  (132, .if_icmp .ne 26, 135, 158, 0, 0),
  (135, .aload_n 0, 136, 0, 0, 0),
  (136, .dup, 137, 0, 0, 0),
  (137, .getfield 105, 140, 591, 0, 126),
  (140, .iconst 1, 141, 0, 1, 0),
  (141, .iload 4, 143, 0, 0, 0),
  (143, .ishl, 144, 0, 0, 0),
  (144, .ior, 145, 0, 0, 0),
  (145, .putfield 105, 148, 591, 0, 126),
  (148, .aload_n 0, 149, 0, 0, 0),
  (149, .dup, 150, 0, 0, 0),
  (150, .getfield 55, 153, 588, 0, 120),
  (153, .iconst 1, 154, 0, 1, 0),
  (154, .iadd, 155, 0, 0, 0),
  (155, .putfield 55, 158, 588, 0, 120),
  (158, .iinc 4 1, 161, 0, 1, 0),
  (161, .goto (-84), 164, 77, 0, 0),
  (164, .aload_n 0, 165, 0, 0, 0),
  (165, .dup, 166, 0, 0, 0),
  (166, .getfield 52, 169, 587, 0, 117),
  (169, .iconst 1, 170, 0, 1, 0),
  (170, .iadd, 171, 0, 0, 0),
  (171, .putfield 52, 174, 587, 0, 117),
  (174, .return_, 175, 0, 0, 0)]
def kX9_goByMany : List mj_E := [
  (0, .iload_n 1, 1, 0, 0, 0),
  (1, .ifCond .lt 9, 4, 10, 0, 0),
  (4, .iload_n 1, 5, 0, 0, 0),
  (5, .bipush 60, 7, 0, 60, 0),
  (7, .if_icmp .le 5, 10, 12, 0, 0),
  (10, .iconst (-1), 11, 0, (-1), 0),
  (11, .ireturn, 12, 0, 0, 0),
  (12, .iconst 0, 13, 0, 0, 0),
  (13, .istore_n 3, 14, 0, 0, 0),
  (14, .aload_n 0, 15, 0, 0, 0),
  (15, .iconst 0, 16, 0, 0, 0),
  (16, .putfield 111, 19, 592, 0, 129),
  (19, .iconst 0, 20, 0, 0, 0),
  (20, .istore 4, 22, 0, 0, 0),
  (22, .iload 4, 24, 0, 0, 0),
  (24, .iload_n 1, 25, 0, 0, 0),
  (25, .if_icmp .ge 48, 28, 73, 0, 0),
  (28, .aload_n 0, 29, 0, 0, 0),
  (29, .aload_n 2, 30, 0, 0, 0),
  (30, .iconst (-1), 31, 0, (-1), 0),
  (31, .invokevirtual 114, 34, 63, 0, 562),
  (34, .aload_n 0, 35, 0, 0, 0),
  (35, .getfield 77, 38, 589, 0, 123),
  (38, .invokestatic 93, 41, 236, 0, 522),
  (41, .istore 5, 43, 0, 0, 0),
  (43, .iload_n 3, 44, 0, 0, 0),
  (44, .iload 5, 46, 0, 0, 0),
  (46, .iadd, 47, 0, 0, 0),
  (47, .istore_n 3, 48, 0, 0, 0),
  (48, .iload 5, 50, 0, 0, 0),
  (50, .aload_n 0, 51, 0, 0, 0),
  (51, .getfield 42, 54, 586, 0, 115),
  (54, .if_icmp .ge 13, 57, 67, 0, 0),
  (57, .aload_n 0, 58, 0, 0, 0),
  (58, .dup, 59, 0, 0, 0),
  (59, .getfield 111, 62, 592, 0, 129),
  (62, .iconst 1, 63, 0, 1, 0),
  (63, .iadd, 64, 0, 0, 0),
  (64, .putfield 111, 67, 592, 0, 129),
  (67, .iinc 4 1, 70, 0, 1, 0),
  (70, .goto (-48), 73, 22, 0, 0),
  (73, .iload_n 3, 74, 0, 0, 0),
  (74, .ireturn, 75, 0, 0, 0)]
def kX9_takeProcessors : List mj_E := [
  (0, .iload_n 1, 1, 0, 0, 0),
  (1, .iconst 1, 2, 0, 1, 0),
  (2, .if_icmp .lt 8, 5, 10, 0, 0),
  (5, .iload_n 1, 6, 0, 0, 0),
  (6, .iconst 4, 7, 0, 4, 0),
  (7, .if_icmp .le 5, 10, 12, 0, 0),
  (10, .iconst (-1), 11, 0, (-1), 0),
  (11, .ireturn, 12, 0, 0, 0),
  (12, .iload_n 1, 13, 0, 0, 0),
  (13, .aload_n 0, 14, 0, 0, 0),
  (14, .getfield 42, 17, 586, 0, 115),
  (17, .if_icmp .ne 6, 20, 23, 0, 0),
  (20, .bipush (-2), 22, 0, (-2), 0),
  (22, .ireturn, 23, 0, 0, 0),
  (23, .aload_n 0, 24, 0, 0, 0),
  (24, .invokevirtual 118, 27, 69, 0, 571),
  (27, .iload_n 1, 28, 0, 0, 0),
  (28, .sipush 27720, 31, 0, 27720, 0),
  (31, .imul, 32, 0, 0, 0),
  (32, .if_icmp .le 6, 35, 38, 0, 0),
  (35, .bipush (-3), 37, 0, (-3), 0),
  (37, .ireturn, 38, 0, 0, 0),
  (38, .aload_n 0, 39, 0, 0, 0),
  (39, .getfield 42, 42, 586, 0, 115),
  (42, .istore_n 2, 43, 0, 0, 0),
  (43, .aload_n 0, 44, 0, 0, 0),
  (44, .iload_n 1, 45, 0, 0, 0),
  (45, .putfield 42, 48, 586, 0, 115),
  (48, .bipush 10, 50, 0, 10, 0),
  (50, .iload_n 2, 51, 0, 0, 0),
  (51, .iadd, 52, 0, 0, 0),
  (52, .ireturn, 53, 0, 0, 0)]
def kX9_letGo : List mj_E := [
  (0, .aload_n 0, 1, 0, 0, 0),
  (1, .iload_n 1, 2, 0, 0, 0),
  (2, .invokevirtual 73, 5, 49, 0, 521),
  (5, .ifCond .ne 5, 8, 10, 0, 0),
  (8, .iconst (-1), 9, 0, (-1), 0),
  (9, .ireturn, 10, 0, 0, 0),
  (10, .aload_n 0, 11, 0, 0, 0),
  (11, .getfield 52, 14, 587, 0, 117),
  (14, .aload_n 0, 15, 0, 0, 0),
  (15, .iload_n 1, 16, 0, 0, 0),
  (16, .invokevirtual 122, 19, 67, 0, 584),
  (19, .if_icmp .ge 6, 22, 25, 0, 0),
  (22, .bipush (-3), 24, 0, (-3), 0),
  (24, .ireturn, 25, 0, 0, 0),
  (25, .aload_n 0, 26, 0, 0, 0),
  (26, .getfield 15, 29, 577, 0, 90),
  (29, .iload_n 1, 30, 0, 0, 0),
  (30, .iconst 0, 31, 0, 0, 0),
  (31, .iastore, 32, 0, 0, 0),
  (32, .aload_n 0, 33, 0, 0, 0),
  (33, .getfield 18, 36, 578, 0, 94),
  (36, .iload_n 1, 37, 0, 0, 0),
  (37, .iconst 0, 38, 0, 0, 0),
  (38, .iastore, 39, 0, 0, 0),
  (39, .aload_n 0, 40, 0, 0, 0),
  (40, .invokevirtual 125, 43, 50, 0, 600),
  (43, .invokestatic 93, 46, 236, 0, 522),
  (46, .ireturn, 47, 0, 0, 0)]
def kX9_mayLeaveFrom : List mj_E := [
  (0, .aload_n 0, 1, 0, 0, 0),
  (1, .getfield 27, 4, 581, 0, 103),
  (4, .iload_n 1, 5, 0, 0, 0),
  (5, .iaload, 6, 0, 0, 0),
  (6, .istore_n 2, 7, 0, 0, 0),
  (7, .iload_n 2, 8, 0, 0, 0),
  (8, .ifCond .ne 8, 11, 16, 0, 0),
  (11, .aload_n 0, 12, 0, 0, 0),
  (12, .getfield 52, 15, 587, 0, 117),
  (15, .ireturn, 16, 0, 0, 0),
  (16, .aload_n 0, 17, 0, 0, 0),
  (17, .iload_n 1, 18, 0, 0, 0),
  (18, .iload_n 2, 19, 0, 0, 0),
  (19, .invokevirtual 128, 22, 58, 0, 588),
  (22, .istore_n 3, 23, 0, 0, 0),
  (23, .iload_n 3, 24, 0, 0, 0),
  (24, .ifCond .eq 5, 27, 29, 0, 0),
  (27, .iload_n 3, 28, 0, 0, 0),
  (28, .ireturn, 29, 0, 0, 0),
  (29, .aload_n 0, 30, 0, 0, 0),
  (30, .iload_n 1, 31, 0, 0, 0),
  (31, .iload_n 2, 32, 0, 0, 0),
  (32, .invokevirtual 132, 35, 56, 0, 592),
  (35, .aload_n 0, 36, 0, 0, 0),
  (36, .iload_n 1, 37, 0, 0, 0),
  (37, .iload_n 2, 38, 0, 0, 0),
  (38, .invokevirtual 135, 41, 57, 0, 596),
  (41, .iadd, 42, 0, 0, 0),
  (42, .ireturn, 43, 0, 0, 0)]
def kX9_turnEarly : List mj_E := [
  (0, .aload_n 0, 1, 0, 0, 0),
  (1, .iload_n 1, 2, 0, 0, 0),
  (2, .invokevirtual 73, 5, 49, 0, 521),
  (5, .ifCond .ne 5, 8, 10, 0, 0),
  (8, .iconst (-1), 9, 0, (-1), 0),
  (9, .ireturn, 10, 0, 0, 0),
  (10, .aload_n 0, 11, 0, 0, 0),
  (11, .getfield 24, 14, 580, 0, 100),
  (14, .iload_n 1, 15, 0, 0, 0),
  (15, .iconst 1, 16, 0, 1, 0),
  (16, .aload_n 0, 17, 0, 0, 0),
  (17, .getfield 24, 20, 580, 0, 100),
  (20, .iload_n 1, 21, 0, 0, 0),
  (21, .iaload, 22, 0, 0, 0),
  (22, .isub, 23, 0, 0, 0),
  (23, .iastore, 24, 0, 0, 0),
  (24, .aload_n 0, 25, 0, 0, 0),
  (25, .getfield 24, 28, 580, 0, 100),
  (28, .iload_n 1, 29, 0, 0, 0),
  (29, .iaload, 30, 0, 0, 0),
  (30, .ireturn, 31, 0, 0, 0)]
def kX9_weightSum : List mj_E := [
  (0, .iconst 0, 1, 0, 0, 0),
  (1, .istore_n 1, 2, 0, 0, 0),
  (2, .iconst 0, 3, 0, 0, 0),
  (3, .istore_n 2, 4, 0, 0, 0),
  (4, .iload_n 2, 5, 0, 0, 0),
  (5, .bipush 8, 7, 0, 8, 0),
  (7, .if_icmp .ge 18, 10, 25, 0, 0),
  (10, .iload_n 1, 11, 0, 0, 0),
  (11, .aload_n 0, 12, 0, 0, 0),
  (12, .getfield 18, 15, 578, 0, 94),
  (15, .iload_n 2, 16, 0, 0, 0),
  (16, .iaload, 17, 0, 0, 0),
  (17, .iadd, 18, 0, 0, 0),
  (18, .istore_n 1, 19, 0, 0, 0),
  (19, .iinc 2 1, 22, 0, 1, 0),
  (22, .goto (-18), 25, 4, 0, 0),
  (25, .iload_n 1, 26, 0, 0, 0),
  (26, .ireturn, 27, 0, 0, 0)]
def kX9_heaviestOf : List mj_E := [
  (0, .iconst (-1), 1, 0, (-1), 0),
  (1, .istore_n 2, 2, 0, 0, 0),
  (2, .iconst 0, 3, 0, 0, 0),
  (3, .istore_n 3, 4, 0, 0, 0),
  (4, .iload_n 3, 5, 0, 0, 0),
  (5, .bipush 8, 7, 0, 8, 0),
  (7, .if_icmp .ge 51, 10, 58, 0, 0),
  (10, .iload_n 1, 11, 0, 0, 0),
  (11, .iload_n 3, 12, 0, 0, 0),
  (12, .ishr, 13, 0, 0, 0),
  (13, .iconst 1, 14, 0, 1, 0),
  (14, .iand, 15, 0, 0, 0),
  (15, .ifCond .eq 7, 18, 22, 0, 0),
  (18, .iconst 1, 19, 0, 1, 0),
  (19, .goto 4, 22, 23, 0, 0),
  (22, .iconst 0, 23, 0, 0, 0),
  (23, .istore 4, 25, 0, 0, 0),
  (25, .iload 4, 27, 0, 0, 0),
  (27, .ifCond .eq 25, 30, 52, 0, 0),
  (30, .iload_n 2, 31, 0, 0, 0),
  (31, .iconst (-1), 32, 0, (-1), 0),
  (32, .if_icmp .eq 18, 35, 50, 0, 0),
  (35, .aload_n 0, 36, 0, 0, 0),
  (36, .getfield 18, 39, 578, 0, 94),
  (39, .iload_n 3, 40, 0, 0, 0),
  (40, .iaload, 41, 0, 0, 0),
  (41, .aload_n 0, 42, 0, 0, 0),
  (42, .getfield 18, 45, 578, 0, 94),
  (45, .iload_n 2, 46, 0, 0, 0),
  (46, .iaload, 47, 0, 0, 0),
  (47, .if_icmp .le 5, 50, 52, 0, 0),
  (50, .iload_n 3, 51, 0, 0, 0),
  (51, .istore_n 2, 52, 0, 0, 0),
  (52, .iinc 3 1, 55, 0, 1, 0),
  (55, .goto (-51), 58, 4, 0, 0),
  (58, .iload_n 2, 59, 0, 0, 0),
  (59, .ireturn, 60, 0, 0, 0)]
def kX9_lagUpper : List mj_E := [
  (0, .aload_n 0, 1, 0, 0, 0),
  (1, .getfield 52, 4, 587, 0, 117),
  (4, .aload_n 0, 5, 0, 0, 0),
  (5, .getfield 21, 8, 579, 0, 97),
  (8, .iload_n 1, 9, 0, 0, 0),
  (9, .iaload, 10, 0, 0, 0),
  (10, .isub, 11, 0, 0, 0),
  (11, .aload_n 0, 12, 0, 0, 0),
  (12, .getfield 9, 15, 576, 0, 86),
  (15, .iload_n 1, 16, 0, 0, 0),
  (16, .iaload, 17, 0, 0, 0),
  (17, .imul, 18, 0, 0, 0),
  (18, .aload_n 0, 19, 0, 0, 0),
  (19, .getfield 27, 22, 581, 0, 103),
  (22, .iload_n 1, 23, 0, 0, 0),
  (23, .iaload, 24, 0, 0, 0),
  (24, .aload_n 0, 25, 0, 0, 0),
  (25, .getfield 15, 28, 577, 0, 90),
  (28, .iload_n 1, 29, 0, 0, 0),
  (29, .iaload, 30, 0, 0, 0),
  (30, .imul, 31, 0, 0, 0),
  (31, .isub, 32, 0, 0, 0),
  (32, .ireturn, 33, 0, 0, 0)]
def kX9_compareLags : List mj_E := [
  (0, .aload_n 0, 1, 0, 0, 0),
  (1, .iload_n 1, 2, 0, 0, 0),
  (2, .invokevirtual 138, 5, 71, 0, 678),
  (5, .i2l, 6, 0, 0, 0),
  (6, .aload_n 0, 7, 0, 0, 0),
  (7, .getfield 15, 10, 577, 0, 90),
  (10, .iload_n 2, 11, 0, 0, 0),
  (11, .iaload, 12, 0, 0, 0),
  (12, .i2l, 13, 0, 0, 0),
  (13, .lmul, 14, 0, 0, 0),
  (14, .lstore_n 3, 15, 0, 0, 0),
  (15, .aload_n 0, 16, 0, 0, 0),
  (16, .iload_n 2, 17, 0, 0, 0),
  (17, .invokevirtual 138, 20, 71, 0, 678),
  (20, .i2l, 21, 0, 0, 0),
  (21, .aload_n 0, 22, 0, 0, 0),
  (22, .getfield 15, 25, 577, 0, 90),
  (25, .iload_n 1, 26, 0, 0, 0),
  (26, .iaload, 27, 0, 0, 0),
  (27, .i2l, 28, 0, 0, 0),
  (28, .lmul, 29, 0, 0, 0),
  (29, .lstore 5, 31, 0, 0, 0),
  (31, .lload_n 3, 32, 0, 0, 0),
  (32, .lload 5, 34, 0, 0, 0),
  (34, .invokestatic 141, 37, 237, 0, 679),
  (37, .ireturn, 38, 0, 0, 0)]
def kX9_hasLagsOf : List mj_E := [
  (0, .iconst 0, 1, 0, 0, 0),
  (1, .istore_n 2, 2, 0, 0, 0),
  (2, .iload_n 2, 3, 0, 0, 0),
  (3, .bipush 8, 5, 0, 8, 0),
  (5, .if_icmp .ge 32, 8, 37, 0, 0),
  (8, .aload_n 0, 9, 0, 0, 0),
  (9, .iload_n 2, 10, 0, 0, 0),
  (10, .invokevirtual 73, 13, 49, 0, 521),
  (13, .ifCond .eq 18, 16, 31, 0, 0),
  (16, .aload_n 0, 17, 0, 0, 0),
  (17, .iload_n 2, 18, 0, 0, 0),
  (18, .invokevirtual 138, 21, 71, 0, 678),
  (21, .aload_n 1, 22, 0, 0, 0),
  (22, .iload_n 2, 23, 0, 0, 0),
  (23, .invokevirtual 138, 26, 71, 0, 678),
  (26, .if_icmp .eq 5, 29, 31, 0, 0),
  (29, .iconst 0, 30, 0, 0, 0),
  (30, .ireturn, 31, 0, 0, 0),
  (31, .iinc 2 1, 34, 0, 1, 0),
  (34, .goto (-32), 37, 2, 0, 0),
  (37, .iconst 1, 38, 0, 1, 0),
  (38, .ireturn, 39, 0, 0, 0)]
def kX10_sign : List mj_E := [
  (0, .aload_n 0, 1, 0, 0, 0),
  (1, .getfield 32, 4, 644, 0, 344),
  (4, .iload_n 1, 5, 0, 0, 0),
  (5, .invokevirtual 89, 8, 19, 0, 387),
  (8, .ireturn, 9, 0, 0, 0)]
def kX10_end : List mj_E := [
  (0, .aload_n 0, 1, 0, 0, 0),
  (1, .getfield 32, 4, 644, 0, 344),
  (4, .iload_n 1, 5, 0, 0, 0),
  (5, .invokevirtual 93, 8, 20, 0, 395),
  (8, .ireturn, 9, 0, 0, 0)]
def kX10_joins : List mj_E := [
  (0, .aload_n 0, 1, 0, 0, 0),
  (1, .getfield 19, 4, 642, 0, 342),
  (4, .aload_n 0, 5, 0, 0, 0),
  (5, .getfield 10, 8, 640, 0, 340),
  (8, .invokevirtual 97, 11, 48, 0, 403),
  (11, .aload_n 0, 12, 0, 0, 0),
  (12, .getfield 32, 15, 644, 0, 344),
  (15, .aload_n 0, 16, 0, 0, 0),
  (16, .getfield 19, 19, 642, 0, 342),
  (19, .invokevirtual 101, 22, 25, 0, 410),
  (22, .istore_n 1, 23, 0, 0, 0),
  (23, .aload_n 0, 24, 0, 0, 0),
  (24, .getfield 32, 27, 644, 0, 344),
  (27, .invokevirtual 105, 30, 21, 0, 460),
  (30, .iload_n 1, 31, 0, 0, 0),
  (31, .ifCond .gt 5, 34, 36, 0, 0),
  (34, .iload_n 1, 35, 0, 0, 0),
  (35, .ireturn, 36, 0, 0, 0),
  (36, .aload_n 0, 37, 0, 0, 0),
  (37, .getfield 19, 40, 642, 0, 342),
  (40, .invokevirtual 108, 43, 69, 0, 464),
  (43, .aload_n 0, 44, 0, 0, 0),
  (44, .getfield 19, 47, 642, 0, 342),
  (47, .getfield 112, 50, 586, 0, 116),
  (50, .sipush 27720, 53, 0, 27720, 0),
  (53, .imul, 54, 0, 0, 0),
  (54, .if_icmp .le 6, 57, 60, 0, 0),
  (57, .bipush (-100), 59, 0, (-100), 0),
  (59, .ireturn, 60, 0, 0, 0),
  (60, .aload_n 0, 61, 0, 0, 0),
  (61, .getfield 25, 64, 643, 0, 343),
  (64, .aload_n 0, 65, 0, 0, 0),
  (65, .getfield 10, 68, 640, 0, 340),
  (68, .invokevirtual 116, 71, 11, 0, 468),
  (71, .aload_n 0, 72, 0, 0, 0),
  (72, .getfield 10, 75, 640, 0, 340),
  (75, .aload_n 0, 76, 0, 0, 0),
  (76, .getfield 19, 79, 642, 0, 342),
  (79, .invokevirtual 97, 82, 48, 0, 403),
  (82, .iload_n 1, 83, 0, 0, 0),
  (83, .ireturn, 84, 0, 0, 0)]
def kX10_ties : List mj_E := [
  (0, .aload_n 0, 1, 0, 0, 0),
  (1, .getfield 32, 4, 644, 0, 344),
  (4, .aload_n 0, 5, 0, 0, 0),
  (5, .getfield 43, 8, 646, 0, 346),
  (8, .invokevirtual 119, 11, 24, 0, 477),
  (11, .istore_n 1, 12, 0, 0, 0),
  (12, .aload_n 0, 13, 0, 0, 0),
  (13, .getfield 32, 16, 644, 0, 344),
  (16, .invokevirtual 105, 19, 21, 0, 460),
  (19, .iload_n 1, 20, 0, 0, 0),
  (20, .iconst (-1), 21, 0, (-1), 0),
  (21, .if_icmp .eq 7, 24, 28, 0, 0),
  (24, .iconst (-1), 25, 0, (-1), 0),
  (25, .iload_n 1, 26, 0, 0, 0),
  (26, .isub, 27, 0, 0, 0),
  (27, .ireturn, 28, 0, 0, 0),
  (28, .aload_n 0, 29, 0, 0, 0),
  (29, .getfield 39, 32, 645, 0, 345),
  (32, .aload_n 0, 33, 0, 0, 0),
  (33, .getfield 43, 36, 646, 0, 346),
  (36, .invokevirtual 123, 39, 43, 0, 489),
  (39, .aload_n 0, 40, 0, 0, 0),
  (40, .getfield 39, 43, 645, 0, 345),
  (43, .getfield 126, 46, 513, 0, 222),
  (46, .ireturn, 47, 0, 0, 0)]
def kX10_task : List mj_E := [
  (0, .aload_n 0, 1, 0, 0, 0),
  (1, .getfield 10, 4, 640, 0, 340),
  (4, .iload_n 1, 5, 0, 0, 0),
  (5, .invokevirtual 129, 8, 49, 0, 498),
  (8, .ifCond .ne 11, 11, 19, 0, 0),
  (11, .new 132, 14, 0, 0, 0),
  (14, .dup, 15, 0, 0, 0),
  (15, .invokespecial 134, 18, 0, 0, 0),
  (18, .athrow, 19, 0, 0, 0),
  (19, .iload_n 2, 20, 0, 0, 0),
  (20, .tableswitch 86 0 4 #[36, 46, 56, 66, 76], 56, 0, 0, 0),
  (56, .aload_n 0, 57, 0, 0, 0),
  (57, .getfield 10, 60, 640, 0, 340),
  (60, .getfield 135, 63, 576, 0, 89),
  (63, .iload_n 1, 64, 0, 0, 0),
  (64, .iaload, 65, 0, 0, 0),
  (65, .ireturn, 66, 0, 0, 0),
  (66, .aload_n 0, 67, 0, 0, 0),
  (67, .getfield 10, 70, 640, 0, 340),
  (70, .getfield 138, 73, 577, 0, 93),
  (73, .iload_n 1, 74, 0, 0, 0),
  (74, .iaload, 75, 0, 0, 0),
  (75, .ireturn, 76, 0, 0, 0),
  (76, .aload_n 0, 77, 0, 0, 0),
  (77, .getfield 10, 80, 640, 0, 340),
  (80, .getfield 141, 83, 579, 0, 99),
  (83, .iload_n 1, 84, 0, 0, 0),
  (84, .iaload, 85, 0, 0, 0),
  (85, .ireturn, 86, 0, 0, 0),
  (86, .aload_n 0, 87, 0, 0, 0),
  (87, .getfield 10, 90, 640, 0, 340),
  (90, .getfield 144, 93, 580, 0, 102),
  (93, .iload_n 1, 94, 0, 0, 0),
  (94, .iaload, 95, 0, 0, 0),
  (95, .ireturn, 96, 0, 0, 0),
  (96, .aload_n 0, 97, 0, 0, 0),
  (97, .getfield 10, 100, 640, 0, 340),
  (100, .getfield 147, 103, 581, 0, 105),
  (103, .iload_n 1, 104, 0, 0, 0),
  (104, .iaload, 105, 0, 0, 0),
  (105, .ireturn, 106, 0, 0, 0),
  (106, .new 132, 109, 0, 0, 0),
  (109, .dup, 110, 0, 0, 0),
  (110, .invokespecial 134, 113, 0, 0, 0),
  (113, .athrow, 114, 0, 0, 0)]
def kX10_part : List mj_E := [
  (0, .aload_n 0, 1, 0, 0, 0),
  (1, .getfield 10, 4, 640, 0, 340),
  (4, .iload_n 1, 5, 0, 0, 0),
  (5, .invokevirtual 129, 8, 49, 0, 498),
  (8, .ifCond .eq 15, 11, 23, 0, 0),
  (11, .iload_n 2, 12, 0, 0, 0),
  (12, .iconst 1, 13, 0, 1, 0),
  (13, .if_icmp .lt 10, 16, 23, 0, 0),
  (16, .iload_n 2, 17, 0, 0, 0),
  (17, .sipush 200, 20, 0, 200, 0),
  (20, .if_icmp .le 11, 23, 31, 0, 0),
  (23, .new 132, 26, 0, 0, 0),
  (26, .dup, 27, 0, 0, 0),
  (27, .invokespecial 134, 30, 0, 0, 0),
  (30, .athrow, 31, 0, 0, 0),
  (31, .iload_n 3, 32, 0, 0, 0),
  (32, .tableswitch 96 0 4 #[36, 46, 56, 66, 76], 68, 0, 0, 0),
  (68, .aload_n 0, 69, 0, 0, 0),
  (69, .getfield 10, 72, 640, 0, 340),
  (72, .iload_n 1, 73, 0, 0, 0),
  (73, .iload_n 2, 74, 0, 0, 0),
  (74, .invokevirtual 150, 77, 55, 0, 1029),
  (77, .ireturn, 78, 0, 0, 0),
  (78, .aload_n 0, 79, 0, 0, 0),
  (79, .getfield 10, 82, 640, 0, 340),
  (82, .iload_n 1, 83, 0, 0, 0),
  (83, .iload_n 2, 84, 0, 0, 0),
  (84, .invokevirtual 154, 87, 56, 0, 695),
  (87, .ireturn, 88, 0, 0, 0),
  (88, .aload_n 0, 89, 0, 0, 0),
  (89, .getfield 10, 92, 640, 0, 340),
  (92, .iload_n 1, 93, 0, 0, 0),
  (93, .iload_n 2, 94, 0, 0, 0),
  (94, .invokevirtual 157, 97, 57, 0, 1030),
  (97, .ireturn, 98, 0, 0, 0),
  (98, .aload_n 0, 99, 0, 0, 0),
  (99, .getfield 10, 102, 640, 0, 340),
  (102, .iload_n 1, 103, 0, 0, 0),
  (103, .iload_n 2, 104, 0, 0, 0),
  (104, .invokevirtual 160, 107, 58, 0, 1031),
  (107, .ireturn, 108, 0, 0, 0),
  (108, .aload_n 0, 109, 0, 0, 0),
  (109, .getfield 10, 112, 640, 0, 340),
  (112, .iload_n 1, 113, 0, 0, 0),
  (113, .iload_n 2, 114, 0, 0, 0),
  (114, .invokevirtual 154, 117, 56, 0, 695),
  (117, .aload_n 0, 118, 0, 0, 0),
  (118, .getfield 10, 121, 640, 0, 340),
  (121, .iload_n 1, 122, 0, 0, 0),
  (122, .iload_n 2, 123, 0, 0, 0),
  (123, .invokevirtual 150, 126, 55, 0, 1029),
  (126, .isub, 127, 0, 0, 0),
  (127, .ireturn, 128, 0, 0, 0),
  (128, .new 132, 131, 0, 0, 0),
  (131, .dup, 132, 0, 0, 0),
  (132, .invokespecial 134, 135, 0, 0, 0),
  (135, .athrow, 136, 0, 0, 0)]
def kX10_sheet : List mj_E := [
  (0, .iload_n 1, 1, 0, 0, 0),
  (1, .ifCond .lt 14, 4, 15, 0, 0),
  (4, .iload_n 1, 5, 0, 0, 0),
  (5, .iconst 3, 6, 0, 3, 0),
  (6, .if_icmp .gt 9, 9, 15, 0, 0),
  (9, .iload_n 2, 10, 0, 0, 0),
  (10, .bipush 8, 12, 0, 8, 0),
  (12, .if_icmp .le 5, 15, 17, 0, 0),
  (15, .iconst (-1), 16, 0, (-1), 0),
  (16, .ireturn, 17, 0, 0, 0),
  (17, .iload_n 1, 18, 0, 0, 0),
  (18, .iconst 3, 19, 0, 3, 0),
  (19, .if_icmp .eq 10, 22, 29, 0, 0),
  (22, .iload_n 2, 23, 0, 0, 0),
  (23, .ifCond .ge 6, 26, 29, 0, 0),
  (26, .bipush (-2), 28, 0, (-2), 0),
  (28, .ireturn, 29, 0, 0, 0),
  (29, .iload_n 1, 30, 0, 0, 0),
  (30, .iconst 3, 31, 0, 3, 0),
  (31, .if_icmp .ne 7, 34, 38, 0, 0),
  (34, .iconst 0, 35, 0, 0, 0),
  (35, .goto 4, 38, 39, 0, 0),
  (38, .iload_n 2, 39, 0, 0, 0),
  (39, .istore 5, 41, 0, 0, 0),
  (41, .iconst 0, 42, 0, 0, 0),
  (42, .istore 6, 44, 0, 0, 0),
  (44, .iconst 0, 45, 0, 0, 0),
  (45, .istore 7, 47, 0, 0, 0),
  (47, .iconst 0, 48, 0, 0, 0),
  (48, .istore 8, 50, 0, 0, 0),
  (50, .iload 8, 52, 0, 0, 0),
  (52, .bipush 8, 54, 0, 8, 0),
  (54, .if_icmp .ge 87, 57, 141, 0, 0),
  (57, .aload_n 0, 58, 0, 0, 0),
  (58, .getfield 10, 61, 640, 0, 340),
  (61, .iload 8, 63, 0, 0, 0),
  (63, .invokevirtual 129, 66, 49, 0, 498),
  (66, .ifCond .eq 69, 69, 135, 0, 0),
  (69, .iload 6, 71, 0, 0, 0),
  (71, .iload 5, 73, 0, 0, 0),
  (73, .if_icmp .ge 21, 76, 94, 0, 0),
  (76, .iload_n 1, 77, 0, 0, 0),
  (77, .iload_n 3, 78, 0, 0, 0),
  (78, .iload 6, 80, 0, 0, 0),
  (80, .iload 4, 82, 0, 0, 0),
  (82, .imul, 83, 0, 0, 0),
  (83, .iadd, 84, 0, 0, 0),
  (84, .invokestatic 163, 87, 81, 0, 502),
  (87, .ifCond .le 7, 90, 94, 0, 0),
  (90, .iconst 1, 91, 0, 1, 0),
  (91, .goto 4, 94, 95, 0, 0),
  (94, .iconst 0, 95, 0, 0, 0),
  (95, .istore 9, 97, 0, 0, 0),
  (97, .aload_n 0, 98, 0, 0, 0),
  (98, .getfield 10, 101, 640, 0, 340),
  (101, .getfield 144, 104, 580, 0, 102),
  (104, .iload 8, 106, 0, 0, 0),
  (106, .iload 9, 108, 0, 0, 0),
  (108, .ifCond .eq 7, 111, 115, 0, 0),
  (111, .iconst 1, 112, 0, 1, 0),
  (112, .goto 4, 115, 116, 0, 0),
  (115, .iconst 0, 116, 0, 0, 0),
  (116, .iastore, 117, 0, 0, 0),
  (117, .iload 7, 119, 0, 0, 0),
  (119, .aload_n 0, 120, 0, 0, 0),
  (120, .getfield 10, 123, 640, 0, 340),
  (123, .getfield 144, 126, 580, 0, 102),
  (126, .iload 8, 128, 0, 0, 0),
  (128, .iaload, 129, 0, 0, 0),
  (129, .iadd, 130, 0, 0, 0),
  (130, .istore 7, 132, 0, 0, 0),
  (132, .iinc 6 1, 135, 0, 1, 0),
  (135, .iinc 8 1, 138, 0, 1, 0),
  (138, .goto (-88), 141, 50, 0, 0),
  (141, .iload_n 1, 142, 0, 0, 0),
  (142, .iconst 3, 143, 0, 3, 0),
  (143, .if_icmp .ne 8, 146, 151, 0, 0),
  (146, .bipush (-3), 148, 0, (-3), 0),
  (148, .goto 5, 151, 153, 0, 0),
  (151, .iload 7, 153, 0, 0, 0),
  (153, .ireturn, 154, 0, 0, 0)]
def kX10_entry : List mj_E := [
  (0, .iload_n 0, 1, 0, 0, 0),
  (1, .lookupswitch 33 #[(0, 27), (1, 30)], 28, 0, 0, 0),
  (28, .iload_n 1, 29, 0, 0, 0),
  (29, .i2b, 30, 0, 0, 0),
  (30, .ireturn, 31, 0, 0, 0),
  (31, .iload_n 1, 32, 0, 0, 0),
  (32, .i2s, 33, 0, 0, 0),
  (33, .ireturn, 34, 0, 0, 0),
  (34, .iload_n 1, 35, 0, 0, 0),
  (35, .ireturn, 36, 0, 0, 0)]
def kX10_slot : List mj_E := [
  (0, .aload_n 0, 1, 0, 0, 0),
  (1, .getfield 10, 4, 640, 0, 340),
  (4, .getfield 166, 7, 588, 0, 121),
  (7, .istore_n 1, 8, 0, 0, 0),
  (8, .aload_n 0, 9, 0, 0, 0),
  (9, .getfield 25, 12, 643, 0, 343),
  (12, .aload_n 0, 13, 0, 0, 0),
  (13, .getfield 10, 16, 640, 0, 340),
  (16, .invokevirtual 116, 19, 11, 0, 468),
  (19, .aload_n 0, 20, 0, 0, 0),
  (20, .getfield 10, 23, 640, 0, 340),
  (23, .aload_n 0, 24, 0, 0, 0),
  (24, .getfield 39, 27, 645, 0, 345),
  (27, .iconst (-1), 28, 0, (-1), 0),
  (28, .invokevirtual 169, 31, 63, 0, 509),
  (31, .aload_n 0, 32, 0, 0, 0),
  (32, .getfield 49, 35, 647, 0, 347),
  (35, .invokevirtual 173, 38, 15, 0, 546),
  (38, .aload_n 0, 39, 0, 0, 0),
  (39, .getfield 49, 42, 647, 0, 347),
  (42, .aload_n 0, 43, 0, 0, 0),
  (43, .getfield 10, 46, 640, 0, 340),
  (46, .getfield 166, 49, 588, 0, 121),
  (49, .iload_n 1, 50, 0, 0, 0),
  (50, .isub, 51, 0, 0, 0),
  (51, .i2l, 52, 0, 0, 0),
  (52, .invokevirtual 174, 55, 16, 0, 550),
  (55, .aload_n 0, 56, 0, 0, 0),
  (56, .getfield 49, 59, 647, 0, 347),
  (59, .aload_n 0, 60, 0, 0, 0),
  (60, .getfield 10, 63, 640, 0, 340),
  (63, .getfield 178, 66, 590, 0, 124),
  (66, .i2l, 67, 0, 0, 0),
  (67, .invokevirtual 174, 70, 16, 0, 550),
  (70, .aload_n 0, 71, 0, 0, 0),
  (71, .getfield 10, 74, 640, 0, 340),
  (74, .getfield 181, 77, 589, 0, 122),
  (77, .ireturn, 78, 0, 0, 0)]
def kX10_slots : List mj_E := [
  (0, .aload_n 0, 1, 0, 0, 0),
  (1, .getfield 10, 4, 640, 0, 340),
  (4, .getfield 166, 7, 588, 0, 121),
  (7, .istore_n 2, 8, 0, 0, 0),
  (8, .aload_n 0, 9, 0, 0, 0),
  (9, .getfield 16, 12, 641, 0, 341),
  (12, .aload_n 0, 13, 0, 0, 0),
  (13, .getfield 10, 16, 640, 0, 340),
  (16, .invokevirtual 97, 19, 48, 0, 403),
  (19, .aload_n 0, 20, 0, 0, 0),
  (20, .getfield 10, 23, 640, 0, 340),
  (23, .iload_n 1, 24, 0, 0, 0),
  (24, .aload_n 0, 25, 0, 0, 0),
  (25, .getfield 39, 28, 645, 0, 345),
  (28, .invokevirtual 184, 31, 64, 0, 558),
  (31, .istore_n 3, 32, 0, 0, 0),
  (32, .iload_n 3, 33, 0, 0, 0),
  (33, .ifCond .ge 5, 36, 38, 0, 0),
  (36, .iload_n 3, 37, 0, 0, 0),
  (37, .ireturn, 38, 0, 0, 0),
  (38, .aload_n 0, 39, 0, 0, 0),
  (39, .getfield 25, 42, 643, 0, 343),
  (42, .aload_n 0, 43, 0, 0, 0),
  (43, .getfield 16, 46, 641, 0, 341),
  (46, .invokevirtual 116, 49, 11, 0, 468),
  (49, .aload_n 0, 50, 0, 0, 0),
  (50, .getfield 49, 53, 647, 0, 347),
  (53, .invokevirtual 173, 56, 15, 0, 546),
  (56, .aload_n 0, 57, 0, 0, 0),
  (57, .getfield 49, 60, 647, 0, 347),
  (60, .aload_n 0, 61, 0, 0, 0),
  (61, .getfield 10, 64, 640, 0, 340),
  (64, .getfield 166, 67, 588, 0, 121),
  (67, .iload_n 2, 68, 0, 0, 0),
  (68, .isub, 69, 0, 0, 0),
  (69, .i2l, 70, 0, 0, 0),
  (70, .invokevirtual 174, 73, 16, 0, 550),
  (73, .aload_n 0, 74, 0, 0, 0),
  (74, .getfield 49, 77, 647, 0, 347),
  (77, .aload_n 0, 78, 0, 0, 0),
  (78, .getfield 10, 81, 640, 0, 340),
  (81, .getfield 188, 84, 592, 0, 128),
  (84, .i2l, 85, 0, 0, 0),
  (85, .invokevirtual 174, 88, 16, 0, 550),
  (88, .iload_n 3, 89, 0, 0, 0),
  (89, .ireturn, 90, 0, 0, 0)]
def kX10_processors : List mj_E := [
  (0, .aload_n 0, 1, 0, 0, 0),
  (1, .getfield 16, 4, 641, 0, 341),
  (4, .aload_n 0, 5, 0, 0, 0),
  (5, .getfield 10, 8, 640, 0, 340),
  (8, .invokevirtual 97, 11, 48, 0, 403),
  (11, .aload_n 0, 12, 0, 0, 0),
  (12, .aload_n 0, 13, 0, 0, 0),
  (13, .getfield 10, 16, 640, 0, 340),
  (16, .iload_n 1, 17, 0, 0, 0),
  (17, .invokevirtual 191, 20, 65, 0, 567),
  (20, .invokevirtual 194, 23, 87, 0, 572),
  (23, .ireturn, 24, 0, 0, 0)]
def kX10_leaves : List mj_E := [
  (0, .aload_n 0, 1, 0, 0, 0),
  (1, .getfield 16, 4, 641, 0, 341),
  (4, .aload_n 0, 5, 0, 0, 0),
  (5, .getfield 10, 8, 640, 0, 340),
  (8, .invokevirtual 97, 11, 48, 0, 403),
  (11, .aload_n 0, 12, 0, 0, 0),
  (12, .aload_n 0, 13, 0, 0, 0),
  (13, .getfield 10, 16, 640, 0, 340),
  (16, .iload_n 1, 17, 0, 0, 0),
  (17, .invokevirtual 197, 20, 66, 0, 580),
  (20, .invokevirtual 194, 23, 87, 0, 572),
  (23, .ireturn, 24, 0, 0, 0)]
def kX10_hurries : List mj_E := [
  (0, .aload_n 0, 1, 0, 0, 0),
  (1, .getfield 16, 4, 641, 0, 341),
  (4, .aload_n 0, 5, 0, 0, 0),
  (5, .getfield 10, 8, 640, 0, 340),
  (8, .invokevirtual 97, 11, 48, 0, 403),
  (11, .aload_n 0, 12, 0, 0, 0),
  (12, .aload_n 0, 13, 0, 0, 0),
  (13, .getfield 10, 16, 640, 0, 340),
  (16, .iload_n 1, 17, 0, 0, 0),
  (17, .invokevirtual 200, 20, 68, 0, 608),
  (20, .invokevirtual 194, 23, 87, 0, 572),
  (23, .ireturn, 24, 0, 0, 0)]
def kX10_rememberedIfDone : List mj_E := [
  (0, .iload_n 1, 1, 0, 0, 0),
  (1, .ifCond .lt 14, 4, 15, 0, 0),
  (4, .aload_n 0, 5, 0, 0, 0),
  (5, .getfield 25, 8, 643, 0, 343),
  (8, .aload_n 0, 9, 0, 0, 0),
  (9, .getfield 16, 12, 641, 0, 341),
  (12, .invokevirtual 116, 15, 11, 0, 468),
  (15, .iload_n 1, 16, 0, 0, 0),
  (16, .ireturn, 17, 0, 0, 0)]
def kX10_shift : List mj_E := [
  (0, .aload_n 0, 1, 0, 0, 0),
  (1, .getfield 32, 4, 644, 0, 344),
  (4, .invokevirtual 203, 7, 29, 0, 616),
  (7, .istore_n 1, 8, 0, 0, 0),
  (8, .iload_n 1, 9, 0, 0, 0),
  (9, .iconst (-1), 10, 0, (-1), 0),
  (10, .if_icmp .eq 14, 13, 24, 0, 0),
  (13, .aload_n 0, 14, 0, 0, 0),
  (14, .getfield 32, 17, 644, 0, 344),
  (17, .invokevirtual 105, 20, 21, 0, 460),
  (20, .iconst (-1), 21, 0, (-1), 0),
  (21, .iload_n 1, 22, 0, 0, 0),
  (22, .isub, 23, 0, 0, 0),
  (23, .ireturn, 24, 0, 0, 0),
  (24, .aload_n 0, 25, 0, 0, 0),
  (25, .getfield 16, 28, 641, 0, 341),
  (28, .aload_n 0, 29, 0, 0, 0),
  (29, .getfield 10, 32, 640, 0, 340),
  (32, .invokevirtual 97, 35, 48, 0, 403),
  (35, .iconst 0, 36, 0, 0, 0),
  (36, .istore_n 2, 37, 0, 0, 0),
  (37, .iconst 0, 38, 0, 0, 0),
  (38, .istore_n 3, 39, 0, 0, 0),
  (39, .iconst 0, 40, 0, 0, 0),
  (40, .istore 4, 42, 0, 0, 0),
  (42, .iconst 0, 43, 0, 0, 0),
  (43, .istore 5, 45, 0, 0, 0),
  (45, .iload 5, 47, 0, 0, 0),
  (47, .bipush 60, 49, 0, 60, 0),
  (49, .if_icmp .ge 56, 52, 105, 0, 0),
  (52, .iload 4, 54, 0, 0, 0),
  (54, .aload_n 0, 55, 0, 0, 0),
  (55, .getfield 32, 58, 644, 0, 344),
  (58, .getfield 206, 61, 321, 0, 201),
  (61, .if_icmp .ge 44, 64, 105, 0, 0),
  (64, .iload_n 3, 65, 0, 0, 0),
  (65, .ifCond .ne 40, 68, 105, 0, 0),
  (68, .aload_n 0, 69, 0, 0, 0),
  (69, .iload 4, 71, 0, 0, 0),
  (71, .invokevirtual 207, 74, 89, 0, 624),
  (74, .ifCond .ge 8, 77, 82, 0, 0),
  (77, .iconst 1, 78, 0, 1, 0),
  (78, .istore_n 3, 79, 0, 0, 0),
  (79, .goto 20, 82, 99, 0, 0),
  (82, .iinc 2 1, 85, 0, 1, 0),
  (85, .iload 4, 87, 0, 0, 0),
  (87, .aload_n 0, 88, 0, 0, 0),
  (88, .getfield 32, 91, 644, 0, 344),
  (91, .iload 4, 93, 0, 0, 0),
  (93, .invokevirtual 210, 96, 28, 0, 630),
  (96, .iadd, 97, 0, 0, 0),
  (97, .istore 4, 99, 0, 0, 0),
  (99, .iinc 5 1, 102, 0, 1, 0),
  (102, .goto (-57), 105, 45, 0, 0),
  (105, .aload_n 0, 106, 0, 0, 0),
  (106, .getfield 32, 109, 644, 0, 344),
  (109, .invokevirtual 105, 112, 21, 0, 460),
  (112, .iload_n 2, 113, 0, 0, 0),
  (113, .ifCond .le 14, 116, 127, 0, 0),
  (116, .aload_n 0, 117, 0, 0, 0),
  (117, .getfield 25, 120, 643, 0, 343),
  (120, .aload_n 0, 121, 0, 0, 0),
  (121, .getfield 16, 124, 641, 0, 341),
  (124, .invokevirtual 116, 127, 11, 0, 468),
  (127, .aload_n 0, 128, 0, 0, 0),
  (128, .getfield 49, 131, 647, 0, 347),
  (131, .invokevirtual 173, 134, 15, 0, 546),
  (134, .aload_n 0, 135, 0, 0, 0),
  (135, .getfield 49, 138, 647, 0, 347),
  (138, .iload_n 3, 139, 0, 0, 0),
  (139, .i2l, 140, 0, 0, 0),
  (140, .invokevirtual 174, 143, 16, 0, 550),
  (143, .aload_n 0, 144, 0, 0, 0),
  (144, .getfield 49, 147, 647, 0, 347),
  (147, .aload_n 0, 148, 0, 0, 0),
  (148, .getfield 10, 151, 640, 0, 340),
  (151, .getfield 213, 154, 587, 0, 119),
  (154, .i2l, 155, 0, 0, 0),
  (155, .invokevirtual 174, 158, 16, 0, 550),
  (158, .iload_n 2, 159, 0, 0, 0),
  (159, .ireturn, 160, 0, 0, 0)]
def kX10_answerOfAct : List mj_E := [
  (0, .aload_n 0, 1, 0, 0, 0),
  (1, .getfield 32, 4, 644, 0, 344),
  (4, .iload_n 1, 5, 0, 0, 0),
  (5, .iconst 1, 6, 0, 1, 0),
  (6, .iadd, 7, 0, 0, 0),
  (7, .invokevirtual 216, 10, 23, 0, 628),
  (10, .istore_n 2, 11, 0, 0, 0),
  (11, .aload_n 0, 12, 0, 0, 0),
  (12, .getfield 32, 15, 644, 0, 344),
  (15, .iload_n 1, 16, 0, 0, 0),
  (16, .invokevirtual 219, 19, 22, 0, 629),
  (19, .lookupswitch 116 #[(42, 49), (104, 107), (108, 98), (110, 62), (112, 89)], 68, 0, 0, 0),
  (68, .aload_n 0, 69, 0, 0, 0),
  (69, .getfield 10, 72, 640, 0, 340),
  (72, .iconst 1, 73, 0, 1, 0),
  (73, .aload_n 0, 74, 0, 0, 0),
  (74, .getfield 39, 77, 645, 0, 345),
  (77, .invokevirtual 184, 80, 64, 0, 558),
  (80, .ireturn, 81, 0, 0, 0),
  (81, .aload_n 0, 82, 0, 0, 0),
  (82, .getfield 10, 85, 640, 0, 340),
  (85, .bipush 10, 87, 0, 10, 0),
  (87, .iload_n 2, 88, 0, 0, 0),
  (88, .imul, 89, 0, 0, 0),
  (89, .aload_n 0, 90, 0, 0, 0),
  (90, .getfield 32, 93, 644, 0, 344),
  (93, .iload_n 1, 94, 0, 0, 0),
  (94, .iconst 2, 95, 0, 2, 0),
  (95, .iadd, 96, 0, 0, 0),
  (96, .invokevirtual 216, 99, 23, 0, 628),
  (99, .iadd, 100, 0, 0, 0),
  (100, .aload_n 0, 101, 0, 0, 0),
  (101, .getfield 39, 104, 645, 0, 345),
  (104, .invokevirtual 184, 107, 64, 0, 558),
  (107, .ireturn, 108, 0, 0, 0),
  (108, .aload_n 0, 109, 0, 0, 0),
  (109, .getfield 10, 112, 640, 0, 340),
  (112, .iload_n 2, 113, 0, 0, 0),
  (113, .invokevirtual 191, 116, 65, 0, 567),
  (116, .ireturn, 117, 0, 0, 0),
  (117, .aload_n 0, 118, 0, 0, 0),
  (118, .getfield 10, 121, 640, 0, 340),
  (121, .iload_n 2, 122, 0, 0, 0),
  (122, .invokevirtual 197, 125, 66, 0, 580),
  (125, .ireturn, 126, 0, 0, 0),
  (126, .aload_n 0, 127, 0, 0, 0),
  (127, .getfield 10, 130, 640, 0, 340),
  (130, .iload_n 2, 131, 0, 0, 0),
  (131, .invokevirtual 200, 134, 68, 0, 608),
  (134, .ireturn, 135, 0, 0, 0),
  (135, .iconst (-1), 136, 0, (-1), 0),
  (136, .ireturn, 137, 0, 0, 0)]
def kX10_undo : List mj_E := [
  (0, .aload_n 0, 1, 0, 0, 0),
  (1, .getfield 25, 4, 643, 0, 343),
  (4, .aload_n 0, 5, 0, 0, 0),
  (5, .getfield 10, 8, 640, 0, 340),
  (8, .invokevirtual 222, 11, 12, 0, 635),
  (11, .ireturn, 12, 0, 0, 0)]
def kX10_lag : List mj_E := [
  (0, .aload_n 0, 1, 0, 0, 0),
  (1, .getfield 10, 4, 640, 0, 340),
  (4, .iload_n 1, 5, 0, 0, 0),
  (5, .invokevirtual 129, 8, 49, 0, 498),
  (8, .ifCond .ne 5, 11, 13, 0, 0),
  (11, .iconst (-1), 12, 0, (-1), 0),
  (12, .ireturn, 13, 0, 0, 0),
  (13, .aload_n 0, 14, 0, 0, 0),
  (14, .getfield 49, 17, 647, 0, 347),
  (17, .invokevirtual 173, 20, 15, 0, 546),
  (20, .aload_n 0, 21, 0, 0, 0),
  (21, .getfield 49, 24, 647, 0, 347),
  (24, .aload_n 0, 25, 0, 0, 0),
  (25, .getfield 10, 28, 640, 0, 340),
  (28, .iload_n 1, 29, 0, 0, 0),
  (29, .invokevirtual 225, 32, 71, 0, 643),
  (32, .i2l, 33, 0, 0, 0),
  (33, .aload_n 0, 34, 0, 0, 0),
  (34, .getfield 10, 37, 640, 0, 340),
  (37, .getfield 138, 40, 577, 0, 93),
  (40, .iload_n 1, 41, 0, 0, 0),
  (41, .iaload, 42, 0, 0, 0),
  (42, .i2l, 43, 0, 0, 0),
  (43, .invokevirtual 228, 46, 17, 0, 647),
  (46, .iconst 0, 47, 0, 0, 0),
  (47, .ireturn, 48, 0, 0, 0)]
def kX10_use : List mj_E := [
  (0, .aload_n 0, 1, 0, 0, 0),
  (1, .getfield 10, 4, 640, 0, 340),
  (4, .invokevirtual 108, 7, 69, 0, 464),
  (7, .istore_n 1, 8, 0, 0, 0),
  (8, .aload_n 0, 9, 0, 0, 0),
  (9, .getfield 49, 12, 647, 0, 347),
  (12, .invokevirtual 173, 15, 15, 0, 546),
  (15, .aload_n 0, 16, 0, 0, 0),
  (16, .getfield 49, 19, 647, 0, 347),
  (19, .iload_n 1, 20, 0, 0, 0),
  (20, .i2l, 21, 0, 0, 0),
  (21, .ldc2_w 232, 24, 27720, 0, 662),
  (24, .invokevirtual 228, 27, 17, 0, 647),
  (27, .aload_n 0, 28, 0, 0, 0),
  (28, .getfield 49, 31, 647, 0, 347),
  (31, .aload_n 0, 32, 0, 0, 0),
  (32, .getfield 10, 35, 640, 0, 340),
  (35, .getfield 112, 38, 586, 0, 116),
  (38, .sipush 27720, 41, 0, 27720, 0),
  (41, .imul, 42, 0, 0, 0),
  (42, .iload_n 1, 43, 0, 0, 0),
  (43, .isub, 44, 0, 0, 0),
  (44, .i2l, 45, 0, 0, 0),
  (45, .ldc2_w 232, 48, 27720, 0, 662),
  (48, .invokevirtual 228, 51, 17, 0, 647),
  (51, .iconst 0, 52, 0, 0, 0),
  (52, .ireturn, 53, 0, 0, 0)]
def kX10_order : List mj_E := [
  (0, .aload_n 0, 1, 0, 0, 0),
  (1, .getfield 49, 4, 647, 0, 347),
  (4, .invokevirtual 173, 7, 15, 0, 546),
  (7, .aload_n 0, 8, 0, 0, 0),
  (8, .getfield 10, 11, 640, 0, 340),
  (11, .iconst (-1), 12, 0, (-1), 0),
  (12, .invokevirtual 234, 15, 61, 0, 667),
  (15, .istore_n 1, 16, 0, 0, 0),
  (16, .iload_n 1, 17, 0, 0, 0),
  (17, .invokestatic 237, 20, 236, 0, 668),
  (20, .istore_n 2, 21, 0, 0, 0),
  (21, .iconst 0, 22, 0, 0, 0),
  (22, .istore_n 3, 23, 0, 0, 0),
  (23, .iload_n 3, 24, 0, 0, 0),
  (24, .iload_n 2, 25, 0, 0, 0),
  (25, .if_icmp .ge 42, 28, 67, 0, 0),
  (28, .aload_n 0, 29, 0, 0, 0),
  (29, .getfield 10, 32, 640, 0, 340),
  (32, .iload_n 1, 33, 0, 0, 0),
  (33, .aload_n 0, 34, 0, 0, 0),
  (34, .getfield 39, 37, 645, 0, 345),
  (37, .invokevirtual 242, 40, 62, 0, 669),
  (40, .istore 4, 42, 0, 0, 0),
  (42, .aload_n 0, 43, 0, 0, 0),
  (43, .getfield 49, 46, 647, 0, 347),
  (46, .iload 4, 48, 0, 0, 0),
  (48, .i2l, 49, 0, 0, 0),
  (49, .invokevirtual 174, 52, 16, 0, 550),
  (52, .iload_n 1, 53, 0, 0, 0),
  (53, .iconst 1, 54, 0, 1, 0),
  (54, .iload 4, 56, 0, 0, 0),
  (56, .ishl, 57, 0, 0, 0),
  (57, .iconst (-1), 58, 0, (-1), 0),
  (58, .ixor, 59, 0, 0, 0),
  (59, .iand, 60, 0, 0, 0),
  (60, .istore_n 1, 61, 0, 0, 0),
  (61, .iinc 3 1, 64, 0, 1, 0),
  (64, .goto (-41), 67, 23, 0, 0),
  (67, .iload_n 2, 68, 0, 0, 0),
  (68, .ireturn, 69, 0, 0, 0)]
def kX10_behind : List mj_E := [
  (0, .iconst (-1), 1, 0, (-1), 0),
  (1, .istore_n 1, 2, 0, 0, 0),
  (2, .iconst 0, 3, 0, 0, 0),
  (3, .istore_n 2, 4, 0, 0, 0),
  (4, .iload_n 2, 5, 0, 0, 0),
  (5, .bipush 8, 7, 0, 8, 0),
  (7, .if_icmp .ge 39, 10, 46, 0, 0),
  (10, .aload_n 0, 11, 0, 0, 0),
  (11, .getfield 10, 14, 640, 0, 340),
  (14, .iload_n 2, 15, 0, 0, 0),
  (15, .invokevirtual 129, 18, 49, 0, 498),
  (18, .ifCond .eq 22, 21, 40, 0, 0),
  (21, .iload_n 1, 22, 0, 0, 0),
  (22, .iconst (-1), 23, 0, (-1), 0),
  (23, .if_icmp .eq 15, 26, 38, 0, 0),
  (26, .aload_n 0, 27, 0, 0, 0),
  (27, .getfield 10, 30, 640, 0, 340),
  (30, .iload_n 2, 31, 0, 0, 0),
  (31, .iload_n 1, 32, 0, 0, 0),
  (32, .invokevirtual 245, 35, 72, 0, 674),
  (35, .ifCond .le 5, 38, 40, 0, 0),
  (38, .iload_n 2, 39, 0, 0, 0),
  (39, .istore_n 1, 40, 0, 0, 0),
  (40, .iinc 2 1, 43, 0, 1, 0),
  (43, .goto (-39), 46, 4, 0, 0),
  (46, .iload_n 1, 47, 0, 0, 0),
  (47, .iconst (-1), 48, 0, (-1), 0),
  (48, .if_icmp .ne 6, 51, 54, 0, 0),
  (51, .bipush (-2), 53, 0, (-2), 0),
  (53, .ireturn, 54, 0, 0, 0),
  (54, .aload_n 0, 55, 0, 0, 0),
  (55, .getfield 49, 58, 647, 0, 347),
  (58, .invokevirtual 173, 61, 15, 0, 546),
  (61, .aload_n 0, 62, 0, 0, 0),
  (62, .getfield 49, 65, 647, 0, 347),
  (65, .aload_n 0, 66, 0, 0, 0),
  (66, .getfield 10, 69, 640, 0, 340),
  (69, .iload_n 1, 70, 0, 0, 0),
  (70, .invokevirtual 225, 73, 71, 0, 643),
  (73, .i2l, 74, 0, 0, 0),
  (74, .aload_n 0, 75, 0, 0, 0),
  (75, .getfield 10, 78, 640, 0, 340),
  (78, .getfield 138, 81, 577, 0, 93),
  (81, .iload_n 1, 82, 0, 0, 0),
  (82, .iaload, 83, 0, 0, 0),
  (83, .i2l, 84, 0, 0, 0),
  (84, .invokevirtual 228, 87, 17, 0, 647),
  (87, .iload_n 1, 88, 0, 0, 0),
  (88, .ireturn, 89, 0, 0, 0)]
def kX10_ahead : List mj_E := [
  (0, .aload_n 0, 1, 0, 0, 0),
  (1, .getfield 10, 4, 640, 0, 340),
  (4, .iload_n 1, 5, 0, 0, 0),
  (5, .invokevirtual 129, 8, 49, 0, 498),
  (8, .ifCond .ne 5, 11, 13, 0, 0),
  (11, .iconst (-1), 12, 0, (-1), 0),
  (12, .ireturn, 13, 0, 0, 0),
  (13, .aload_n 0, 14, 0, 0, 0),
  (14, .getfield 10, 17, 640, 0, 340),
  (17, .iload_n 1, 18, 0, 0, 0),
  (18, .invokevirtual 248, 21, 59, 0, 686),
  (21, .ifCond .ne 6, 24, 27, 0, 0),
  (24, .bipush (-2), 26, 0, (-2), 0),
  (26, .ireturn, 27, 0, 0, 0),
  (27, .aload_n 0, 28, 0, 0, 0),
  (28, .getfield 49, 31, 647, 0, 347),
  (31, .invokevirtual 173, 34, 15, 0, 546),
  (34, .aload_n 0, 35, 0, 0, 0),
  (35, .getfield 10, 38, 640, 0, 340),
  (38, .iconst (-1), 39, 0, (-1), 0),
  (39, .invokevirtual 234, 42, 61, 0, 667),
  (42, .istore_n 2, 43, 0, 0, 0),
  (43, .iconst 0, 44, 0, 0, 0),
  (44, .istore_n 3, 45, 0, 0, 0),
  (45, .iload_n 3, 46, 0, 0, 0),
  (46, .bipush 8, 48, 0, 8, 0),
  (48, .if_icmp .ge 56, 51, 104, 0, 0),
  (51, .aload_n 0, 52, 0, 0, 0),
  (52, .getfield 10, 55, 640, 0, 340),
  (55, .iload_n 2, 56, 0, 0, 0),
  (56, .aload_n 0, 57, 0, 0, 0),
  (57, .getfield 39, 60, 645, 0, 345),
  (60, .invokevirtual 242, 63, 62, 0, 669),
  (63, .istore 4, 65, 0, 0, 0),
  (65, .iload 4, 67, 0, 0, 0),
  (67, .iload_n 1, 68, 0, 0, 0),
  (68, .if_icmp .eq 9, 71, 77, 0, 0),
  (71, .iload 4, 73, 0, 0, 0),
  (73, .iconst (-1), 74, 0, (-1), 0),
  (74, .if_icmp .ne 5, 77, 79, 0, 0),
  (77, .iload_n 3, 78, 0, 0, 0),
  (78, .ireturn, 79, 0, 0, 0),
  (79, .aload_n 0, 80, 0, 0, 0),
  (80, .getfield 49, 83, 647, 0, 347),
  (83, .iload 4, 85, 0, 0, 0),
  (85, .i2l, 86, 0, 0, 0),
  (86, .invokevirtual 174, 89, 16, 0, 550),
  (89, .iload_n 2, 90, 0, 0, 0),
  (90, .iconst 1, 91, 0, 1, 0),
  (91, .iload 4, 93, 0, 0, 0),
  (93, .ishl, 94, 0, 0, 0),
  (94, .iconst (-1), 95, 0, (-1), 0),
  (95, .ixor, 96, 0, 0, 0),
  (96, .iand, 97, 0, 0, 0),
  (97, .istore_n 2, 98, 0, 0, 0),
  (98, .iinc 3 1, 101, 0, 1, 0),
  (101, .goto (-56), 104, 45, 0, 0),
  (104, .aload_n 0, 105, 0, 0, 0),
  (105, .getfield 49, 108, 647, 0, 347),
  (108, .getfield 251, 111, 257, 0, 237),
  (111, .ireturn, 112, 0, 0, 0)]
def kX10_runs : List mj_E := [
  (0, .iload_n 1, 1, 0, 0, 0),
  (1, .ifCond .lt 9, 4, 10, 0, 0),
  (4, .iload_n 1, 5, 0, 0, 0),
  (5, .bipush 99, 7, 0, 99, 0),
  (7, .if_icmp .le 5, 10, 12, 0, 0),
  (10, .iconst (-1), 11, 0, (-1), 0),
  (11, .ireturn, 12, 0, 0, 0),
  (12, .aload_n 0, 13, 0, 0, 0),
  (13, .getfield 19, 16, 642, 0, 342),
  (16, .aload_n 0, 17, 0, 0, 0),
  (17, .getfield 10, 20, 640, 0, 340),
  (20, .invokevirtual 97, 23, 48, 0, 403),
  (23, .iconst 0, 24, 0, 0, 0),
  (24, .istore_n 2, 25, 0, 0, 0),
  (25, .iload_n 2, 26, 0, 0, 0),
  (26, .iload_n 1, 27, 0, 0, 0),
  (27, .if_icmp .gt 21, 30, 48, 0, 0),
  (30, .aload_n 0, 31, 0, 0, 0),
  (31, .getfield 19, 34, 642, 0, 342),
  (34, .aload_n 0, 35, 0, 0, 0),
  (35, .getfield 39, 38, 645, 0, 345),
  (38, .iconst (-1), 39, 0, (-1), 0),
  (39, .invokevirtual 169, 42, 63, 0, 509),
  (42, .iinc 2 1, 45, 0, 1, 0),
  (45, .goto (-20), 48, 25, 0, 0),
  (48, .aload_n 0, 49, 0, 0, 0),
  (49, .getfield 49, 52, 647, 0, 347),
  (52, .invokevirtual 173, 55, 15, 0, 546),
  (55, .aload_n 0, 56, 0, 0, 0),
  (56, .getfield 49, 59, 647, 0, 347),
  (59, .aload_n 0, 60, 0, 0, 0),
  (60, .getfield 19, 63, 642, 0, 342),
  (63, .getfield 166, 66, 588, 0, 121),
  (66, .aload_n 0, 67, 0, 0, 0),
  (67, .getfield 10, 70, 640, 0, 340),
  (70, .getfield 166, 73, 588, 0, 121),
  (73, .isub, 74, 0, 0, 0),
  (74, .i2l, 75, 0, 0, 0),
  (75, .invokevirtual 174, 78, 16, 0, 550),
  (78, .aload_n 0, 79, 0, 0, 0),
  (79, .getfield 19, 82, 642, 0, 342),
  (82, .getfield 181, 85, 589, 0, 122),
  (85, .ireturn, 86, 0, 0, 0)]
def kX10_when : List mj_E := [
  (0, .aload_n 0, 1, 0, 0, 0),
  (1, .getfield 10, 4, 640, 0, 340),
  (4, .iload_n 1, 5, 0, 0, 0),
  (5, .invokevirtual 129, 8, 49, 0, 498),
  (8, .ifCond .eq 14, 11, 22, 0, 0),
  (11, .iload_n 2, 12, 0, 0, 0),
  (12, .iconst 1, 13, 0, 1, 0),
  (13, .if_icmp .lt 9, 16, 22, 0, 0),
  (16, .iload_n 2, 17, 0, 0, 0),
  (17, .bipush 60, 19, 0, 60, 0),
  (19, .if_icmp .le 5, 22, 24, 0, 0),
  (22, .iconst (-1), 23, 0, (-1), 0),
  (23, .ireturn, 24, 0, 0, 0),
  (24, .iload_n 2, 25, 0, 0, 0),
  (25, .aload_n 0, 26, 0, 0, 0),
  (26, .getfield 10, 29, 640, 0, 340),
  (29, .getfield 147, 32, 581, 0, 105),
  (32, .iload_n 1, 33, 0, 0, 0),
  (33, .iaload, 34, 0, 0, 0),
  (34, .if_icmp .gt 6, 37, 40, 0, 0),
  (37, .bipush (-3), 39, 0, (-3), 0),
  (39, .ireturn, 40, 0, 0, 0),
  (40, .aload_n 0, 41, 0, 0, 0),
  (41, .getfield 19, 44, 642, 0, 342),
  (44, .aload_n 0, 45, 0, 0, 0),
  (45, .getfield 10, 48, 640, 0, 340),
  (48, .invokevirtual 97, 51, 48, 0, 403),
  (51, .iconst 0, 52, 0, 0, 0),
  (52, .istore_n 3, 53, 0, 0, 0),
  (53, .iload_n 3, 54, 0, 0, 0),
  (54, .bipush 99, 56, 0, 99, 0),
  (56, .if_icmp .ge 73, 59, 129, 0, 0),
  (59, .aload_n 0, 60, 0, 0, 0),
  (60, .getfield 19, 63, 642, 0, 342),
  (63, .getfield 213, 66, 587, 0, 119),
  (66, .istore 4, 68, 0, 0, 0),
  (68, .aload_n 0, 69, 0, 0, 0),
  (69, .getfield 19, 72, 642, 0, 342),
  (72, .aload_n 0, 73, 0, 0, 0),
  (73, .getfield 39, 76, 645, 0, 345),
  (76, .iconst (-1), 77, 0, (-1), 0),
  (77, .invokevirtual 169, 80, 63, 0, 509),
  (80, .aload_n 0, 81, 0, 0, 0),
  (81, .getfield 19, 84, 642, 0, 342),
  (84, .getfield 147, 87, 581, 0, 105),
  (87, .iload_n 1, 88, 0, 0, 0),
  (88, .iaload, 89, 0, 0, 0),
  (89, .iload_n 2, 90, 0, 0, 0),
  (90, .if_icmp .lt 33, 93, 123, 0, 0),
  (93, .aload_n 0, 94, 0, 0, 0),
  (94, .getfield 49, 97, 647, 0, 347),
  (97, .invokevirtual 173, 100, 15, 0, 546),
  (100, .aload_n 0, 101, 0, 0, 0),
  (101, .getfield 49, 104, 647, 0, 347),
  (104, .aload_n 0, 105, 0, 0, 0),
  (105, .getfield 10, 108, 640, 0, 340),
  (108, .iload_n 1, 109, 0, 0, 0),
  (109, .iload_n 2, 110, 0, 0, 0),
  (110, .invokevirtual 154, 113, 56, 0, 695),
  (113, .iload 4, 115, 0, 0, 0),
  (115, .isub, 116, 0, 0, 0),
  (116, .i2l, 117, 0, 0, 0),
  (117, .invokevirtual 174, 120, 16, 0, 550),
  (120, .iload 4, 122, 0, 0, 0),
  (122, .ireturn, 123, 0, 0, 0),
  (123, .iinc 3 1, 126, 0, 1, 0),
  (126, .goto (-73), 129, 53, 0, 0),
  (129, .bipush (-2), 131, 0, (-2), 0),
  (131, .ireturn, 132, 0, 0, 0)]
def kX10_misses : List mj_E := [
  (0, .aload_n 0, 1, 0, 0, 0),
  (1, .getfield 19, 4, 642, 0, 342),
  (4, .aload_n 0, 5, 0, 0, 0),
  (5, .getfield 10, 8, 640, 0, 340),
  (8, .invokevirtual 97, 11, 48, 0, 403),
  (11, .iconst 0, 12, 0, 0, 0),
  (12, .istore_n 1, 13, 0, 0, 0),
  (13, .iload_n 1, 14, 0, 0, 0),
  (14, .bipush 99, 16, 0, 99, 0),
  (16, .if_icmp .ge 63, 19, 79, 0, 0),
  (19, .aload_n 0, 20, 0, 0, 0),
  (20, .getfield 19, 23, 642, 0, 342),
  (23, .getfield 213, 26, 587, 0, 119),
  (26, .istore_n 2, 27, 0, 0, 0),
  (27, .aload_n 0, 28, 0, 0, 0),
  (28, .getfield 19, 31, 642, 0, 342),
  (31, .aload_n 0, 32, 0, 0, 0),
  (32, .getfield 39, 35, 645, 0, 345),
  (35, .iconst (-1), 36, 0, (-1), 0),
  (36, .invokevirtual 169, 39, 63, 0, 509),
  (39, .aload_n 0, 40, 0, 0, 0),
  (40, .getfield 19, 43, 642, 0, 342),
  (43, .getfield 252, 46, 591, 0, 127),
  (46, .ifCond .eq 27, 49, 73, 0, 0),
  (49, .aload_n 0, 50, 0, 0, 0),
  (50, .getfield 49, 53, 647, 0, 347),
  (53, .invokevirtual 173, 56, 15, 0, 546),
  (56, .aload_n 0, 57, 0, 0, 0),
  (57, .getfield 49, 60, 647, 0, 347),
  (60, .aload_n 0, 61, 0, 0, 0),
  (61, .getfield 19, 64, 642, 0, 342),
  (64, .getfield 252, 67, 591, 0, 127),
  (67, .i2l, 68, 0, 0, 0),
  (68, .invokevirtual 174, 71, 16, 0, 550),
  (71, .iload_n 2, 72, 0, 0, 0),
  (72, .ireturn, 73, 0, 0, 0),
  (73, .iinc 1 1, 76, 0, 1, 0),
  (76, .goto (-63), 79, 13, 0, 0),
  (79, .bipush (-2), 81, 0, (-2), 0),
  (81, .ireturn, 82, 0, 0, 0)]
def kX10_round : List mj_E := [
  (0, .aload_n 0, 1, 0, 0, 0),
  (1, .getfield 10, 4, 640, 0, 340),
  (4, .invokevirtual 255, 7, 50, 0, 704),
  (7, .ifCond .ne 6, 10, 13, 0, 0),
  (10, .bipush (-3), 12, 0, (-3), 0),
  (12, .ireturn, 13, 0, 0, 0),
  (13, .aload_n 0, 14, 0, 0, 0),
  (14, .getfield 19, 17, 642, 0, 342),
  (17, .aload_n 0, 18, 0, 0, 0),
  (18, .getfield 10, 21, 640, 0, 340),
  (21, .invokevirtual 97, 24, 48, 0, 403),
  (24, .iconst 0, 25, 0, 0, 0),
  (25, .istore_n 1, 26, 0, 0, 0),
  (26, .iconst 1, 27, 0, 1, 0),
  (27, .istore_n 2, 28, 0, 0, 0),
  (28, .iload_n 2, 29, 0, 0, 0),
  (29, .bipush 99, 31, 0, 99, 0),
  (31, .if_icmp .gt 66, 34, 97, 0, 0),
  (34, .aload_n 0, 35, 0, 0, 0),
  (35, .getfield 19, 38, 642, 0, 342),
  (38, .aload_n 0, 39, 0, 0, 0),
  (39, .getfield 39, 42, 645, 0, 345),
  (42, .iconst (-1), 43, 0, (-1), 0),
  (43, .invokevirtual 169, 46, 63, 0, 509),
  (46, .iload_n 1, 47, 0, 0, 0),
  (47, .aload_n 0, 48, 0, 0, 0),
  (48, .getfield 19, 51, 642, 0, 342),
  (51, .getfield 181, 54, 589, 0, 122),
  (54, .invokestatic 237, 57, 236, 0, 668),
  (57, .iadd, 58, 0, 0, 0),
  (58, .istore_n 1, 59, 0, 0, 0),
  (59, .aload_n 0, 60, 0, 0, 0),
  (60, .getfield 19, 63, 642, 0, 342),
  (63, .aload_n 0, 64, 0, 0, 0),
  (64, .getfield 10, 67, 640, 0, 340),
  (67, .invokevirtual 258, 70, 73, 0, 705),
  (70, .ifCond .eq 21, 73, 91, 0, 0),
  (73, .aload_n 0, 74, 0, 0, 0),
  (74, .getfield 49, 77, 647, 0, 347),
  (77, .invokevirtual 173, 80, 15, 0, 546),
  (80, .aload_n 0, 81, 0, 0, 0),
  (81, .getfield 49, 84, 647, 0, 347),
  (84, .iload_n 1, 85, 0, 0, 0),
  (85, .i2l, 86, 0, 0, 0),
  (86, .invokevirtual 174, 89, 16, 0, 550),
  (89, .iload_n 2, 90, 0, 0, 0),
  (90, .ireturn, 91, 0, 0, 0),
  (91, .iinc 2 1, 94, 0, 1, 0),
  (94, .goto (-66), 97, 28, 0, 0),
  (97, .bipush (-2), 99, 0, (-2), 0),
  (99, .ireturn, 100, 0, 0, 0)]
def kX10_share : List mj_E := [
  (0, .aload_n 0, 1, 0, 0, 0),
  (1, .getfield 10, 4, 640, 0, 340),
  (4, .iload_n 1, 5, 0, 0, 0),
  (5, .invokevirtual 129, 8, 49, 0, 498),
  (8, .ifCond .eq 14, 11, 22, 0, 0),
  (11, .iload_n 2, 12, 0, 0, 0),
  (12, .iconst 1, 13, 0, 1, 0),
  (13, .if_icmp .lt 9, 16, 22, 0, 0),
  (16, .iload_n 2, 17, 0, 0, 0),
  (17, .bipush 60, 19, 0, 60, 0),
  (19, .if_icmp .le 5, 22, 24, 0, 0),
  (22, .iconst (-1), 23, 0, (-1), 0),
  (23, .ireturn, 24, 0, 0, 0),
  (24, .aload_n 0, 25, 0, 0, 0),
  (25, .getfield 19, 28, 642, 0, 342),
  (28, .aload_n 0, 29, 0, 0, 0),
  (29, .getfield 10, 32, 640, 0, 340),
  (32, .invokevirtual 97, 35, 48, 0, 403),
  (35, .iconst 0, 36, 0, 0, 0),
  (36, .istore_n 3, 37, 0, 0, 0),
  (37, .iconst 0, 38, 0, 0, 0),
  (38, .istore 4, 40, 0, 0, 0),
  (40, .iconst 0, 41, 0, 0, 0),
  (41, .istore 5, 43, 0, 0, 0),
  (43, .iconst 0, 44, 0, 0, 0),
  (44, .istore 6, 46, 0, 0, 0),
  (46, .iconst 0, 47, 0, 0, 0),
  (47, .istore 7, 49, 0, 0, 0),
  (49, .iconst 0, 50, 0, 0, 0),
  (50, .istore 8, 52, 0, 0, 0),
  (52, .iload 8, 54, 0, 0, 0),
  (54, .iload_n 2, 55, 0, 0, 0),
  (55, .if_icmp .ge 92, 58, 147, 0, 0),
  (58, .aload_n 0, 59, 0, 0, 0),
  (59, .getfield 19, 62, 642, 0, 342),
  (62, .aload_n 0, 63, 0, 0, 0),
  (63, .getfield 39, 66, 645, 0, 345),
  (66, .iconst (-1), 67, 0, (-1), 0),
  (67, .invokevirtual 169, 70, 63, 0, 509),
  (70, .aload_n 0, 71, 0, 0, 0),
  (71, .getfield 19, 74, 642, 0, 342),
  (74, .iload_n 1, 75, 0, 0, 0),
  (75, .invokevirtual 262, 78, 60, 0, 713),
  (78, .istore 9, 80, 0, 0, 0),
  (80, .iload 9, 82, 0, 0, 0),
  (82, .ifCond .eq 10, 85, 92, 0, 0),
  (85, .iload 4, 87, 0, 0, 0),
  (87, .iconst 1, 88, 0, 1, 0),
  (88, .iadd, 89, 0, 0, 0),
  (89, .goto 4, 92, 93, 0, 0),
  (92, .iconst 0, 93, 0, 0, 0),
  (93, .istore 4, 95, 0, 0, 0),
  (95, .iload 9, 97, 0, 0, 0),
  (97, .ifCond .eq 7, 100, 104, 0, 0),
  (100, .iconst 0, 101, 0, 0, 0),
  (101, .goto 7, 104, 108, 0, 0),
  (104, .iload 5, 106, 0, 0, 0),
  (106, .iconst 1, 107, 0, 1, 0),
  (107, .iadd, 108, 0, 0, 0),
  (108, .istore 5, 110, 0, 0, 0),
  (110, .iload_n 3, 111, 0, 0, 0),
  (111, .iload 9, 113, 0, 0, 0),
  (113, .ifCond .eq 7, 116, 120, 0, 0),
  (116, .iconst 1, 117, 0, 1, 0),
  (117, .goto 4, 120, 121, 0, 0),
  (120, .iconst 0, 121, 0, 0, 0),
  (121, .iadd, 122, 0, 0, 0),
  (122, .istore_n 3, 123, 0, 0, 0),
  (123, .iload 6, 125, 0, 0, 0),
  (125, .iload 4, 127, 0, 0, 0),
  (127, .invokestatic 265, 130, 239, 0, 714),
  (130, .istore 6, 132, 0, 0, 0),
  (132, .iload 7, 134, 0, 0, 0),
  (134, .iload 5, 136, 0, 0, 0),
  (136, .invokestatic 265, 139, 239, 0, 714),
  (139, .istore 7, 141, 0, 0, 0),
  (141, .iinc 8 1, 144, 0, 1, 0),
  (144, .goto (-92), 147, 52, 0, 0),
  (147, .aload_n 0, 148, 0, 0, 0),
  (148, .getfield 49, 151, 647, 0, 347),
  (151, .invokevirtual 173, 154, 15, 0, 546),
  (154, .aload_n 0, 155, 0, 0, 0),
  (155, .getfield 49, 158, 647, 0, 347),
  (158, .iload 6, 160, 0, 0, 0),
  (160, .i2l, 161, 0, 0, 0),
  (161, .invokevirtual 174, 164, 16, 0, 550),
  (164, .aload_n 0, 165, 0, 0, 0),
  (165, .getfield 49, 168, 647, 0, 347),
  (168, .iload 7, 170, 0, 0, 0),
  (170, .i2l, 171, 0, 0, 0),
  (171, .invokevirtual 174, 174, 16, 0, 550),
  (174, .iload_n 3, 175, 0, 0, 0),
  (175, .ireturn, 176, 0, 0, 0)]
def kX10_pairs : List mj_E := [
  (0, .iload_n 1, 1, 0, 0, 0),
  (1, .iconst 1, 2, 0, 1, 0),
  (2, .if_icmp .lt 9, 5, 11, 0, 0),
  (5, .iload_n 1, 6, 0, 0, 0),
  (6, .bipush 60, 8, 0, 60, 0),
  (8, .if_icmp .le 5, 11, 13, 0, 0),
  (11, .iconst (-1), 12, 0, (-1), 0),
  (12, .ireturn, 13, 0, 0, 0),
  (13, .aload_n 0, 14, 0, 0, 0),
  (14, .getfield 10, 17, 640, 0, 340),
  (17, .invokevirtual 255, 20, 50, 0, 704),
  (20, .invokestatic 237, 23, 236, 0, 668),
  (23, .iconst 2, 24, 0, 2, 0),
  (24, .if_icmp .ge 6, 27, 30, 0, 0),
  (27, .bipush (-2), 29, 0, (-2), 0),
  (29, .ireturn, 30, 0, 0, 0),
  (30, .aload_n 0, 31, 0, 0, 0),
  (31, .iload_n 1, 32, 0, 0, 0),
  (32, .invokevirtual 270, 35, 102, 0, 721),
  (35, .iconst (-1), 36, 0, (-1), 0),
  (36, .istore_n 2, 37, 0, 0, 0),
  (37, .iconst 0, 38, 0, 0, 0),
  (38, .istore_n 3, 39, 0, 0, 0),
  (39, .iload_n 3, 40, 0, 0, 0),
  (40, .bipush 8, 42, 0, 8, 0),
  (42, .if_icmp .ge 95, 45, 137, 0, 0),
  (45, .iload_n 3, 46, 0, 0, 0),
  (46, .iconst 1, 47, 0, 1, 0),
  (47, .iadd, 48, 0, 0, 0),
  (48, .istore 4, 50, 0, 0, 0),
  (50, .iload 4, 52, 0, 0, 0),
  (52, .bipush 8, 54, 0, 8, 0),
  (54, .if_icmp .ge 77, 57, 131, 0, 0),
  (57, .iload_n 3, 58, 0, 0, 0),
  (58, .bipush 8, 60, 0, 8, 0),
  (60, .imul, 61, 0, 0, 0),
  (61, .iload 4, 63, 0, 0, 0),
  (63, .iadd, 64, 0, 0, 0),
  (64, .istore 5, 66, 0, 0, 0),
  (66, .aload_n 0, 67, 0, 0, 0),
  (67, .getfield 10, 70, 640, 0, 340),
  (70, .iload_n 3, 71, 0, 0, 0),
  (71, .invokevirtual 129, 74, 49, 0, 498),
  (74, .ifCond .eq 19, 77, 93, 0, 0),
  (77, .aload_n 0, 78, 0, 0, 0),
  (78, .getfield 10, 81, 640, 0, 340),
  (81, .iload 4, 83, 0, 0, 0),
  (83, .invokevirtual 129, 86, 49, 0, 498),
  (86, .ifCond .eq 7, 89, 93, 0, 0),
  (89, .iconst 1, 90, 0, 1, 0),
  (90, .goto 4, 93, 94, 0, 0),
  (93, .iconst 0, 94, 0, 0, 0),
  (94, .istore 6, 96, 0, 0, 0),
  (96, .iload 6, 98, 0, 0, 0),
  (98, .ifCond .eq 27, 101, 125, 0, 0),
  (101, .iload_n 2, 102, 0, 0, 0),
  (102, .iconst (-1), 103, 0, (-1), 0),
  (103, .if_icmp .eq 19, 106, 122, 0, 0),
  (106, .aload_n 0, 107, 0, 0, 0),
  (107, .getfield 81, 110, 652, 0, 352),
  (110, .iload 5, 112, 0, 0, 0),
  (112, .iaload, 113, 0, 0, 0),
  (113, .aload_n 0, 114, 0, 0, 0),
  (114, .getfield 81, 117, 652, 0, 352),
  (117, .iload_n 2, 118, 0, 0, 0),
  (118, .iaload, 119, 0, 0, 0),
  (119, .if_icmp .le 6, 122, 125, 0, 0),
  (122, .iload 5, 124, 0, 0, 0),
  (124, .istore_n 2, 125, 0, 0, 0),
  (125, .iinc 4 1, 128, 0, 1, 0),
  (128, .goto (-78), 131, 50, 0, 0),
  (131, .iinc 3 1, 134, 0, 1, 0),
  (134, .goto (-95), 137, 39, 0, 0),
  (137, .iload_n 2, 138, 0, 0, 0),
  (138, .iconst (-1), 139, 0, (-1), 0),
  (139, .if_icmp .ne 6, 142, 145, 0, 0),
  (142, .bipush (-2), 144, 0, (-2), 0),
  (144, .ireturn, 145, 0, 0, 0),
  (145, .aload_n 0, 146, 0, 0, 0),
  (146, .getfield 49, 149, 647, 0, 347),
  (149, .invokevirtual 173, 152, 15, 0, 546),
  (152, .aload_n 0, 153, 0, 0, 0),
  (153, .getfield 49, 156, 647, 0, 347),
  (156, .iload_n 2, 157, 0, 0, 0),
  (157, .bipush 8, 159, 0, 8, 0),
  (159, .idiv, 160, 0, 0, 0),
  (160, .i2l, 161, 0, 0, 0),
  (161, .invokevirtual 174, 164, 16, 0, 550),
  (164, .aload_n 0, 165, 0, 0, 0),
  (165, .getfield 49, 168, 647, 0, 347),
  (168, .iload_n 2, 169, 0, 0, 0),
  (169, .bipush 8, 171, 0, 8, 0),
  (171, .irem, 172, 0, 0, 0),
  (172, .i2l, 173, 0, 0, 0),
  (173, .invokevirtual 174, 176, 16, 0, 550),
  (176, .aload_n 0, 177, 0, 0, 0),
  (177, .getfield 81, 180, 652, 0, 352),
  (180, .iload_n 2, 181, 0, 0, 0),
  (181, .iaload, 182, 0, 0, 0),
  (182, .ireturn, 183, 0, 0, 0)]
def kX10_countPairs : List mj_E := [
  (0, .aload_n 0, 1, 0, 0, 0),
  (1, .getfield 81, 4, 652, 0, 352),
  (4, .iconst 0, 5, 0, 0, 0),
  (5, .invokestatic 274, 8, 242, 0, 725),
  (8, .aload_n 0, 9, 0, 0, 0),
  (9, .getfield 19, 12, 642, 0, 342),
  (12, .aload_n 0, 13, 0, 0, 0),
  (13, .getfield 10, 16, 640, 0, 340),
  (16, .invokevirtual 97, 19, 48, 0, 403),
  (19, .iconst 0, 20, 0, 0, 0),
  (20, .istore_n 2, 21, 0, 0, 0),
  (21, .iload_n 2, 22, 0, 0, 0),
  (22, .iload_n 1, 23, 0, 0, 0),
  (23, .if_icmp .ge 92, 26, 115, 0, 0),
  (26, .aload_n 0, 27, 0, 0, 0),
  (27, .getfield 19, 30, 642, 0, 342),
  (30, .aload_n 0, 31, 0, 0, 0),
  (31, .getfield 39, 34, 645, 0, 345),
  (34, .iconst (-1), 35, 0, (-1), 0),
  (35, .invokevirtual 169, 38, 63, 0, 509),
  (38, .iconst 0, 39, 0, 0, 0),
  (39, .istore_n 3, 40, 0, 0, 0),
  (40, .iload_n 3, 41, 0, 0, 0),
  (41, .bipush 8, 43, 0, 8, 0),
  (43, .if_icmp .ge 66, 46, 109, 0, 0),
  (46, .iload_n 3, 47, 0, 0, 0),
  (47, .iconst 1, 48, 0, 1, 0),
  (48, .iadd, 49, 0, 0, 0),
  (49, .istore 4, 51, 0, 0, 0),
  (51, .iload 4, 53, 0, 0, 0),
  (53, .bipush 8, 55, 0, 8, 0),
  (55, .if_icmp .ge 48, 58, 103, 0, 0),
  (58, .aload_n 0, 59, 0, 0, 0),
  (59, .getfield 19, 62, 642, 0, 342),
  (62, .iload_n 3, 63, 0, 0, 0),
  (63, .invokevirtual 262, 66, 60, 0, 713),
  (66, .ifCond .eq 31, 69, 97, 0, 0),
  (69, .aload_n 0, 70, 0, 0, 0),
  (70, .getfield 19, 73, 642, 0, 342),
  (73, .iload 4, 75, 0, 0, 0),
  (75, .invokevirtual 262, 78, 60, 0, 713),
  (78, .ifCond .eq 19, 81, 97, 0, 0),
  (81, .aload_n 0, 82, 0, 0, 0),
  (82, .getfield 81, 85, 652, 0, 352),
  (85, .iload_n 3, 86, 0, 0, 0),
  (86, .bipush 8, 88, 0, 8, 0),
  (88, .imul, 89, 0, 0, 0),
  (89, .iload 4, 91, 0, 0, 0),
  (91, .iadd, 92, 0, 0, 0),
  (92, .dup2, 93, 0, 0, 0),
  (93, .iaload, 94, 0, 0, 0),
  (94, .iconst 1, 95, 0, 1, 0),
  (95, .iadd, 96, 0, 0, 0),
  (96, .iastore, 97, 0, 0, 0),
  (97, .iinc 4 1, 100, 0, 1, 0),
  (100, .goto (-49), 103, 51, 0, 0),
  (103, .iinc 3 1, 106, 0, 1, 0),
  (106, .goto (-66), 109, 40, 0, 0),
  (109, .iinc 2 1, 112, 0, 1, 0),
  (112, .goto (-91), 115, 21, 0, 0),
  (115, .return_, 116, 0, 0, 0)]
def kX10_lags : List mj_E := [
  (0, .iload_n 1, 1, 0, 0, 0),
  (1, .iconst 1, 2, 0, 1, 0),
  (2, .if_icmp .lt 9, 5, 11, 0, 0),
  (5, .iload_n 1, 6, 0, 0, 0),
  (6, .bipush 60, 8, 0, 60, 0),
  (8, .if_icmp .le 5, 11, 13, 0, 0),
  (11, .iconst (-1), 12, 0, (-1), 0),
  (12, .ireturn, 13, 0, 0, 0),
  (13, .aload_n 0, 14, 0, 0, 0),
  (14, .getfield 10, 17, 640, 0, 340),
  (17, .invokevirtual 255, 20, 50, 0, 704),
  (20, .ifCond .ne 6, 23, 26, 0, 0),
  (23, .bipush (-2), 25, 0, (-2), 0),
  (25, .ireturn, 26, 0, 0, 0),
  (26, .aload_n 0, 27, 0, 0, 0),
  (27, .getfield 70, 30, 650, 0, 350),
  (30, .invokevirtual 280, 33, 0, 0, 732),
  (33, .aload_n 0, 34, 0, 0, 0),
  (34, .getfield 19, 37, 642, 0, 342),
  (37, .aload_n 0, 38, 0, 0, 0),
  (38, .getfield 10, 41, 640, 0, 340),
  (41, .invokevirtual 97, 44, 48, 0, 403),
  (44, .iconst 1, 45, 0, 1, 0),
  (45, .istore_n 2, 46, 0, 0, 0),
  (46, .iload_n 2, 47, 0, 0, 0),
  (47, .iload_n 1, 48, 0, 0, 0),
  (48, .if_icmp .gt 74, 51, 122, 0, 0),
  (51, .aload_n 0, 52, 0, 0, 0),
  (52, .getfield 19, 55, 642, 0, 342),
  (55, .aload_n 0, 56, 0, 0, 0),
  (56, .getfield 39, 59, 645, 0, 345),
  (59, .iconst (-1), 60, 0, (-1), 0),
  (60, .invokevirtual 169, 63, 63, 0, 509),
  (63, .iconst 0, 64, 0, 0, 0),
  (64, .istore_n 3, 65, 0, 0, 0),
  (65, .iload_n 3, 66, 0, 0, 0),
  (66, .bipush 8, 68, 0, 8, 0),
  (68, .if_icmp .ge 48, 71, 116, 0, 0),
  (71, .aload_n 0, 72, 0, 0, 0),
  (72, .getfield 19, 75, 642, 0, 342),
  (75, .iload_n 3, 76, 0, 0, 0),
  (76, .invokevirtual 129, 79, 49, 0, 498),
  (79, .ifCond .eq 31, 82, 110, 0, 0),
  (82, .aload_n 0, 83, 0, 0, 0),
  (83, .getfield 70, 86, 650, 0, 350),
  (86, .iload_n 3, 87, 0, 0, 0),
  (87, .iload_n 2, 88, 0, 0, 0),
  (88, .aload_n 0, 89, 0, 0, 0),
  (89, .getfield 19, 92, 642, 0, 342),
  (92, .iload_n 3, 93, 0, 0, 0),
  (93, .invokevirtual 225, 96, 71, 0, 643),
  (96, .i2l, 97, 0, 0, 0),
  (97, .aload_n 0, 98, 0, 0, 0),
  (98, .getfield 19, 101, 642, 0, 342),
  (101, .getfield 138, 104, 577, 0, 93),
  (104, .iload_n 3, 105, 0, 0, 0),
  (105, .iaload, 106, 0, 0, 0),
  (106, .i2l, 107, 0, 0, 0),
  (107, .invokevirtual 281, 110, 1, 0, 736),
  (110, .iinc 3 1, 113, 0, 1, 0),
  (113, .goto (-48), 116, 65, 0, 0),
  (116, .iinc 2 1, 119, 0, 1, 0),
  (119, .goto (-73), 122, 46, 0, 0),
  (122, .aload_n 0, 123, 0, 0, 0),
  (123, .getfield 49, 126, 647, 0, 347),
  (126, .invokevirtual 173, 129, 15, 0, 546),
  (129, .aload_n 0, 130, 0, 0, 0),
  (130, .getfield 49, 133, 647, 0, 347),
  (133, .aload_n 0, 134, 0, 0, 0),
  (134, .getfield 70, 137, 650, 0, 350),
  (137, .getfield 285, 140, 1, 0, 290),
  (140, .i2l, 141, 0, 0, 0),
  (141, .invokevirtual 174, 144, 16, 0, 550),
  (144, .aload_n 0, 145, 0, 0, 0),
  (145, .getfield 49, 148, 647, 0, 347),
  (148, .aload_n 0, 149, 0, 0, 0),
  (149, .getfield 70, 152, 650, 0, 350),
  (152, .getfield 288, 155, 2, 0, 292),
  (155, .aload_n 0, 156, 0, 0, 0),
  (156, .getfield 70, 159, 650, 0, 350),
  (159, .getfield 292, 162, 3, 0, 294),
  (162, .invokevirtual 228, 165, 17, 0, 647),
  (165, .aload_n 0, 166, 0, 0, 0),
  (166, .getfield 49, 169, 647, 0, 347),
  (169, .aload_n 0, 170, 0, 0, 0),
  (170, .getfield 70, 173, 650, 0, 350),
  (173, .getfield 295, 176, 4, 0, 296),
  (176, .aload_n 0, 177, 0, 0, 0),
  (177, .getfield 70, 180, 650, 0, 350),
  (180, .getfield 298, 183, 5, 0, 298),
  (183, .invokevirtual 228, 186, 17, 0, 647),
  (186, .aload_n 0, 187, 0, 0, 0),
  (187, .getfield 70, 190, 650, 0, 350),
  (190, .getfield 301, 193, 0, 0, 288),
  (193, .ireturn, 194, 0, 0, 0)]
def kX10_flow : List mj_E := [
  (0, .iload_n 1, 1, 0, 0, 0),
  (1, .iconst 1, 2, 0, 1, 0),
  (2, .if_icmp .lt 9, 5, 11, 0, 0),
  (5, .iload_n 1, 6, 0, 0, 0),
  (6, .bipush 8, 8, 0, 8, 0),
  (8, .if_icmp .le 5, 11, 13, 0, 0),
  (11, .iconst (-1), 12, 0, (-1), 0),
  (12, .ireturn, 13, 0, 0, 0),
  (13, .aload_n 0, 14, 0, 0, 0),
  (14, .getfield 77, 17, 651, 0, 351),
  (17, .aload_n 0, 18, 0, 0, 0),
  (18, .getfield 10, 21, 640, 0, 340),
  (21, .iload_n 1, 22, 0, 0, 0),
  (22, .invokevirtual 304, 25, 34, 0, 744),
  (25, .istore_n 2, 26, 0, 0, 0),
  (26, .aload_n 0, 27, 0, 0, 0),
  (27, .getfield 49, 30, 647, 0, 347),
  (30, .invokevirtual 173, 33, 15, 0, 546),
  (33, .aload_n 0, 34, 0, 0, 0),
  (34, .getfield 49, 37, 647, 0, 347),
  (37, .iload_n 2, 38, 0, 0, 0),
  (38, .i2l, 39, 0, 0, 0),
  (39, .invokevirtual 174, 42, 16, 0, 550),
  (42, .aload_n 0, 43, 0, 0, 0),
  (43, .getfield 77, 46, 651, 0, 351),
  (46, .aload_n 0, 47, 0, 0, 0),
  (47, .getfield 10, 50, 640, 0, 340),
  (50, .getfield 112, 53, 586, 0, 116),
  (53, .invokevirtual 308, 56, 36, 0, 760),
  (56, .ireturn, 57, 0, 0, 0)]
def kX10_waits : List mj_E := [
  (0, .aload_n 0, 1, 0, 0, 0),
  (1, .getfield 10, 4, 640, 0, 340),
  (4, .iload_n 1, 5, 0, 0, 0),
  (5, .invokevirtual 129, 8, 49, 0, 498),
  (8, .ifCond .ne 5, 11, 13, 0, 0),
  (11, .iconst (-1), 12, 0, (-1), 0),
  (12, .ireturn, 13, 0, 0, 0),
  (13, .bipush (-2), 15, 0, (-2), 0),
  (15, .istore_n 2, 16, 0, 0, 0),
  (16, .iconst 0, 17, 0, 0, 0),
  (17, .istore_n 3, 18, 0, 0, 0),
  (18, .iload_n 3, 19, 0, 0, 0),
  (19, .bipush 12, 21, 0, 12, 0),
  (21, .if_icmp .gt 22, 24, 43, 0, 0),
  (24, .aload_n 0, 25, 0, 0, 0),
  (25, .iload_n 1, 26, 0, 0, 0),
  (26, .iload_n 3, 27, 0, 0, 0),
  (27, .invokevirtual 311, 30, 106, 0, 792),
  (30, .ifCond .eq 5, 33, 35, 0, 0),
  (33, .iload_n 2, 34, 0, 0, 0),
  (34, .ireturn, 35, 0, 0, 0),
  (35, .iload_n 3, 36, 0, 0, 0),
  (36, .istore_n 2, 37, 0, 0, 0),
  (37, .iinc 3 1, 40, 0, 1, 0),
  (40, .goto (-22), 43, 18, 0, 0),
  (43, .iload_n 2, 44, 0, 0, 0),
  (44, .ireturn, 45, 0, 0, 0)]
def kX10_missesWhenKept : List mj_E := [
  (0, .aload_n 0, 1, 0, 0, 0),
  (1, .getfield 19, 4, 642, 0, 342),
  (4, .aload_n 0, 5, 0, 0, 0),
  (5, .getfield 10, 8, 640, 0, 340),
  (8, .invokevirtual 97, 11, 48, 0, 403),
  (11, .iconst 0, 12, 0, 0, 0),
  (12, .istore_n 3, 13, 0, 0, 0),
  (13, .iload_n 3, 14, 0, 0, 0),
  (14, .bipush 60, 16, 0, 60, 0),
  (16, .if_icmp .ge 42, 19, 58, 0, 0),
  (19, .aload_n 0, 20, 0, 0, 0),
  (20, .getfield 19, 23, 642, 0, 342),
  (23, .aload_n 0, 24, 0, 0, 0),
  (24, .getfield 39, 27, 645, 0, 345),
  (27, .iload_n 3, 28, 0, 0, 0),
  (28, .iload_n 2, 29, 0, 0, 0),
  (29, .if_icmp .ge 7, 32, 36, 0, 0),
  (32, .iload_n 1, 33, 0, 0, 0),
  (33, .goto 4, 36, 37, 0, 0),
  (36, .iconst (-1), 37, 0, (-1), 0),
  (37, .invokevirtual 169, 40, 63, 0, 509),
  (40, .aload_n 0, 41, 0, 0, 0),
  (41, .getfield 19, 44, 642, 0, 342),
  (44, .getfield 252, 47, 591, 0, 127),
  (47, .ifCond .eq 5, 50, 52, 0, 0),
  (50, .iconst 1, 51, 0, 1, 0),
  (51, .ireturn, 52, 0, 0, 0),
  (52, .iinc 3 1, 55, 0, 1, 0),
  (55, .goto (-42), 58, 13, 0, 0),
  (58, .iconst 0, 59, 0, 0, 0),
  (59, .ireturn, 60, 0, 0, 0)]
def kX10_room : List mj_E := [
  (0, .aload_n 0, 1, 0, 0, 0),
  (1, .getfield 10, 4, 640, 0, 340),
  (4, .getfield 112, 7, 586, 0, 116),
  (7, .sipush 27720, 10, 0, 27720, 0),
  (10, .imul, 11, 0, 0, 0),
  (11, .aload_n 0, 12, 0, 0, 0),
  (12, .getfield 10, 15, 640, 0, 340),
  (15, .invokevirtual 108, 18, 69, 0, 464),
  (18, .isub, 19, 0, 0, 0),
  (19, .istore_n 1, 20, 0, 0, 0),
  (20, .iconst 0, 21, 0, 0, 0),
  (21, .istore_n 2, 22, 0, 0, 0),
  (22, .iconst 0, 23, 0, 0, 0),
  (23, .istore_n 3, 24, 0, 0, 0),
  (24, .iconst 0, 25, 0, 0, 0),
  (25, .istore 4, 27, 0, 0, 0),
  (27, .iconst 1, 28, 0, 1, 0),
  (28, .istore 5, 30, 0, 0, 0),
  (30, .iload 5, 32, 0, 0, 0),
  (32, .bipush 12, 34, 0, 12, 0),
  (34, .if_icmp .gt 58, 37, 92, 0, 0),
  (37, .iconst 1, 38, 0, 1, 0),
  (38, .istore 6, 40, 0, 0, 0),
  (40, .iload 6, 42, 0, 0, 0),
  (42, .iload 5, 44, 0, 0, 0),
  (44, .if_icmp .gt 42, 47, 86, 0, 0),
  (47, .iload 6, 49, 0, 0, 0),
  (49, .sipush 27720, 52, 0, 27720, 0),
  (52, .iload 5, 54, 0, 0, 0),
  (54, .idiv, 55, 0, 0, 0),
  (55, .imul, 56, 0, 0, 0),
  (56, .istore 7, 58, 0, 0, 0),
  (58, .iload 7, 60, 0, 0, 0),
  (60, .iload_n 1, 61, 0, 0, 0),
  (61, .if_icmp .gt 19, 64, 80, 0, 0),
  (64, .iload 7, 66, 0, 0, 0),
  (66, .iload_n 2, 67, 0, 0, 0),
  (67, .if_icmp .le 13, 70, 80, 0, 0),
  (70, .iload 7, 72, 0, 0, 0),
  (72, .istore_n 2, 73, 0, 0, 0),
  (73, .iload 6, 75, 0, 0, 0),
  (75, .istore_n 3, 76, 0, 0, 0),
  (76, .iload 5, 78, 0, 0, 0),
  (78, .istore 4, 80, 0, 0, 0),
  (80, .iinc 6 1, 83, 0, 1, 0),
  (83, .goto (-43), 86, 40, 0, 0),
  (86, .iinc 5 1, 89, 0, 1, 0),
  (89, .goto (-59), 92, 30, 0, 0),
  (92, .iload_n 2, 93, 0, 0, 0),
  (93, .ifCond .eq 14, 96, 107, 0, 0),
  (96, .aload_n 0, 97, 0, 0, 0),
  (97, .getfield 10, 100, 640, 0, 340),
  (100, .invokevirtual 315, 103, 51, 0, 800),
  (103, .iconst (-1), 104, 0, (-1), 0),
  (104, .if_icmp .ne 6, 107, 110, 0, 0),
  (107, .bipush (-2), 109, 0, (-2), 0),
  (109, .ireturn, 110, 0, 0, 0),
  (110, .aload_n 0, 111, 0, 0, 0),
  (111, .getfield 49, 114, 647, 0, 347),
  (114, .invokevirtual 173, 117, 15, 0, 546),
  (117, .aload_n 0, 118, 0, 0, 0),
  (118, .getfield 49, 121, 647, 0, 347),
  (121, .iload_n 3, 122, 0, 0, 0),
  (122, .i2l, 123, 0, 0, 0),
  (123, .invokevirtual 174, 126, 16, 0, 550),
  (126, .aload_n 0, 127, 0, 0, 0),
  (127, .getfield 49, 130, 647, 0, 347),
  (130, .iload 4, 132, 0, 0, 0),
  (132, .i2l, 133, 0, 0, 0),
  (133, .invokevirtual 174, 136, 16, 0, 550),
  (136, .iconst 0, 137, 0, 0, 0),
  (137, .ireturn, 138, 0, 0, 0)]
def kX10_fewest : List mj_E := [
  (0, .aload_n 0, 1, 0, 0, 0),
  (1, .getfield 10, 4, 640, 0, 340),
  (4, .invokevirtual 108, 7, 69, 0, 464),
  (7, .sipush 27720, 10, 0, 27720, 0),
  (10, .iadd, 11, 0, 0, 0),
  (11, .iconst 1, 12, 0, 1, 0),
  (12, .isub, 13, 0, 0, 0),
  (13, .sipush 27720, 16, 0, 27720, 0),
  (16, .idiv, 17, 0, 0, 0),
  (17, .istore_n 1, 18, 0, 0, 0),
  (18, .iload_n 1, 19, 0, 0, 0),
  (19, .iconst 1, 20, 0, 1, 0),
  (20, .isub, 21, 0, 0, 0),
  (21, .sipush 27720, 24, 0, 27720, 0),
  (24, .imul, 25, 0, 0, 0),
  (25, .istore_n 2, 26, 0, 0, 0),
  (26, .aload_n 0, 27, 0, 0, 0),
  (27, .getfield 10, 30, 640, 0, 340),
  (30, .invokevirtual 255, 33, 50, 0, 704),
  (33, .istore_n 3, 34, 0, 0, 0),
  (34, .iconst 0, 35, 0, 0, 0),
  (35, .istore 4, 37, 0, 0, 0),
  (37, .iconst 0, 38, 0, 0, 0),
  (38, .istore 5, 40, 0, 0, 0),
  (40, .iconst 0, 41, 0, 0, 0),
  (41, .istore 6, 43, 0, 0, 0),
  (43, .iload 6, 45, 0, 0, 0),
  (45, .bipush 8, 47, 0, 8, 0),
  (47, .if_icmp .ge 62, 50, 109, 0, 0),
  (50, .iload_n 3, 51, 0, 0, 0),
  (51, .ifCond .eq 58, 54, 109, 0, 0),
  (54, .iload 4, 56, 0, 0, 0),
  (56, .iload_n 2, 57, 0, 0, 0),
  (57, .if_icmp .gt 52, 60, 109, 0, 0),
  (60, .aload_n 0, 61, 0, 0, 0),
  (61, .getfield 10, 64, 640, 0, 340),
  (64, .iload_n 3, 65, 0, 0, 0),
  (65, .invokevirtual 318, 68, 70, 0, 805),
  (68, .istore 7, 70, 0, 0, 0),
  (70, .iload 7, 72, 0, 0, 0),
  (72, .iconst (-1), 73, 0, (-1), 0),
  (73, .if_icmp .eq 30, 76, 103, 0, 0),
  (76, .iload 4, 78, 0, 0, 0),
  (78, .aload_n 0, 79, 0, 0, 0),
  (79, .getfield 10, 82, 640, 0, 340),
  (82, .getfield 321, 85, 578, 0, 96),
  (85, .iload 7, 87, 0, 0, 0),
  (87, .iaload, 88, 0, 0, 0),
  (88, .iadd, 89, 0, 0, 0),
  (89, .istore 4, 91, 0, 0, 0),
  (91, .iload_n 3, 92, 0, 0, 0),
  (92, .iconst 1, 93, 0, 1, 0),
  (93, .iload 7, 95, 0, 0, 0),
  (95, .ishl, 96, 0, 0, 0),
  (96, .iconst (-1), 97, 0, (-1), 0),
  (97, .ixor, 98, 0, 0, 0),
  (98, .iand, 99, 0, 0, 0),
  (99, .istore_n 3, 100, 0, 0, 0),
  (100, .iinc 5 1, 103, 0, 1, 0),
  (103, .iinc 6 1, 106, 0, 1, 0),
  (106, .goto (-63), 109, 43, 0, 0),
  (109, .aload_n 0, 110, 0, 0, 0),
  (110, .getfield 49, 113, 647, 0, 347),
  (113, .invokevirtual 173, 116, 15, 0, 546),
  (116, .aload_n 0, 117, 0, 0, 0),
  (117, .getfield 49, 120, 647, 0, 347),
  (120, .iload 5, 122, 0, 0, 0),
  (122, .i2l, 123, 0, 0, 0),
  (123, .invokevirtual 174, 126, 16, 0, 550),
  (126, .iload_n 1, 127, 0, 0, 0),
  (127, .ireturn, 128, 0, 0, 0)]
def kX10_heard : List mj_E := [
  (0, .aload_n 0, 1, 0, 0, 0),
  (1, .getfield 56, 4, 648, 0, 348),
  (4, .iload_n 1, 5, 0, 0, 0),
  (5, .iload_n 2, 6, 0, 0, 0),
  (6, .invokevirtual 324, 9, 2, 0, 813),
  (9, .ireturn, 10, 0, 0, 0)]
def kX10_forget : List mj_E := [
  (0, .aload_n 0, 1, 0, 0, 0),
  (1, .getfield 56, 4, 648, 0, 348),
  (4, .invokevirtual 326, 7, 3, 0, 825),
  (7, .ireturn, 8, 0, 0, 0)]
def kX10_fits : List mj_E := [
  (0, .aload_n 0, 1, 0, 0, 0),
  (1, .getfield 56, 4, 648, 0, 348),
  (4, .aload_n 0, 5, 0, 0, 0),
  (5, .getfield 10, 8, 640, 0, 340),
  (8, .invokevirtual 328, 11, 4, 0, 833),
  (11, .istore_n 1, 12, 0, 0, 0),
  (12, .aload_n 0, 13, 0, 0, 0),
  (13, .getfield 49, 16, 647, 0, 347),
  (16, .invokevirtual 173, 19, 15, 0, 546),
  (19, .aload_n 0, 20, 0, 0, 0),
  (20, .getfield 49, 23, 647, 0, 347),
  (23, .iload_n 1, 24, 0, 0, 0),
  (24, .invokestatic 237, 27, 236, 0, 668),
  (27, .i2l, 28, 0, 0, 0),
  (28, .invokevirtual 174, 31, 16, 0, 550),
  (31, .iload_n 1, 32, 0, 0, 0),
  (32, .ireturn, 33, 0, 0, 0)]
def kX10_asks : List mj_E := [
  (0, .aload_n 0, 1, 0, 0, 0),
  (1, .getfield 56, 4, 648, 0, 348),
  (4, .aload_n 0, 5, 0, 0, 0),
  (5, .getfield 10, 8, 640, 0, 340),
  (8, .invokevirtual 328, 11, 4, 0, 833),
  (11, .istore_n 1, 12, 0, 0, 0),
  (12, .iload_n 1, 13, 0, 0, 0),
  (13, .ifCond .ne 6, 16, 19, 0, 0),
  (16, .bipush (-2), 18, 0, (-2), 0),
  (18, .ireturn, 19, 0, 0, 0),
  (19, .iload_n 1, 20, 0, 0, 0),
  (20, .invokestatic 237, 23, 236, 0, 668),
  (23, .istore_n 2, 24, 0, 0, 0),
  (24, .iconst (-1), 25, 0, (-1), 0),
  (25, .istore_n 3, 26, 0, 0, 0),
  (26, .iload_n 2, 27, 0, 0, 0),
  (27, .iconst 1, 28, 0, 1, 0),
  (28, .iadd, 29, 0, 0, 0),
  (29, .istore 4, 31, 0, 0, 0),
  (31, .iconst 0, 32, 0, 0, 0),
  (32, .istore 5, 34, 0, 0, 0),
  (34, .iload 5, 36, 0, 0, 0),
  (36, .iconst 5, 37, 0, 5, 0),
  (37, .if_icmp .ge 82, 40, 119, 0, 0),
  (40, .getstatic 331, 43, 5247, 0, 849),
  (43, .iload 5, 45, 0, 0, 0),
  (45, .iaload, 46, 0, 0, 0),
  (46, .istore 6, 48, 0, 0, 0),
  (48, .iload 6, 50, 0, 0, 0),
  (50, .getstatic 334, 53, 5248, 0, 850),
  (53, .iload 5, 55, 0, 0, 0),
  (55, .iaload, 56, 0, 0, 0),
  (56, .if_icmp .gt 57, 59, 113, 0, 0),
  (59, .aload_n 0, 60, 0, 0, 0),
  (60, .getfield 10, 63, 640, 0, 340),
  (63, .iload_n 1, 64, 0, 0, 0),
  (64, .iload 5, 66, 0, 0, 0),
  (66, .iload 6, 68, 0, 0, 0),
  (68, .invokestatic 337, 71, 5, 0, 851),
  (71, .invokestatic 237, 74, 236, 0, 668),
  (74, .istore 7, 76, 0, 0, 0),
  (76, .iload 7, 78, 0, 0, 0),
  (78, .iload_n 2, 79, 0, 0, 0),
  (79, .iload 7, 81, 0, 0, 0),
  (81, .isub, 82, 0, 0, 0),
  (82, .invokestatic 265, 85, 239, 0, 714),
  (85, .istore 8, 87, 0, 0, 0),
  (87, .iload 8, 89, 0, 0, 0),
  (89, .iload 4, 91, 0, 0, 0),
  (91, .if_icmp .ge 16, 94, 107, 0, 0),
  (94, .iload 8, 96, 0, 0, 0),
  (96, .istore 4, 98, 0, 0, 0),
  (98, .bipush 100, 100, 0, 100, 0),
  (100, .iload 5, 102, 0, 0, 0),
  (102, .imul, 103, 0, 0, 0),
  (103, .iload 6, 105, 0, 0, 0),
  (105, .iadd, 106, 0, 0, 0),
  (106, .istore_n 3, 107, 0, 0, 0),
  (107, .iinc 6 1, 110, 0, 1, 0),
  (110, .goto (-62), 113, 48, 0, 0),
  (113, .iinc 5 1, 116, 0, 1, 0),
  (116, .goto (-82), 119, 34, 0, 0),
  (119, .aload_n 0, 120, 0, 0, 0),
  (120, .getfield 49, 123, 647, 0, 347),
  (123, .invokevirtual 173, 126, 15, 0, 546),
  (126, .aload_n 0, 127, 0, 0, 0),
  (127, .getfield 49, 130, 647, 0, 347),
  (130, .iload 4, 132, 0, 0, 0),
  (132, .i2l, 133, 0, 0, 0),
  (133, .invokevirtual 174, 136, 16, 0, 550),
  (136, .iload_n 3, 137, 0, 0, 0),
  (137, .ireturn, 138, 0, 0, 0)]
def kX10_saw : List mj_E := [
  (0, .aload_n 0, 1, 0, 0, 0),
  (1, .getfield 63, 4, 649, 0, 349),
  (4, .iload_n 1, 5, 0, 0, 0),
  (5, .iload_n 2, 6, 0, 0, 0),
  (6, .invokevirtual 341, 9, 30, 0, 856),
  (9, .ireturn, 10, 0, 0, 0)]
def kX10_denies : List mj_E := [
  (0, .aload_n 0, 1, 0, 0, 0),
  (1, .getfield 63, 4, 649, 0, 349),
  (4, .invokevirtual 342, 7, 31, 0, 864),
  (7, .ireturn, 8, 0, 0, 0)]
def kX10_weights : List mj_E := [
  (0, .aload_n 0, 1, 0, 0, 0),
  (1, .getfield 49, 4, 647, 0, 347),
  (4, .invokevirtual 173, 7, 15, 0, 546),
  (7, .iconst 0, 8, 0, 0, 0),
  (8, .istore_n 1, 9, 0, 0, 0),
  (9, .iconst 1, 10, 0, 1, 0),
  (10, .istore_n 2, 11, 0, 0, 0),
  (11, .iload_n 2, 12, 0, 0, 0),
  (12, .bipush 12, 14, 0, 12, 0),
  (14, .if_icmp .gt 59, 17, 73, 0, 0),
  (17, .iconst 1, 18, 0, 1, 0),
  (18, .istore_n 3, 19, 0, 0, 0),
  (19, .iload_n 3, 20, 0, 0, 0),
  (20, .iload_n 2, 21, 0, 0, 0),
  (21, .if_icmp .gt 46, 24, 67, 0, 0),
  (24, .aload_n 0, 25, 0, 0, 0),
  (25, .getfield 63, 28, 649, 0, 349),
  (28, .iload_n 3, 29, 0, 0, 0),
  (29, .iload_n 2, 30, 0, 0, 0),
  (30, .invokevirtual 343, 33, 32, 0, 872),
  (33, .ifCond .eq 28, 36, 61, 0, 0),
  (36, .iload_n 1, 37, 0, 0, 0),
  (37, .ifCond .ne 21, 40, 58, 0, 0),
  (40, .aload_n 0, 41, 0, 0, 0),
  (41, .getfield 49, 44, 647, 0, 347),
  (44, .iload_n 2, 45, 0, 0, 0),
  (45, .i2l, 46, 0, 0, 0),
  (46, .invokevirtual 174, 49, 16, 0, 550),
  (49, .aload_n 0, 50, 0, 0, 0),
  (50, .getfield 49, 53, 647, 0, 347),
  (53, .iload_n 3, 54, 0, 0, 0),
  (54, .i2l, 55, 0, 0, 0),
  (55, .invokevirtual 174, 58, 16, 0, 550),
  (58, .iinc 1 1, 61, 0, 1, 0),
  (61, .iinc 3 1, 64, 0, 1, 0),
  (64, .goto (-45), 67, 19, 0, 0),
  (67, .iinc 2 1, 70, 0, 1, 0),
  (70, .goto (-59), 73, 11, 0, 0),
  (73, .iload_n 1, 74, 0, 0, 0),
  (74, .ireturn, 75, 0, 0, 0)]
def kX10_looks : List mj_E := [
  (0, .iconst (-1), 1, 0, (-1), 0),
  (1, .istore_n 1, 2, 0, 0, 0),
  (2, .iconst 0, 3, 0, 0, 0),
  (3, .istore_n 2, 4, 0, 0, 0),
  (4, .iconst 1, 5, 0, 1, 0),
  (5, .istore_n 3, 6, 0, 0, 0),
  (6, .iload_n 3, 7, 0, 0, 0),
  (7, .bipush 12, 9, 0, 12, 0),
  (9, .if_icmp .gt 35, 12, 44, 0, 0),
  (12, .aload_n 0, 13, 0, 0, 0),
  (13, .getfield 63, 16, 649, 0, 349),
  (16, .iload_n 3, 17, 0, 0, 0),
  (17, .invokevirtual 346, 20, 33, 0, 881),
  (20, .istore 4, 22, 0, 0, 0),
  (22, .iload_n 1, 23, 0, 0, 0),
  (23, .iconst (-1), 24, 0, (-1), 0),
  (24, .if_icmp .eq 9, 27, 33, 0, 0),
  (27, .iload 4, 29, 0, 0, 0),
  (29, .iload_n 2, 30, 0, 0, 0),
  (30, .if_icmp .ge 8, 33, 38, 0, 0),
  (33, .iload_n 3, 34, 0, 0, 0),
  (34, .istore_n 1, 35, 0, 0, 0),
  (35, .iload 4, 37, 0, 0, 0),
  (37, .istore_n 2, 38, 0, 0, 0),
  (38, .iinc 3 1, 41, 0, 1, 0),
  (41, .goto (-35), 44, 6, 0, 0),
  (44, .iload_n 2, 45, 0, 0, 0),
  (45, .ifCond .ne 6, 48, 51, 0, 0),
  (48, .bipush (-2), 50, 0, (-2), 0),
  (50, .ireturn, 51, 0, 0, 0),
  (51, .aload_n 0, 52, 0, 0, 0),
  (52, .getfield 49, 55, 647, 0, 347),
  (55, .invokevirtual 173, 58, 15, 0, 546),
  (58, .aload_n 0, 59, 0, 0, 0),
  (59, .getfield 49, 62, 647, 0, 347),
  (62, .iload_n 2, 63, 0, 0, 0),
  (63, .i2l, 64, 0, 0, 0),
  (64, .invokevirtual 174, 67, 16, 0, 550),
  (67, .iload_n 1, 68, 0, 0, 0),
  (68, .ireturn, 69, 0, 0, 0)]
def kX10_odds : List mj_E := [
  (0, .iload_n 1, 1, 0, 0, 0),
  (1, .ifCond .lt 29, 4, 30, 0, 0),
  (4, .iload_n 1, 5, 0, 0, 0),
  (5, .bipush 8, 7, 0, 8, 0),
  (7, .if_icmp .gt 23, 10, 30, 0, 0),
  (10, .iload_n 2, 11, 0, 0, 0),
  (11, .ifCond .lt 19, 14, 30, 0, 0),
  (14, .iload_n 2, 15, 0, 0, 0),
  (15, .bipush 8, 17, 0, 8, 0),
  (17, .if_icmp .gt 13, 20, 30, 0, 0),
  (20, .iload_n 3, 21, 0, 0, 0),
  (21, .ifCond .lt 9, 24, 30, 0, 0),
  (24, .iload_n 3, 25, 0, 0, 0),
  (25, .bipush 10, 27, 0, 10, 0),
  (27, .if_icmp .le 5, 30, 32, 0, 0),
  (30, .iconst (-1), 31, 0, (-1), 0),
  (31, .ireturn, 32, 0, 0, 0),
  (32, .aload_n 0, 33, 0, 0, 0),
  (33, .getfield 85, 36, 653, 0, 353),
  (36, .lconst 0, 37, 0, 0, 0),
  (37, .invokestatic 349, 40, 241, 0, 892),
  (40, .aload_n 0, 41, 0, 0, 0),
  (41, .getfield 85, 44, 653, 0, 353),
  (44, .iconst 0, 45, 0, 0, 0),
  (45, .lconst 1, 46, 0, 0, 0),
  (46, .lastore, 47, 0, 0, 0),
  (47, .lconst 1, 48, 0, 0, 0),
  (48, .lstore 4, 50, 0, 0, 0),
  (50, .iconst 0, 51, 0, 0, 0),
  (51, .istore 6, 53, 0, 0, 0),
  (53, .iload 6, 55, 0, 0, 0),
  (55, .iload_n 1, 56, 0, 0, 0),
  (56, .if_icmp .ge 76, 59, 132, 0, 0),
  (59, .bipush 8, 61, 0, 8, 0),
  (61, .istore 7, 63, 0, 0, 0),
  (63, .iload 7, 65, 0, 0, 0),
  (65, .ifCond .le 42, 68, 107, 0, 0),
  (68, .aload_n 0, 69, 0, 0, 0),
  (69, .getfield 85, 72, 653, 0, 353),
  (72, .iload 7, 74, 0, 0, 0),
  (74, .aload_n 0, 75, 0, 0, 0),
  (75, .getfield 85, 78, 653, 0, 353),
  (78, .iload 7, 80, 0, 0, 0),
  (80, .laload, 81, 0, 0, 0),
  (81, .iload_n 3, 82, 0, 0, 0),
  (82, .i2l, 83, 0, 0, 0),
  (83, .lmul, 84, 0, 0, 0),
  (84, .aload_n 0, 85, 0, 0, 0),
  (85, .getfield 85, 88, 653, 0, 353),
  (88, .iload 7, 90, 0, 0, 0),
  (90, .iconst 1, 91, 0, 1, 0),
  (91, .isub, 92, 0, 0, 0),
  (92, .laload, 93, 0, 0, 0),
  (93, .bipush 10, 95, 0, 10, 0),
  (95, .iload_n 3, 96, 0, 0, 0),
  (96, .isub, 97, 0, 0, 0),
  (97, .i2l, 98, 0, 0, 0),
  (98, .lmul, 99, 0, 0, 0),
  (99, .ladd, 100, 0, 0, 0),
  (100, .lastore, 101, 0, 0, 0),
  (101, .iinc 7 (-1), 104, 0, (-1), 0),
  (104, .goto (-41), 107, 63, 0, 0),
  (107, .aload_n 0, 108, 0, 0, 0),
  (108, .getfield 85, 111, 653, 0, 353),
  (111, .iconst 0, 112, 0, 0, 0),
  (112, .dup2, 113, 0, 0, 0),
  (113, .laload, 114, 0, 0, 0),
  (114, .iload_n 3, 115, 0, 0, 0),
  (115, .i2l, 116, 0, 0, 0),
  (116, .lmul, 117, 0, 0, 0),
  (117, .lastore, 118, 0, 0, 0),
  (118, .lload 4, 120, 0, 0, 0),
  (120, .ldc2_w 352, 123, 10, 0, 895),
  (123, .lmul, 124, 0, 0, 0),
  (124, .lstore 4, 126, 0, 0, 0),
  (126, .iinc 6 1, 129, 0, 1, 0),
  (129, .goto (-76), 132, 53, 0, 0),
  (132, .lconst 0, 133, 0, 0, 0),
  (133, .lstore 6, 135, 0, 0, 0),
  (135, .iload_n 2, 136, 0, 0, 0),
  (136, .istore 8, 138, 0, 0, 0),
  (138, .iload 8, 140, 0, 0, 0),
  (140, .bipush 8, 142, 0, 8, 0),
  (142, .if_icmp .gt 21, 145, 163, 0, 0),
  (145, .lload 6, 147, 0, 0, 0),
  (147, .aload_n 0, 148, 0, 0, 0),
  (148, .getfield 85, 151, 653, 0, 353),
  (151, .iload 8, 153, 0, 0, 0),
  (153, .laload, 154, 0, 0, 0),
  (154, .ladd, 155, 0, 0, 0),
  (155, .lstore 6, 157, 0, 0, 0),
  (157, .iinc 8 1, 160, 0, 1, 0),
  (160, .goto (-22), 163, 138, 0, 0),
  (163, .aload_n 0, 164, 0, 0, 0),
  (164, .getfield 49, 167, 647, 0, 347),
  (167, .invokevirtual 173, 170, 15, 0, 546),
  (170, .aload_n 0, 171, 0, 0, 0),
  (171, .getfield 49, 174, 647, 0, 347),
  (174, .lload 6, 176, 0, 0, 0),
  (176, .lload 4, 178, 0, 0, 0),
  (178, .invokevirtual 228, 181, 17, 0, 647),
  (181, .iconst 0, 182, 0, 0, 0),
  (182, .ireturn, 183, 0, 0, 0)]
def kX10_divisors : List mj_E := [
  (0, .iload_n 1, 1, 0, 0, 0),
  (1, .ifCond .lt 10, 4, 11, 0, 0),
  (4, .iload_n 1, 5, 0, 0, 0),
  (5, .sipush 200, 8, 0, 200, 0),
  (8, .if_icmp .le 5, 11, 13, 0, 0),
  (11, .iconst (-1), 12, 0, (-1), 0),
  (12, .ireturn, 13, 0, 0, 0),
  (13, .aload_n 0, 14, 0, 0, 0),
  (14, .getfield 49, 17, 647, 0, 347),
  (17, .invokevirtual 173, 20, 15, 0, 546),
  (20, .iload_n 1, 21, 0, 0, 0),
  (21, .ifCond .eq 9, 24, 30, 0, 0),
  (24, .iload_n 1, 25, 0, 0, 0),
  (25, .iconst 2, 26, 0, 2, 0),
  (26, .irem, 27, 0, 0, 0),
  (27, .ifCond .eq 5, 30, 32, 0, 0),
  (30, .iconst 0, 31, 0, 0, 0),
  (31, .ireturn, 32, 0, 0, 0),
  (32, .aload_n 0, 33, 0, 0, 0),
  (33, .getfield 49, 36, 647, 0, 347),
  (36, .lconst 1, 37, 0, 0, 0),
  (37, .invokevirtual 174, 40, 16, 0, 550),
  (40, .iconst 1, 41, 0, 1, 0),
  (41, .ireturn, 42, 0, 0, 0)]
def kX10_rests : List mj_E := [
  (0, .iload_n 1, 1, 0, 0, 0),
  (1, .ifCond .lt 9, 4, 10, 0, 0),
  (4, .iload_n 1, 5, 0, 0, 0),
  (5, .bipush 18, 7, 0, 18, 0),
  (7, .if_icmp .le 5, 10, 12, 0, 0),
  (10, .iconst (-1), 11, 0, (-1), 0),
  (11, .ireturn, 12, 0, 0, 0),
  (12, .aload_n 0, 13, 0, 0, 0),
  (13, .getfield 49, 16, 647, 0, 347),
  (16, .invokevirtual 173, 19, 15, 0, 546),
  (19, .iconst 0, 20, 0, 0, 0),
  (20, .istore_n 2, 21, 0, 0, 0),
  (21, .iconst 0, 22, 0, 0, 0),
  (22, .istore_n 3, 23, 0, 0, 0),
  (23, .iload_n 3, 24, 0, 0, 0),
  (24, .bipush 10, 26, 0, 10, 0),
  (26, .if_icmp .ge 71, 29, 97, 0, 0),
  (29, .iconst 0, 30, 0, 0, 0),
  (30, .istore 4, 32, 0, 0, 0),
  (32, .iload 4, 34, 0, 0, 0),
  (34, .bipush 10, 36, 0, 10, 0),
  (36, .if_icmp .ge 55, 39, 91, 0, 0),
  (39, .iload_n 1, 40, 0, 0, 0),
  (40, .iload_n 3, 41, 0, 0, 0),
  (41, .iload 4, 43, 0, 0, 0),
  (43, .invokestatic 354, 46, 120, 0, 904),
  (46, .ifCond .eq 39, 49, 85, 0, 0),
  (49, .iload_n 1, 50, 0, 0, 0),
  (50, .iload 4, 52, 0, 0, 0),
  (52, .iload_n 3, 53, 0, 0, 0),
  (53, .invokestatic 354, 56, 120, 0, 904),
  (56, .ifCond .eq 29, 59, 85, 0, 0),
  (59, .iload_n 2, 60, 0, 0, 0),
  (60, .ifCond .ne 22, 63, 82, 0, 0),
  (63, .aload_n 0, 64, 0, 0, 0),
  (64, .getfield 49, 67, 647, 0, 347),
  (67, .iload_n 3, 68, 0, 0, 0),
  (68, .i2l, 69, 0, 0, 0),
  (69, .invokevirtual 174, 72, 16, 0, 550),
  (72, .aload_n 0, 73, 0, 0, 0),
  (73, .getfield 49, 76, 647, 0, 347),
  (76, .iload 4, 78, 0, 0, 0),
  (78, .i2l, 79, 0, 0, 0),
  (79, .invokevirtual 174, 82, 16, 0, 550),
  (82, .iinc 2 1, 85, 0, 1, 0),
  (85, .iinc 4 1, 88, 0, 1, 0),
  (88, .goto (-56), 91, 32, 0, 0),
  (91, .iinc 3 1, 94, 0, 1, 0),
  (94, .goto (-71), 97, 23, 0, 0),
  (97, .iload_n 2, 98, 0, 0, 0),
  (98, .ireturn, 99, 0, 0, 0)]
def kX10_isBest : List mj_E := [
  (0, .iload_n 0, 1, 0, 0, 0),
  (1, .iload_n 1, 2, 0, 0, 0),
  (2, .iload_n 2, 3, 0, 0, 0),
  (3, .invokestatic 358, 6, 121, 0, 907),
  (6, .istore_n 3, 7, 0, 0, 0),
  (7, .iconst 0, 8, 0, 0, 0),
  (8, .istore 4, 10, 0, 0, 0),
  (10, .iload 4, 12, 0, 0, 0),
  (12, .bipush 10, 14, 0, 10, 0),
  (14, .if_icmp .ge 22, 17, 36, 0, 0),
  (17, .iload_n 0, 18, 0, 0, 0),
  (18, .iload 4, 20, 0, 0, 0),
  (20, .iload_n 2, 21, 0, 0, 0),
  (21, .invokestatic 358, 24, 121, 0, 907),
  (24, .iload_n 3, 25, 0, 0, 0),
  (25, .if_icmp .le 5, 28, 30, 0, 0),
  (28, .iconst 0, 29, 0, 0, 0),
  (29, .ireturn, 30, 0, 0, 0),
  (30, .iinc 4 1, 33, 0, 1, 0),
  (33, .goto (-23), 36, 10, 0, 0),
  (36, .iconst 1, 37, 0, 1, 0),
  (37, .ireturn, 38, 0, 0, 0)]
def kX10_gain : List mj_E := [
  (0, .iload_n 1, 1, 0, 0, 0),
  (1, .iload_n 2, 2, 0, 0, 0),
  (2, .iadd, 3, 0, 0, 0),
  (3, .istore_n 3, 4, 0, 0, 0),
  (4, .iload_n 3, 5, 0, 0, 0),
  (5, .iload_n 0, 6, 0, 0, 0),
  (6, .if_icmp .le 7, 9, 13, 0, 0),
  (9, .iload_n 3, 10, 0, 0, 0),
  (10, .ifCond .gt 7, 13, 17, 0, 0),
  (13, .iconst 3, 14, 0, 3, 0),
  (14, .iload_n 1, 15, 0, 0, 0),
  (15, .imul, 16, 0, 0, 0),
  (16, .ireturn, 17, 0, 0, 0),
  (17, .iconst 3, 18, 0, 3, 0),
  (18, .iload_n 0, 19, 0, 0, 0),
  (19, .imul, 20, 0, 0, 0),
  (20, .iload_n 1, 21, 0, 0, 0),
  (21, .imul, 22, 0, 0, 0),
  (22, .iload_n 3, 23, 0, 0, 0),
  (23, .idiv, 24, 0, 0, 0),
  (24, .iload_n 2, 25, 0, 0, 0),
  (25, .isub, 26, 0, 0, 0),
  (26, .ireturn, 27, 0, 0, 0)]
def kX10_law : List mj_E := [
  (0, .aload_n 0, 1, 0, 0, 0),
  (1, .getfield 32, 4, 644, 0, 344),
  (4, .aload_n 0, 5, 0, 0, 0),
  (5, .getfield 43, 8, 646, 0, 346),
  (8, .invokevirtual 119, 11, 24, 0, 477),
  (11, .istore_n 1, 12, 0, 0, 0),
  (12, .aload_n 0, 13, 0, 0, 0),
  (13, .getfield 32, 16, 644, 0, 344),
  (16, .invokevirtual 105, 19, 21, 0, 460),
  (19, .iload_n 1, 20, 0, 0, 0),
  (20, .iconst (-1), 21, 0, (-1), 0),
  (21, .if_icmp .eq 9, 24, 30, 0, 0),
  (24, .sipush (-10000), 27, 0, (-10000), 0),
  (27, .iload_n 1, 28, 0, 0, 0),
  (28, .isub, 29, 0, 0, 0),
  (29, .ireturn, 30, 0, 0, 0),
  (30, .aload_n 0, 31, 0, 0, 0),
  (31, .aload_n 0, 32, 0, 0, 0),
  (32, .getfield 43, 35, 646, 0, 346),
  (35, .invokevirtual 362, 38, 123, 0, 914),
  (38, .istore_n 2, 39, 0, 0, 0),
  (39, .aload_n 0, 40, 0, 0, 0),
  (40, .getfield 19, 43, 642, 0, 342),
  (43, .getfield 166, 46, 588, 0, 121),
  (46, .aload_n 0, 47, 0, 0, 0),
  (47, .getfield 10, 50, 640, 0, 340),
  (50, .getfield 166, 53, 588, 0, 121),
  (53, .isub, 54, 0, 0, 0),
  (54, .istore_n 3, 55, 0, 0, 0),
  (55, .aload_n 0, 56, 0, 0, 0),
  (56, .aload_n 0, 57, 0, 0, 0),
  (57, .getfield 39, 60, 645, 0, 345),
  (60, .invokevirtual 362, 63, 123, 0, 914),
  (63, .istore 4, 65, 0, 0, 0),
  (65, .aload_n 0, 66, 0, 0, 0),
  (66, .getfield 19, 69, 642, 0, 342),
  (69, .getfield 166, 72, 588, 0, 121),
  (72, .aload_n 0, 73, 0, 0, 0),
  (73, .getfield 10, 76, 640, 0, 340),
  (76, .getfield 166, 79, 588, 0, 121),
  (79, .isub, 80, 0, 0, 0),
  (80, .istore 5, 82, 0, 0, 0),
  (82, .aload_n 0, 83, 0, 0, 0),
  (83, .getfield 49, 86, 647, 0, 347),
  (86, .invokevirtual 173, 89, 15, 0, 546),
  (89, .aload_n 0, 90, 0, 0, 0),
  (90, .getfield 49, 93, 647, 0, 347),
  (93, .iload_n 3, 94, 0, 0, 0),
  (94, .i2l, 95, 0, 0, 0),
  (95, .invokevirtual 174, 98, 16, 0, 550),
  (98, .aload_n 0, 99, 0, 0, 0),
  (99, .getfield 49, 102, 647, 0, 347),
  (102, .iload 5, 104, 0, 0, 0),
  (104, .i2l, 105, 0, 0, 0),
  (105, .invokevirtual 174, 108, 16, 0, 550),
  (108, .aload_n 0, 109, 0, 0, 0),
  (109, .getfield 49, 112, 647, 0, 347),
  (112, .iload_n 2, 113, 0, 0, 0),
  (113, .i2l, 114, 0, 0, 0),
  (114, .invokevirtual 174, 117, 16, 0, 550),
  (117, .aload_n 0, 118, 0, 0, 0),
  (118, .getfield 49, 121, 647, 0, 347),
  (121, .iload 4, 123, 0, 0, 0),
  (123, .i2l, 124, 0, 0, 0),
  (124, .invokevirtual 174, 127, 16, 0, 550),
  (127, .iload_n 3, 128, 0, 0, 0),
  (128, .iload 5, 130, 0, 0, 0),
  (130, .isub, 131, 0, 0, 0),
  (131, .ireturn, 132, 0, 0, 0)]
def kX10_firstMissBy : List mj_E := [
  (0, .iconst (-1), 1, 0, (-1), 0),
  (1, .istore_n 2, 2, 0, 0, 0),
  (2, .aload_n 0, 3, 0, 0, 0),
  (3, .getfield 19, 6, 642, 0, 342),
  (6, .aload_n 0, 7, 0, 0, 0),
  (7, .getfield 10, 10, 640, 0, 340),
  (10, .invokevirtual 97, 13, 48, 0, 403),
  (13, .iconst 0, 14, 0, 0, 0),
  (14, .istore_n 3, 15, 0, 0, 0),
  (15, .iload_n 3, 16, 0, 0, 0),
  (16, .bipush 60, 18, 0, 60, 0),
  (18, .if_icmp .ge 45, 21, 63, 0, 0),
  (21, .aload_n 0, 22, 0, 0, 0),
  (22, .getfield 19, 25, 642, 0, 342),
  (25, .getfield 213, 28, 587, 0, 119),
  (28, .istore 4, 30, 0, 0, 0),
  (30, .aload_n 0, 31, 0, 0, 0),
  (31, .getfield 19, 34, 642, 0, 342),
  (34, .aload_n 1, 35, 0, 0, 0),
  (35, .iconst (-1), 36, 0, (-1), 0),
  (36, .invokevirtual 169, 39, 63, 0, 509),
  (39, .iload_n 2, 40, 0, 0, 0),
  (40, .iconst (-1), 41, 0, (-1), 0),
  (41, .if_icmp .ne 16, 44, 57, 0, 0),
  (44, .aload_n 0, 45, 0, 0, 0),
  (45, .getfield 19, 48, 642, 0, 342),
  (48, .getfield 252, 51, 591, 0, 127),
  (51, .ifCond .eq 6, 54, 57, 0, 0),
  (54, .iload 4, 56, 0, 0, 0),
  (56, .istore_n 2, 57, 0, 0, 0),
  (57, .iinc 3 1, 60, 0, 1, 0),
  (60, .goto (-45), 63, 15, 0, 0),
  (63, .iload_n 2, 64, 0, 0, 0),
  (64, .ireturn, 65, 0, 0, 0)]
def kX10_years : List mj_E := [
  (0, .iload_n 2, 1, 0, 0, 0),
  (1, .iconst 1, 2, 0, 1, 0),
  (2, .if_icmp .lt 9, 5, 11, 0, 0),
  (5, .iload_n 2, 6, 0, 0, 0),
  (6, .bipush 60, 8, 0, 60, 0),
  (8, .if_icmp .le 5, 11, 13, 0, 0),
  (11, .iconst (-1), 12, 0, (-1), 0),
  (12, .ireturn, 13, 0, 0, 0),
  (13, .aload_n 0, 14, 0, 0, 0),
  (14, .getfield 19, 17, 642, 0, 342),
  (17, .aload_n 0, 18, 0, 0, 0),
  (18, .getfield 10, 21, 640, 0, 340),
  (21, .invokevirtual 97, 24, 48, 0, 403),
  (24, .iload_n 1, 25, 0, 0, 0),
  (25, .istore_n 3, 26, 0, 0, 0),
  (26, .iconst 0, 27, 0, 0, 0),
  (27, .istore 4, 29, 0, 0, 0),
  (29, .iload 4, 31, 0, 0, 0),
  (31, .iload_n 2, 32, 0, 0, 0),
  (32, .if_icmp .ge 85, 35, 117, 0, 0),
  (35, .iload_n 3, 36, 0, 0, 0),
  (36, .invokestatic 365, 39, 125, 0, 922),
  (39, .istore_n 3, 40, 0, 0, 0),
  (40, .iload_n 3, 41, 0, 0, 0),
  (41, .bipush 6, 43, 0, 6, 0),
  (43, .invokestatic 368, 46, 126, 0, 926),
  (46, .istore 5, 48, 0, 0, 0),
  (48, .iload 5, 50, 0, 0, 0),
  (50, .iconst 4, 51, 0, 4, 0),
  (51, .if_icmp .ge 18, 54, 69, 0, 0),
  (54, .aload_n 0, 55, 0, 0, 0),
  (55, .getfield 19, 58, 642, 0, 342),
  (58, .aload_n 0, 59, 0, 0, 0),
  (59, .getfield 39, 62, 645, 0, 345),
  (62, .iconst (-1), 63, 0, (-1), 0),
  (63, .invokevirtual 169, 66, 63, 0, 509),
  (66, .goto 45, 69, 111, 0, 0),
  (69, .iload_n 3, 70, 0, 0, 0),
  (70, .invokestatic 365, 73, 125, 0, 922),
  (73, .istore_n 3, 74, 0, 0, 0),
  (74, .iload_n 3, 75, 0, 0, 0),
  (75, .bipush 8, 77, 0, 8, 0),
  (77, .invokestatic 368, 80, 126, 0, 926),
  (80, .istore 6, 82, 0, 0, 0),
  (82, .iload 5, 84, 0, 0, 0),
  (84, .iconst 4, 85, 0, 4, 0),
  (85, .if_icmp .ne 16, 88, 101, 0, 0),
  (88, .aload_n 0, 89, 0, 0, 0),
  (89, .getfield 19, 92, 642, 0, 342),
  (92, .iload 6, 94, 0, 0, 0),
  (94, .invokevirtual 200, 97, 68, 0, 608),
  (97, .pop, 98, 0, 0, 0),
  (98, .goto 13, 101, 111, 0, 0),
  (101, .aload_n 0, 102, 0, 0, 0),
  (102, .getfield 19, 105, 642, 0, 342),
  (105, .iload 6, 107, 0, 0, 0),
  (107, .invokevirtual 197, 110, 66, 0, 580),
  (110, .pop, 111, 0, 0, 0),
  (111, .iinc 4 1, 114, 0, 1, 0),
  (114, .goto (-85), 117, 29, 0, 0),
  (117, .aload_n 0, 118, 0, 0, 0),
  (118, .getfield 49, 121, 647, 0, 347),
  (121, .invokevirtual 173, 124, 15, 0, 546),
  (124, .aload_n 0, 125, 0, 0, 0),
  (125, .getfield 49, 128, 647, 0, 347),
  (128, .aload_n 0, 129, 0, 0, 0),
  (129, .getfield 19, 132, 642, 0, 342),
  (132, .invokevirtual 255, 135, 50, 0, 704),
  (135, .i2l, 136, 0, 0, 0),
  (136, .invokevirtual 174, 139, 16, 0, 550),
  (139, .aload_n 0, 140, 0, 0, 0),
  (140, .getfield 49, 143, 647, 0, 347),
  (143, .aload_n 0, 144, 0, 0, 0),
  (144, .getfield 19, 147, 642, 0, 342),
  (147, .invokevirtual 371, 150, 52, 0, 929),
  (150, .i2l, 151, 0, 0, 0),
  (151, .invokevirtual 174, 154, 16, 0, 550),
  (154, .aload_n 0, 155, 0, 0, 0),
  (155, .getfield 19, 158, 642, 0, 342),
  (158, .getfield 166, 161, 588, 0, 121),
  (161, .aload_n 0, 162, 0, 0, 0),
  (162, .getfield 10, 165, 640, 0, 340),
  (165, .getfield 166, 168, 588, 0, 121),
  (168, .isub, 169, 0, 0, 0),
  (169, .ireturn, 170, 0, 0, 0)]
def kX10_nextDraw : List mj_E := [
  (0, .iload_n 0, 1, 0, 0, 0),
  (1, .ldc_w 374, 4, 0, 1103515245, 925),
  (4, .imul, 5, 0, 0, 0),
  (5, .sipush 12345, 8, 0, 12345, 0),
  (8, .iadd, 9, 0, 0, 0),
  (9, .ireturn, 10, 0, 0, 0)]
def kX10_drawOf : List mj_E := [
  (0, .iload_n 1, 1, 0, 0, 0),
  (1, .ifCond .le 12, 4, 13, 0, 0),
  (4, .iload_n 0, 5, 0, 0, 0),
  (5, .bipush 16, 7, 0, 16, 0),
  (7, .iushr, 8, 0, 0, 0),
  (8, .iload_n 1, 9, 0, 0, 0),
  (9, .irem, 10, 0, 0, 0),
  (10, .goto 4, 13, 14, 0, 0),
  (13, .iconst 0, 14, 0, 0, 0),
  (14, .ireturn, 15, 0, 0, 0)]
def kX10_keep : List mj_E := [
  (0, .aload_n 0, 1, 0, 0, 0),
  (1, .getfield 25, 4, 643, 0, 343),
  (4, .iload_n 1, 5, 0, 0, 0),
  (5, .aload_n 0, 6, 0, 0, 0),
  (6, .getfield 10, 9, 640, 0, 340),
  (9, .invokevirtual 375, 12, 13, 0, 937),
  (12, .ireturn, 13, 0, 0, 0)]
def kX10_again : List mj_E := [
  (0, .aload_n 0, 1, 0, 0, 0),
  (1, .getfield 25, 4, 643, 0, 343),
  (4, .iload_n 1, 5, 0, 0, 0),
  (5, .aload_n 0, 6, 0, 0, 0),
  (6, .getfield 10, 9, 640, 0, 340),
  (9, .invokevirtual 379, 12, 14, 0, 945),
  (12, .ireturn, 13, 0, 0, 0)]
def kX10_count : List mj_E := [
  (0, .iload_n 1, 1, 0, 0, 0),
  (1, .tableswitch 147 0 10 #[59, 67, 75, 83, 91, 99, 107, 115, 123, 131, 139], 60, 0, 0, 0),
  (60, .aload_n 0, 61, 0, 0, 0),
  (61, .getfield 10, 64, 640, 0, 340),
  (64, .invokevirtual 255, 67, 50, 0, 704),
  (67, .ireturn, 68, 0, 0, 0),
  (68, .aload_n 0, 69, 0, 0, 0),
  (69, .getfield 10, 72, 640, 0, 340),
  (72, .getfield 112, 75, 586, 0, 116),
  (75, .ireturn, 76, 0, 0, 0),
  (76, .aload_n 0, 77, 0, 0, 0),
  (77, .getfield 10, 80, 640, 0, 340),
  (80, .getfield 213, 83, 587, 0, 119),
  (83, .ireturn, 84, 0, 0, 0),
  (84, .aload_n 0, 85, 0, 0, 0),
  (85, .getfield 10, 88, 640, 0, 340),
  (88, .getfield 166, 91, 588, 0, 121),
  (91, .ireturn, 92, 0, 0, 0),
  (92, .aload_n 0, 93, 0, 0, 0),
  (93, .getfield 39, 96, 645, 0, 345),
  (96, .getfield 126, 99, 513, 0, 222),
  (99, .ireturn, 100, 0, 0, 0),
  (100, .aload_n 0, 101, 0, 0, 0),
  (101, .getfield 10, 104, 640, 0, 340),
  (104, .invokevirtual 371, 107, 52, 0, 929),
  (107, .ireturn, 108, 0, 0, 0),
  (108, .aload_n 0, 109, 0, 0, 0),
  (109, .getfield 56, 112, 648, 0, 348),
  (112, .getfield 382, 115, 66, 0, 253),
  (115, .ireturn, 116, 0, 0, 0),
  (116, .aload_n 0, 117, 0, 0, 0),
  (117, .getfield 63, 120, 649, 0, 349),
  (120, .getfield 383, 123, 387, 0, 271),
  (123, .ireturn, 124, 0, 0, 0),
  (124, .aload_n 0, 125, 0, 0, 0),
  (125, .getfield 25, 128, 643, 0, 343),
  (128, .getfield 384, 131, 194, 0, 178),
  (131, .ireturn, 132, 0, 0, 0),
  (132, .aload_n 0, 133, 0, 0, 0),
  (133, .getfield 49, 136, 647, 0, 347),
  (136, .getfield 251, 139, 257, 0, 237),
  (139, .ireturn, 140, 0, 0, 0),
  (140, .aload_n 0, 141, 0, 0, 0),
  (141, .getfield 32, 144, 644, 0, 344),
  (144, .getfield 206, 147, 321, 0, 201),
  (147, .ireturn, 148, 0, 0, 0),
  (148, .iconst (-1), 149, 0, (-1), 0),
  (149, .ireturn, 150, 0, 0, 0)]
def kX10_row : List mj_E := [
  (0, .iload_n 1, 1, 0, 0, 0),
  (1, .ifCond .lt 14, 4, 15, 0, 0),
  (4, .iload_n 1, 5, 0, 0, 0),
  (5, .aload_n 0, 6, 0, 0, 0),
  (6, .getfield 49, 9, 647, 0, 347),
  (9, .getfield 251, 12, 257, 0, 237),
  (12, .if_icmp .lt 11, 15, 23, 0, 0),
  (15, .new 132, 18, 0, 0, 0),
  (18, .dup, 19, 0, 0, 0),
  (19, .invokespecial 134, 22, 0, 0, 0),
  (22, .athrow, 23, 0, 0, 0),
  (23, .aload_n 0, 24, 0, 0, 0),
  (24, .getfield 49, 27, 647, 0, 347),
  (27, .getfield 385, 30, 256, 0, 235),
  (30, .iload_n 1, 31, 0, 0, 0),
  (31, .laload, 32, 0, 0, 0),
  (32, .lreturn, 33, 0, 0, 0)]
def kX11_thrown : List mj_E := [
  (0, .aload_n 0, 1, 0, 0, 0),
  (1, .getfield 95, 4, 709, 0, 1050),
  (4, .ireturn, 5, 0, 0, 0)]
def kX11_in : List mj_E := [
  (0, .iload_n 0, 1, 0, 0, 0),
  (1, .iload_n 1, 2, 0, 0, 0),
  (2, .if_icmp .lt 12, 5, 14, 0, 0),
  (5, .iload_n 0, 6, 0, 0, 0),
  (6, .iload_n 2, 7, 0, 0, 0),
  (7, .if_icmp .gt 7, 10, 14, 0, 0),
  (10, .iconst 1, 11, 0, 1, 0),
  (11, .goto 4, 14, 15, 0, 0),
  (14, .iconst 0, 15, 0, 0, 0),
  (15, .ireturn, 16, 0, 0, 0)]
def kX11_has : List mj_E := [
  (0, .iload_n 0, 1, 0, 0, 0),
  (1, .iload_n 1, 2, 0, 0, 0),
  (2, .ishr, 3, 0, 0, 0),
  (3, .iconst 1, 4, 0, 1, 0),
  (4, .iand, 5, 0, 0, 0),
  (5, .iconst 1, 6, 0, 1, 0),
  (6, .if_icmp .ne 7, 9, 13, 0, 0),
  (9, .iconst 1, 10, 0, 1, 0),
  (10, .goto 4, 13, 14, 0, 0),
  (13, .iconst 0, 14, 0, 0, 0),
  (14, .ireturn, 15, 0, 0, 0)]
def kX11_lost : List mj_E := [
  (0, .aload_n 0, 1, 0, 0, 0),
  (1, .iconst 1, 2, 0, 1, 0),
  (2, .putfield 95, 5, 709, 0, 1050),
  (5, .iconst 0, 6, 0, 0, 0),
  (6, .ireturn, 7, 0, 0, 0)]
def kX11_tell : List mj_E := [
  (0, .aload_n 0, 1, 0, 0, 0),
  (1, .getfield 17, 4, 707, 0, 1048),
  (4, .aload_n 0, 5, 0, 0, 0),
  (5, .getfield 98, 8, 708, 0, 1049),
  (8, .lload_n 1, 9, 0, 0, 0),
  (9, .lastore, 10, 0, 0, 0),
  (10, .aload_n 0, 11, 0, 0, 0),
  (11, .dup, 12, 0, 0, 0),
  (12, .getfield 98, 15, 708, 0, 1049),
  (15, .iconst 1, 16, 0, 1, 0),
  (16, .iadd, 17, 0, 0, 0),
  (17, .putfield 98, 20, 708, 0, 1049),
  (20, .return_, 21, 0, 0, 0)]
def kX11_isThere : List mj_E := [
  (0, .aload_n 0, 1, 0, 0, 0),
  (1, .iload_n 1, 2, 0, 0, 0),
  (2, .iaload, 3, 0, 0, 0),
  (3, .ifCond .le 7, 6, 10, 0, 0),
  (6, .iconst 1, 7, 0, 1, 0),
  (7, .goto 4, 10, 11, 0, 0),
  (10, .iconst 0, 11, 0, 0, 0),
  (11, .ireturn, 12, 0, 0, 0)]
def kX11_isTask : List mj_E := [
  (0, .iload_n 1, 1, 0, 0, 0),
  (1, .iconst 0, 2, 0, 0, 0),
  (2, .bipush 7, 4, 0, 7, 0),
  (4, .invokestatic 101, 7, 132, 0, 1197),
  (7, .ifCond .eq 18, 10, 25, 0, 0),
  (10, .aload_n 0, 11, 0, 0, 0),
  (11, .getfield 9, 14, 704, 0, 1045),
  (14, .iload_n 1, 15, 0, 0, 0),
  (15, .invokestatic 105, 18, 136, 0, 1215),
  (18, .ifCond .eq 7, 21, 25, 0, 0),
  (21, .iconst 1, 22, 0, 1, 0),
  (22, .goto 4, 25, 26, 0, 0),
  (25, .iconst 0, 26, 0, 0, 0),
  (26, .ireturn, 27, 0, 0, 0)]
def kX11_thereOf : List mj_E := [
  (0, .iconst 0, 1, 0, 0, 0),
  (1, .istore_n 1, 2, 0, 0, 0),
  (2, .iconst 0, 3, 0, 0, 0),
  (3, .istore_n 2, 4, 0, 0, 0),
  (4, .iload_n 2, 5, 0, 0, 0),
  (5, .bipush 8, 7, 0, 8, 0),
  (7, .if_icmp .ge 27, 10, 34, 0, 0),
  (10, .iload_n 1, 11, 0, 0, 0),
  (11, .aload_n 0, 12, 0, 0, 0),
  (12, .iload_n 2, 13, 0, 0, 0),
  (13, .invokestatic 105, 16, 136, 0, 1215),
  (16, .ifCond .eq 9, 19, 25, 0, 0),
  (19, .iconst 1, 20, 0, 1, 0),
  (20, .iload_n 2, 21, 0, 0, 0),
  (21, .ishl, 22, 0, 0, 0),
  (22, .goto 4, 25, 26, 0, 0),
  (25, .iconst 0, 26, 0, 0, 0),
  (26, .ior, 27, 0, 0, 0),
  (27, .istore_n 1, 28, 0, 0, 0),
  (28, .iinc 2 1, 31, 0, 1, 0),
  (31, .goto (-27), 34, 4, 0, 0),
  (34, .iload_n 1, 35, 0, 0, 0),
  (35, .ireturn, 36, 0, 0, 0)]
def kX11_common : List mj_E := [
  (0, .lload_n 2, 1, 0, 0, 0),
  (1, .lconst 0, 2, 0, 0, 0),
  (2, .lcmp, 3, 0, 0, 0),
  (3, .ifCond .ne 10, 6, 13, 0, 0),
  (6, .lload_n 0, 7, 0, 0, 0),
  (7, .invokestatic 109, 10, 238, 0, 1261),
  (10, .goto 10, 13, 20, 0, 0),
  (13, .lload_n 2, 14, 0, 0, 0),
  (14, .lload_n 0, 15, 0, 0, 0),
  (15, .lload_n 2, 16, 0, 0, 0),
  (16, .lrem, 17, 0, 0, 0),
  (17, .invokestatic 115, 20, 139, 0, 1258),
  (20, .lreturn, 21, 0, 0, 0)]
def kX11_tellPart : List mj_E := [
  (0, .lload_n 1, 1, 0, 0, 0),
  (1, .lload_n 3, 2, 0, 0, 0),
  (2, .invokestatic 115, 5, 139, 0, 1258),
  (5, .lstore 5, 7, 0, 0, 0),
  (7, .aload_n 0, 8, 0, 0, 0),
  (8, .lload_n 1, 9, 0, 0, 0),
  (9, .lload 5, 11, 0, 0, 0),
  (11, .ldiv, 12, 0, 0, 0),
  (12, .invokevirtual 119, 15, 135, 0, 1338),
  (15, .aload_n 0, 16, 0, 0, 0),
  (16, .lload_n 3, 17, 0, 0, 0),
  (17, .lload 5, 19, 0, 0, 0),
  (19, .ldiv, 20, 0, 0, 0),
  (20, .invokevirtual 119, 23, 135, 0, 1338),
  (23, .return_, 24, 0, 0, 0)]
def kX11_layUse : List mj_E := [
  (0, .aload_n 0, 1, 0, 0, 0),
  (1, .lconst 0, 2, 0, 0, 0),
  (2, .putfield 123, 5, 713, 0, 1054),
  (5, .aload_n 0, 6, 0, 0, 0),
  (6, .lconst 1, 7, 0, 0, 0),
  (7, .putfield 127, 10, 714, 0, 1055),
  (10, .iconst 0, 11, 0, 0, 0),
  (11, .istore_n 2, 12, 0, 0, 0),
  (12, .iload_n 2, 13, 0, 0, 0),
  (13, .bipush 8, 15, 0, 8, 0),
  (15, .if_icmp .ge 94, 18, 109, 0, 0),
  (18, .aload_n 1, 19, 0, 0, 0),
  (19, .iload_n 2, 20, 0, 0, 0),
  (20, .invokestatic 105, 23, 136, 0, 1215),
  (23, .ifCond .ne 6, 26, 29, 0, 0),
  (26, .goto 77, 29, 103, 0, 0),
  (29, .aload_n 0, 30, 0, 0, 0),
  (30, .aload_n 0, 31, 0, 0, 0),
  (31, .getfield 123, 34, 713, 0, 1054),
  (34, .aload_n 1, 35, 0, 0, 0),
  (35, .bipush 8, 37, 0, 8, 0),
  (37, .iload_n 2, 38, 0, 0, 0),
  (38, .iadd, 39, 0, 0, 0),
  (39, .iaload, 40, 0, 0, 0),
  (40, .i2l, 41, 0, 0, 0),
  (41, .lmul, 42, 0, 0, 0),
  (42, .aload_n 1, 43, 0, 0, 0),
  (43, .iload_n 2, 44, 0, 0, 0),
  (44, .iaload, 45, 0, 0, 0),
  (45, .i2l, 46, 0, 0, 0),
  (46, .aload_n 0, 47, 0, 0, 0),
  (47, .getfield 127, 50, 714, 0, 1055),
  (50, .lmul, 51, 0, 0, 0),
  (51, .ladd, 52, 0, 0, 0),
  (52, .putfield 123, 55, 713, 0, 1054),
  (55, .aload_n 0, 56, 0, 0, 0),
  (56, .dup, 57, 0, 0, 0),
  (57, .getfield 127, 60, 714, 0, 1055),
  (60, .aload_n 1, 61, 0, 0, 0),
  (61, .bipush 8, 63, 0, 8, 0),
  (63, .iload_n 2, 64, 0, 0, 0),
  (64, .iadd, 65, 0, 0, 0),
  (65, .iaload, 66, 0, 0, 0),
  (66, .i2l, 67, 0, 0, 0),
  (67, .lmul, 68, 0, 0, 0),
  (68, .putfield 127, 71, 714, 0, 1055),
  (71, .aload_n 0, 72, 0, 0, 0),
  (72, .getfield 123, 75, 713, 0, 1054),
  (75, .aload_n 0, 76, 0, 0, 0),
  (76, .getfield 127, 79, 714, 0, 1055),
  (79, .invokestatic 115, 82, 139, 0, 1258),
  (82, .lstore_n 3, 83, 0, 0, 0),
  (83, .aload_n 0, 84, 0, 0, 0),
  (84, .dup, 85, 0, 0, 0),
  (85, .getfield 123, 88, 713, 0, 1054),
  (88, .lload_n 3, 89, 0, 0, 0),
  (89, .ldiv, 90, 0, 0, 0),
  (90, .putfield 123, 93, 713, 0, 1054),
  (93, .aload_n 0, 94, 0, 0, 0),
  (94, .dup, 95, 0, 0, 0),
  (95, .getfield 127, 98, 714, 0, 1055),
  (98, .lload_n 3, 99, 0, 0, 0),
  (99, .ldiv, 100, 0, 0, 0),
  (100, .putfield 127, 103, 714, 0, 1055),
  (103, .iinc 2 1, 106, 0, 1, 0),
  (106, .goto (-94), 109, 12, 0, 0),
  (109, .return_, 110, 0, 0, 0)]
def kX11_releaseOf : List mj_E := [
  (0, .aload_n 0, 1, 0, 0, 0),
  (1, .bipush 16, 3, 0, 16, 0),
  (3, .iload_n 1, 4, 0, 0, 0),
  (4, .iadd, 5, 0, 0, 0),
  (5, .iaload, 6, 0, 0, 0),
  (6, .iload_n 2, 7, 0, 0, 0),
  (7, .iconst 1, 8, 0, 1, 0),
  (8, .isub, 9, 0, 0, 0),
  (9, .aload_n 0, 10, 0, 0, 0),
  (10, .bipush 8, 12, 0, 8, 0),
  (12, .iload_n 1, 13, 0, 0, 0),
  (13, .iadd, 14, 0, 0, 0),
  (14, .iaload, 15, 0, 0, 0),
  (15, .imul, 16, 0, 0, 0),
  (16, .aload_n 0, 17, 0, 0, 0),
  (17, .iload_n 1, 18, 0, 0, 0),
  (18, .iaload, 19, 0, 0, 0),
  (19, .idiv, 20, 0, 0, 0),
  (20, .iadd, 21, 0, 0, 0),
  (21, .ireturn, 22, 0, 0, 0)]
def kX11_deadlineOf : List mj_E := [
  (0, .aload_n 0, 1, 0, 0, 0),
  (1, .bipush 16, 3, 0, 16, 0),
  (3, .iload_n 1, 4, 0, 0, 0),
  (4, .iadd, 5, 0, 0, 0),
  (5, .iaload, 6, 0, 0, 0),
  (6, .iload_n 2, 7, 0, 0, 0),
  (7, .aload_n 0, 8, 0, 0, 0),
  (8, .bipush 8, 10, 0, 8, 0),
  (10, .iload_n 1, 11, 0, 0, 0),
  (11, .iadd, 12, 0, 0, 0),
  (12, .iaload, 13, 0, 0, 0),
  (13, .imul, 14, 0, 0, 0),
  (14, .aload_n 0, 15, 0, 0, 0),
  (15, .iload_n 1, 16, 0, 0, 0),
  (16, .iaload, 17, 0, 0, 0),
  (17, .iadd, 18, 0, 0, 0),
  (18, .iconst 1, 19, 0, 1, 0),
  (19, .isub, 20, 0, 0, 0),
  (20, .aload_n 0, 21, 0, 0, 0),
  (21, .iload_n 1, 22, 0, 0, 0),
  (22, .iaload, 23, 0, 0, 0),
  (23, .idiv, 24, 0, 0, 0),
  (24, .iadd, 25, 0, 0, 0),
  (25, .ireturn, 26, 0, 0, 0)]
def kX11_overlapOf : List mj_E := [
  (0, .iload_n 2, 1, 0, 0, 0),
  (1, .aload_n 0, 2, 0, 0, 0),
  (2, .bipush 8, 4, 0, 8, 0),
  (4, .iload_n 1, 5, 0, 0, 0),
  (5, .iadd, 6, 0, 0, 0),
  (6, .iaload, 7, 0, 0, 0),
  (7, .imul, 8, 0, 0, 0),
  (8, .aload_n 0, 9, 0, 0, 0),
  (9, .iload_n 1, 10, 0, 0, 0),
  (10, .iaload, 11, 0, 0, 0),
  (11, .irem, 12, 0, 0, 0),
  (12, .ifCond .eq 7, 15, 19, 0, 0),
  (15, .iconst 1, 16, 0, 1, 0),
  (16, .goto 4, 19, 20, 0, 0),
  (19, .iconst 0, 20, 0, 0, 0),
  (20, .ireturn, 21, 0, 0, 0)]
def kX11_lengthOf : List mj_E := [
  (0, .aload_n 0, 1, 0, 0, 0),
  (1, .iload_n 1, 2, 0, 0, 0),
  (2, .iload_n 2, 3, 0, 0, 0),
  (3, .invokestatic 130, 6, 143, 0, 1296),
  (6, .aload_n 0, 7, 0, 0, 0),
  (7, .iload_n 1, 8, 0, 0, 0),
  (8, .iload_n 2, 9, 0, 0, 0),
  (9, .invokestatic 134, 12, 142, 0, 1293),
  (12, .isub, 13, 0, 0, 0),
  (13, .ireturn, 14, 0, 0, 0)]
def kX11_groupOf : List mj_E := [
  (0, .iconst 2, 1, 0, 2, 0),
  (1, .aload_n 0, 2, 0, 0, 0),
  (2, .iload_n 1, 3, 0, 0, 0),
  (3, .iaload, 4, 0, 0, 0),
  (4, .imul, 5, 0, 0, 0),
  (5, .aload_n 0, 6, 0, 0, 0),
  (6, .bipush 8, 8, 0, 8, 0),
  (8, .iload_n 1, 9, 0, 0, 0),
  (9, .iadd, 10, 0, 0, 0),
  (10, .iaload, 11, 0, 0, 0),
  (11, .if_icmp .ge 5, 14, 16, 0, 0),
  (14, .iconst 0, 15, 0, 0, 0),
  (15, .ireturn, 16, 0, 0, 0),
  (16, .aload_n 0, 17, 0, 0, 0),
  (17, .iload_n 1, 18, 0, 0, 0),
  (18, .iload_n 2, 19, 0, 0, 0),
  (19, .invokestatic 130, 22, 143, 0, 1296),
  (22, .istore_n 3, 23, 0, 0, 0),
  (23, .iload_n 2, 24, 0, 0, 0),
  (24, .istore 4, 26, 0, 0, 0),
  (26, .aload_n 0, 27, 0, 0, 0),
  (27, .iload_n 1, 28, 0, 0, 0),
  (28, .iload 4, 30, 0, 0, 0),
  (30, .invokestatic 130, 33, 143, 0, 1296),
  (33, .istore 5, 35, 0, 0, 0),
  (35, .aload_n 0, 36, 0, 0, 0),
  (36, .iload_n 1, 37, 0, 0, 0),
  (37, .iload 4, 39, 0, 0, 0),
  (39, .invokestatic 137, 42, 145, 0, 1305),
  (42, .iconst 3, 43, 0, 3, 0),
  (43, .if_icmp .ne 16, 46, 59, 0, 0),
  (46, .iload 5, 48, 0, 0, 0),
  (48, .iconst 1, 49, 0, 1, 0),
  (49, .isub, 50, 0, 0, 0),
  (50, .iload_n 3, 51, 0, 0, 0),
  (51, .if_icmp .lt 8, 54, 59, 0, 0),
  (54, .iload 5, 56, 0, 0, 0),
  (56, .iconst 1, 57, 0, 1, 0),
  (57, .isub, 58, 0, 0, 0),
  (58, .ireturn, 59, 0, 0, 0),
  (59, .aload_n 0, 60, 0, 0, 0),
  (60, .iload_n 1, 61, 0, 0, 0),
  (61, .iload 4, 63, 0, 0, 0),
  (63, .invokestatic 140, 66, 144, 0, 1299),
  (66, .ifCond .ne 6, 69, 72, 0, 0),
  (69, .iload 5, 71, 0, 0, 0),
  (71, .ireturn, 72, 0, 0, 0),
  (72, .iinc 4 1, 75, 0, 1, 0),
  (75, .goto (-49), 78, 26, 0, 0)]
def kX11_isReady : List mj_E := [
  (0, .aload_n 0, 1, 0, 0, 0),
  (1, .iload_n 1, 2, 0, 0, 0),
  (2, .invokestatic 105, 5, 136, 0, 1215),
  (5, .ifCond .eq 37, 8, 42, 0, 0),
  (8, .aload_n 0, 9, 0, 0, 0),
  (9, .bipush 24, 11, 0, 24, 0),
  (11, .iload_n 1, 12, 0, 0, 0),
  (12, .iadd, 13, 0, 0, 0),
  (13, .iaload, 14, 0, 0, 0),
  (14, .iconst 1, 15, 0, 1, 0),
  (15, .if_icmp .eq 23, 18, 38, 0, 0),
  (18, .aload_n 0, 19, 0, 0, 0),
  (19, .iload_n 1, 20, 0, 0, 0),
  (20, .aload_n 0, 21, 0, 0, 0),
  (21, .bipush 32, 23, 0, 32, 0),
  (23, .iload_n 1, 24, 0, 0, 0),
  (24, .iadd, 25, 0, 0, 0),
  (25, .iaload, 26, 0, 0, 0),
  (26, .iconst 1, 27, 0, 1, 0),
  (27, .iadd, 28, 0, 0, 0),
  (28, .invokestatic 134, 31, 142, 0, 1293),
  (31, .aload_n 0, 32, 0, 0, 0),
  (32, .bipush 41, 34, 0, 41, 0),
  (34, .iaload, 35, 0, 0, 0),
  (35, .if_icmp .gt 7, 38, 42, 0, 0),
  (38, .iconst 1, 39, 0, 1, 0),
  (39, .goto 4, 42, 43, 0, 0),
  (42, .iconst 0, 43, 0, 0, 0),
  (43, .ireturn, 44, 0, 0, 0)]
def kX11_leadBy : List mj_E := [
  (0, .aload_n 0, 1, 0, 0, 0),
  (1, .bipush 32, 3, 0, 32, 0),
  (3, .iload_n 2, 4, 0, 0, 0),
  (4, .iadd, 5, 0, 0, 0),
  (5, .iaload, 6, 0, 0, 0),
  (6, .iconst 1, 7, 0, 1, 0),
  (7, .iadd, 8, 0, 0, 0),
  (8, .istore 4, 10, 0, 0, 0),
  (10, .aload_n 0, 11, 0, 0, 0),
  (11, .bipush 32, 13, 0, 32, 0),
  (13, .iload_n 3, 14, 0, 0, 0),
  (14, .iadd, 15, 0, 0, 0),
  (15, .iaload, 16, 0, 0, 0),
  (16, .iconst 1, 17, 0, 1, 0),
  (17, .iadd, 18, 0, 0, 0),
  (18, .istore 5, 20, 0, 0, 0),
  (20, .iload_n 1, 21, 0, 0, 0),
  (21, .lookupswitch 139 #[(98, 59), (100, 43), (103, 75), (119, 117)], 64, 0, 0, 0),
  (64, .aload_n 0, 65, 0, 0, 0),
  (65, .iload_n 3, 66, 0, 0, 0),
  (66, .iload 5, 68, 0, 0, 0),
  (68, .invokestatic 130, 71, 143, 0, 1296),
  (71, .aload_n 0, 72, 0, 0, 0),
  (72, .iload_n 2, 73, 0, 0, 0),
  (73, .iload 4, 75, 0, 0, 0),
  (75, .invokestatic 130, 78, 143, 0, 1296),
  (78, .isub, 79, 0, 0, 0),
  (79, .ireturn, 80, 0, 0, 0),
  (80, .aload_n 0, 81, 0, 0, 0),
  (81, .iload_n 2, 82, 0, 0, 0),
  (82, .iload 4, 84, 0, 0, 0),
  (84, .invokestatic 140, 87, 144, 0, 1299),
  (87, .aload_n 0, 88, 0, 0, 0),
  (88, .iload_n 3, 89, 0, 0, 0),
  (89, .iload 5, 91, 0, 0, 0),
  (91, .invokestatic 140, 94, 144, 0, 1299),
  (94, .isub, 95, 0, 0, 0),
  (95, .ireturn, 96, 0, 0, 0),
  (96, .aload_n 0, 97, 0, 0, 0),
  (97, .iload_n 2, 98, 0, 0, 0),
  (98, .iload 4, 100, 0, 0, 0),
  (100, .invokestatic 140, 103, 144, 0, 1299),
  (103, .iconst 1, 104, 0, 1, 0),
  (104, .if_icmp .ne 32, 107, 136, 0, 0),
  (107, .aload_n 0, 108, 0, 0, 0),
  (108, .iload_n 3, 109, 0, 0, 0),
  (109, .iload 5, 111, 0, 0, 0),
  (111, .invokestatic 140, 114, 144, 0, 1299),
  (114, .iconst 1, 115, 0, 1, 0),
  (115, .if_icmp .ne 21, 118, 136, 0, 0),
  (118, .aload_n 0, 119, 0, 0, 0),
  (119, .iload_n 2, 120, 0, 0, 0),
  (120, .iload 4, 122, 0, 0, 0),
  (122, .invokestatic 143, 125, 146, 0, 1302),
  (125, .aload_n 0, 126, 0, 0, 0),
  (126, .iload_n 3, 127, 0, 0, 0),
  (127, .iload 5, 129, 0, 0, 0),
  (129, .invokestatic 143, 132, 146, 0, 1302),
  (132, .isub, 133, 0, 0, 0),
  (133, .goto 4, 136, 137, 0, 0),
  (136, .iconst 0, 137, 0, 0, 0),
  (137, .ireturn, 138, 0, 0, 0),
  (138, .aload_n 0, 139, 0, 0, 0),
  (139, .iload_n 2, 140, 0, 0, 0),
  (140, .iaload, 141, 0, 0, 0),
  (141, .aload_n 0, 142, 0, 0, 0),
  (142, .bipush 8, 144, 0, 8, 0),
  (144, .iload_n 3, 145, 0, 0, 0),
  (145, .iadd, 146, 0, 0, 0),
  (146, .iaload, 147, 0, 0, 0),
  (147, .imul, 148, 0, 0, 0),
  (148, .aload_n 0, 149, 0, 0, 0),
  (149, .iload_n 3, 150, 0, 0, 0),
  (150, .iaload, 151, 0, 0, 0),
  (151, .aload_n 0, 152, 0, 0, 0),
  (152, .bipush 8, 154, 0, 8, 0),
  (154, .iload_n 2, 155, 0, 0, 0),
  (155, .iadd, 156, 0, 0, 0),
  (156, .iaload, 157, 0, 0, 0),
  (157, .imul, 158, 0, 0, 0),
  (158, .isub, 159, 0, 0, 0),
  (159, .ireturn, 160, 0, 0, 0),
  (160, .aload_n 0, 161, 0, 0, 0),
  (161, .iload_n 3, 162, 0, 0, 0),
  (162, .iload 5, 164, 0, 0, 0),
  (164, .invokestatic 134, 167, 142, 0, 1293),
  (167, .aload_n 0, 168, 0, 0, 0),
  (168, .iload_n 2, 169, 0, 0, 0),
  (169, .iload 4, 171, 0, 0, 0),
  (171, .invokestatic 134, 174, 142, 0, 1293),
  (174, .isub, 175, 0, 0, 0),
  (175, .ireturn, 176, 0, 0, 0)]
def kX11_isAhead : List mj_E := [
  (0, .iconst 0, 1, 0, 0, 0),
  (1, .istore 4, 3, 0, 0, 0),
  (3, .iload 4, 5, 0, 0, 0),
  (5, .aload_n 0, 6, 0, 0, 0),
  (6, .getfield 27, 9, 712, 0, 1053),
  (9, .if_icmp .ge 40, 12, 49, 0, 0),
  (12, .aload_n 1, 13, 0, 0, 0),
  (13, .aload_n 0, 14, 0, 0, 0),
  (14, .getfield 21, 17, 710, 0, 1051),
  (17, .iload 4, 19, 0, 0, 0),
  (19, .baload, 20, 0, 0, 0),
  (20, .iload_n 2, 21, 0, 0, 0),
  (21, .iload_n 3, 22, 0, 0, 0),
  (22, .invokestatic 146, 25, 148, 0, 1334),
  (25, .istore 5, 27, 0, 0, 0),
  (27, .iload 5, 29, 0, 0, 0),
  (29, .ifCond .eq 14, 32, 43, 0, 0),
  (32, .iload 5, 34, 0, 0, 0),
  (34, .ifCond .le 7, 37, 41, 0, 0),
  (37, .iconst 1, 38, 0, 1, 0),
  (38, .goto 4, 41, 42, 0, 0),
  (41, .iconst 0, 42, 0, 0, 0),
  (42, .ireturn, 43, 0, 0, 0),
  (43, .iinc 4 1, 46, 0, 1, 0),
  (46, .goto (-43), 49, 3, 0, 0),
  (49, .iload_n 2, 50, 0, 0, 0),
  (50, .iload_n 3, 51, 0, 0, 0),
  (51, .if_icmp .ge 7, 54, 58, 0, 0),
  (54, .iconst 1, 55, 0, 1, 0),
  (55, .goto 4, 58, 59, 0, 0),
  (58, .iconst 0, 59, 0, 0, 0),
  (59, .ireturn, 60, 0, 0, 0)]
def kX11_layOrder : List mj_E := [
  (0, .iconst 0, 1, 0, 0, 0),
  (1, .istore_n 3, 2, 0, 0, 0),
  (2, .iconst 0, 3, 0, 0, 0),
  (3, .istore 4, 5, 0, 0, 0),
  (5, .iconst 1, 6, 0, 1, 0),
  (6, .istore 5, 8, 0, 0, 0),
  (8, .iload 5, 10, 0, 0, 0),
  (10, .ifCond .eq 114, 13, 124, 0, 0),
  (13, .iconst (-1), 14, 0, (-1), 0),
  (14, .istore 6, 16, 0, 0, 0),
  (16, .iconst 0, 17, 0, 0, 0),
  (17, .istore 7, 19, 0, 0, 0),
  (19, .iload 7, 21, 0, 0, 0),
  (21, .bipush 8, 23, 0, 8, 0),
  (23, .if_icmp .ge 58, 26, 81, 0, 0),
  (26, .iload 7, 28, 0, 0, 0),
  (28, .iload_n 2, 29, 0, 0, 0),
  (29, .if_icmp .eq 46, 32, 75, 0, 0),
  (32, .iload_n 3, 33, 0, 0, 0),
  (33, .iload 7, 35, 0, 0, 0),
  (35, .invokestatic 150, 38, 133, 0, 1324),
  (38, .ifCond .ne 37, 41, 75, 0, 0),
  (41, .aload_n 1, 42, 0, 0, 0),
  (42, .iload 7, 44, 0, 0, 0),
  (44, .invokestatic 154, 47, 147, 0, 1327),
  (47, .ifCond .ne 6, 50, 53, 0, 0),
  (50, .goto 25, 53, 75, 0, 0),
  (53, .iload 6, 55, 0, 0, 0),
  (55, .iconst (-1), 56, 0, (-1), 0),
  (56, .if_icmp .eq 15, 59, 71, 0, 0),
  (59, .aload_n 0, 60, 0, 0, 0),
  (60, .aload_n 1, 61, 0, 0, 0),
  (61, .iload 7, 63, 0, 0, 0),
  (63, .iload 6, 65, 0, 0, 0),
  (65, .invokevirtual 157, 68, 149, 0, 1330),
  (68, .ifCond .eq 7, 71, 75, 0, 0),
  (71, .iload 7, 73, 0, 0, 0),
  (73, .istore 6, 75, 0, 0, 0),
  (75, .iinc 7 1, 78, 0, 1, 0),
  (78, .goto (-59), 81, 19, 0, 0),
  (81, .iload 6, 83, 0, 0, 0),
  (83, .iconst (-1), 84, 0, (-1), 0),
  (84, .if_icmp .eq 7, 87, 91, 0, 0),
  (87, .iconst 1, 88, 0, 1, 0),
  (88, .goto 4, 91, 92, 0, 0),
  (91, .iconst 0, 92, 0, 0, 0),
  (92, .istore 5, 94, 0, 0, 0),
  (94, .iload 5, 96, 0, 0, 0),
  (96, .ifCond .ne 6, 99, 102, 0, 0),
  (99, .goto (-91), 102, 8, 0, 0),
  (102, .aload_n 0, 103, 0, 0, 0),
  (103, .getfield 31, 106, 715, 0, 1056),
  (106, .iload 4, 108, 0, 0, 0),
  (108, .iload 6, 110, 0, 0, 0),
  (110, .iastore, 111, 0, 0, 0),
  (111, .iload_n 3, 112, 0, 0, 0),
  (112, .iconst 1, 113, 0, 1, 0),
  (113, .iload 6, 115, 0, 0, 0),
  (115, .ishl, 116, 0, 0, 0),
  (116, .ior, 117, 0, 0, 0),
  (117, .istore_n 3, 118, 0, 0, 0),
  (118, .iinc 4 1, 121, 0, 1, 0),
  (121, .goto (-113), 124, 8, 0, 0),
  (124, .iload 4, 126, 0, 0, 0),
  (126, .ireturn, 127, 0, 0, 0)]
def kX11_sign : List mj_E := [
  (0, .aload_n 0, 1, 0, 0, 0),
  (1, .iconst 0, 2, 0, 0, 0),
  (2, .putfield 95, 5, 709, 0, 1050),
  (5, .aload_n 0, 6, 0, 0, 0),
  (6, .getfield 161, 9, 706, 0, 1047),
  (9, .iconst 4, 10, 0, 4, 0),
  (10, .iadd, 11, 0, 0, 0),
  (11, .bipush 80, 13, 0, 80, 0),
  (13, .if_icmp .le 5, 16, 18, 0, 0),
  (16, .iconst (-1), 17, 0, (-1), 0),
  (17, .ireturn, 18, 0, 0, 0),
  (18, .iconst 3, 19, 0, 3, 0),
  (19, .istore_n 2, 20, 0, 0, 0),
  (20, .iload_n 2, 21, 0, 0, 0),
  (21, .ifCond .lt 32, 24, 53, 0, 0),
  (24, .aload_n 0, 25, 0, 0, 0),
  (25, .getfield 13, 28, 705, 0, 1046),
  (28, .aload_n 0, 29, 0, 0, 0),
  (29, .dup, 30, 0, 0, 0),
  (30, .getfield 161, 33, 706, 0, 1047),
  (33, .dup_x1, 34, 0, 0, 0),
  (34, .iconst 1, 35, 0, 1, 0),
  (35, .iadd, 36, 0, 0, 0),
  (36, .putfield 161, 39, 706, 0, 1047),
  (39, .iload_n 1, 40, 0, 0, 0),
  (40, .bipush 8, 42, 0, 8, 0),
  (42, .iload_n 2, 43, 0, 0, 0),
  (43, .imul, 44, 0, 0, 0),
  (44, .ishr, 45, 0, 0, 0),
  (45, .i2b, 46, 0, 0, 0),
  (46, .bastore, 47, 0, 0, 0),
  (47, .iinc 2 (-1), 50, 0, (-1), 0),
  (50, .goto (-30), 53, 20, 0, 0),
  (53, .aload_n 0, 54, 0, 0, 0),
  (54, .getfield 161, 57, 706, 0, 1047),
  (57, .ireturn, 58, 0, 0, 0)]
def kX11_end : List mj_E := [
  (0, .aload_n 0, 1, 0, 0, 0),
  (1, .iconst 0, 2, 0, 0, 0),
  (2, .putfield 95, 5, 709, 0, 1050),
  (5, .iload_n 1, 6, 0, 0, 0),
  (6, .iconst 0, 7, 0, 0, 0),
  (7, .aload_n 0, 8, 0, 0, 0),
  (8, .getfield 161, 11, 706, 0, 1047),
  (11, .invokestatic 101, 14, 132, 0, 1197),
  (14, .ifCond .ne 5, 17, 19, 0, 0),
  (17, .iconst 0, 18, 0, 0, 0),
  (18, .ireturn, 19, 0, 0, 0),
  (19, .aload_n 0, 20, 0, 0, 0),
  (20, .iload_n 1, 21, 0, 0, 0),
  (21, .putfield 161, 24, 706, 0, 1047),
  (24, .iconst 1, 25, 0, 1, 0),
  (25, .ireturn, 26, 0, 0, 0)]
def kX11_begin : List mj_E := [
  (0, .aload_n 0, 1, 0, 0, 0),
  (1, .aload_n 1, 2, 0, 0, 0),
  (2, .putfield 164, 5, 716, 0, 1057),
  (5, .aload_n 0, 6, 0, 0, 0),
  (6, .iload_n 2, 7, 0, 0, 0),
  (7, .putfield 167, 10, 717, 0, 1058),
  (10, .aload_n 0, 11, 0, 0, 0),
  (11, .iload_n 3, 12, 0, 0, 0),
  (12, .putfield 170, 15, 718, 0, 1059),
  (15, .aload_n 0, 16, 0, 0, 0),
  (16, .iconst 0, 17, 0, 0, 0),
  (17, .putfield 173, 20, 719, 0, 1060),
  (20, .aload_n 0, 21, 0, 0, 0),
  (21, .iconst (-1), 22, 0, (-1), 0),
  (22, .putfield 176, 25, 720, 0, 1061),
  (25, .return_, 26, 0, 0, 0)]
def kX11_beginText : List mj_E := [
  (0, .aload_n 0, 1, 0, 0, 0),
  (1, .aload_n 0, 2, 0, 0, 0),
  (2, .getfield 13, 5, 705, 0, 1046),
  (5, .aload_n 0, 6, 0, 0, 0),
  (6, .getfield 161, 9, 706, 0, 1047),
  (9, .iload_n 1, 10, 0, 0, 0),
  (10, .invokevirtual 179, 13, 153, 0, 1208),
  (13, .aload_n 0, 14, 0, 0, 0),
  (14, .iconst 0, 15, 0, 0, 0),
  (15, .putfield 161, 18, 706, 0, 1047),
  (18, .return_, 19, 0, 0, 0)]
def kX11_here : List mj_E := [
  (0, .aload_n 0, 1, 0, 0, 0),
  (1, .getfield 173, 4, 719, 0, 1060),
  (4, .aload_n 0, 5, 0, 0, 0),
  (5, .getfield 167, 8, 717, 0, 1058),
  (8, .if_icmp .ge 30, 11, 38, 0, 0),
  (11, .aload_n 0, 12, 0, 0, 0),
  (12, .getfield 173, 15, 719, 0, 1060),
  (15, .aload_n 0, 16, 0, 0, 0),
  (16, .getfield 170, 19, 718, 0, 1059),
  (19, .if_icmp .ge 19, 22, 38, 0, 0),
  (22, .aload_n 0, 23, 0, 0, 0),
  (23, .getfield 164, 26, 716, 0, 1057),
  (26, .aload_n 0, 27, 0, 0, 0),
  (27, .getfield 173, 30, 719, 0, 1060),
  (30, .baload, 31, 0, 0, 0),
  (31, .sipush 255, 34, 0, 255, 0),
  (34, .iand, 35, 0, 0, 0),
  (35, .goto 4, 38, 39, 0, 0),
  (38, .iconst (-1), 39, 0, (-1), 0),
  (39, .ireturn, 40, 0, 0, 0)]
def kX11_fine : List mj_E := [
  (0, .aload_n 0, 1, 0, 0, 0),
  (1, .getfield 176, 4, 720, 0, 1061),
  (4, .iconst (-1), 5, 0, (-1), 0),
  (5, .if_icmp .ne 7, 8, 12, 0, 0),
  (8, .iconst 1, 9, 0, 1, 0),
  (9, .goto 4, 12, 13, 0, 0),
  (12, .iconst 0, 13, 0, 0, 0),
  (13, .ireturn, 14, 0, 0, 0)]
def kX11_fault : List mj_E := [
  (0, .aload_n 0, 1, 0, 0, 0),
  (1, .invokevirtual 183, 4, 156, 0, 1219),
  (4, .ifCond .eq 8, 7, 12, 0, 0),
  (7, .aload_n 0, 8, 0, 0, 0),
  (8, .iload_n 1, 9, 0, 0, 0),
  (9, .putfield 176, 12, 720, 0, 1061),
  (12, .return_, 13, 0, 0, 0)]
def kX11_passes : List mj_E := [
  (0, .aload_n 0, 1, 0, 0, 0),
  (1, .invokevirtual 183, 4, 156, 0, 1219),
  (4, .ifCond .eq 11, 7, 15, 0, 0),
  (7, .aload_n 0, 8, 0, 0, 0),
  (8, .invokevirtual 187, 11, 155, 0, 1239),
  (11, .iload_n 1, 12, 0, 0, 0),
  (12, .if_icmp .eq 5, 15, 17, 0, 0),
  (15, .iconst 0, 16, 0, 0, 0),
  (16, .ireturn, 17, 0, 0, 0),
  (17, .aload_n 0, 18, 0, 0, 0),
  (18, .dup, 19, 0, 0, 0),
  (19, .getfield 173, 22, 719, 0, 1060),
  (22, .iconst 1, 23, 0, 1, 0),
  (23, .iadd, 24, 0, 0, 0),
  (24, .putfield 173, 27, 719, 0, 1060),
  (27, .iconst 1, 28, 0, 1, 0),
  (28, .ireturn, 29, 0, 0, 0)]
def kX11_oneOf : List mj_E := [
  (0, .aload_n 0, 1, 0, 0, 0),
  (1, .invokevirtual 183, 4, 156, 0, 1219),
  (4, .ifCond .ne 5, 7, 9, 0, 0),
  (7, .iconst 0, 8, 0, 0, 0),
  (8, .ireturn, 9, 0, 0, 0),
  (9, .aload_n 0, 10, 0, 0, 0),
  (10, .invokevirtual 187, 13, 155, 0, 1239),
  (13, .iload_n 1, 14, 0, 0, 0),
  (14, .iload_n 1, 15, 0, 0, 0),
  (15, .iload_n 2, 16, 0, 0, 0),
  (16, .iadd, 17, 0, 0, 0),
  (17, .iconst 1, 18, 0, 1, 0),
  (18, .isub, 19, 0, 0, 0),
  (19, .invokestatic 101, 22, 132, 0, 1197),
  (22, .ifCond .ne 13, 25, 35, 0, 0),
  (25, .aload_n 0, 26, 0, 0, 0),
  (26, .aload_n 0, 27, 0, 0, 0),
  (27, .getfield 173, 30, 719, 0, 1060),
  (30, .invokevirtual 195, 33, 157, 0, 1223),
  (33, .iconst 0, 34, 0, 0, 0),
  (34, .ireturn, 35, 0, 0, 0),
  (35, .aload_n 0, 36, 0, 0, 0),
  (36, .dup, 37, 0, 0, 0),
  (37, .getfield 173, 40, 719, 0, 1060),
  (40, .iconst 1, 41, 0, 1, 0),
  (41, .iadd, 42, 0, 0, 0),
  (42, .putfield 173, 45, 719, 0, 1060),
  (45, .aload_n 0, 46, 0, 0, 0),
  (46, .getfield 164, 49, 716, 0, 1057),
  (49, .aload_n 0, 50, 0, 0, 0),
  (50, .getfield 173, 53, 719, 0, 1060),
  (53, .iconst 1, 54, 0, 1, 0),
  (54, .isub, 55, 0, 0, 0),
  (55, .baload, 56, 0, 0, 0),
  (56, .iload_n 1, 57, 0, 0, 0),
  (57, .isub, 58, 0, 0, 0),
  (58, .ireturn, 59, 0, 0, 0)]
def kX11_wasRight : List mj_E := [
  (0, .aload_n 0, 1, 0, 0, 0),
  (1, .getfield 173, 4, 719, 0, 1060),
  (4, .aload_n 0, 5, 0, 0, 0),
  (5, .getfield 167, 8, 717, 0, 1058),
  (8, .if_icmp .ge 11, 11, 19, 0, 0),
  (11, .aload_n 0, 12, 0, 0, 0),
  (12, .aload_n 0, 13, 0, 0, 0),
  (13, .getfield 173, 16, 719, 0, 1060),
  (16, .invokevirtual 195, 19, 157, 0, 1223),
  (19, .aload_n 0, 20, 0, 0, 0),
  (20, .invokevirtual 183, 23, 156, 0, 1219),
  (23, .ireturn, 24, 0, 0, 0)]
def kX11_numberOf : List mj_E := [
  (0, .aload_n 0, 1, 0, 0, 0),
  (1, .bipush 49, 3, 0, 49, 0),
  (3, .bipush 9, 5, 0, 9, 0),
  (5, .invokevirtual 199, 8, 159, 0, 1235),
  (8, .iconst 1, 9, 0, 1, 0),
  (9, .iadd, 10, 0, 0, 0),
  (10, .istore_n 1, 11, 0, 0, 0),
  (11, .aload_n 0, 12, 0, 0, 0),
  (12, .invokevirtual 183, 15, 156, 0, 1219),
  (15, .ifCond .eq 31, 18, 46, 0, 0),
  (18, .aload_n 0, 19, 0, 0, 0),
  (19, .invokevirtual 187, 22, 155, 0, 1239),
  (22, .bipush 48, 24, 0, 48, 0),
  (24, .bipush 57, 26, 0, 57, 0),
  (26, .invokestatic 101, 29, 132, 0, 1197),
  (29, .ifCond .eq 17, 32, 46, 0, 0),
  (32, .bipush 10, 34, 0, 10, 0),
  (34, .iload_n 1, 35, 0, 0, 0),
  (35, .imul, 36, 0, 0, 0),
  (36, .aload_n 0, 37, 0, 0, 0),
  (37, .bipush 48, 39, 0, 48, 0),
  (39, .bipush 10, 41, 0, 10, 0),
  (41, .invokevirtual 199, 44, 159, 0, 1235),
  (44, .iadd, 45, 0, 0, 0),
  (45, .istore_n 1, 46, 0, 0, 0),
  (46, .iload_n 1, 47, 0, 0, 0),
  (47, .ireturn, 48, 0, 0, 0)]
def kX11_readLine : List mj_E := [
  (0, .aload_n 0, 1, 0, 0, 0),
  (1, .getfield 173, 4, 719, 0, 1060),
  (4, .istore_n 2, 5, 0, 0, 0),
  (5, .aload_n 0, 6, 0, 0, 0),
  (6, .invokevirtual 203, 9, 161, 0, 1231),
  (9, .istore_n 3, 10, 0, 0, 0),
  (10, .aload_n 0, 11, 0, 0, 0),
  (11, .invokevirtual 183, 14, 156, 0, 1219),
  (14, .ifCond .eq 20, 17, 34, 0, 0),
  (17, .aload_n 0, 18, 0, 0, 0),
  (18, .bipush 47, 20, 0, 47, 0),
  (20, .invokevirtual 191, 23, 158, 0, 1243),
  (23, .ifCond .ne 11, 26, 34, 0, 0),
  (26, .aload_n 0, 27, 0, 0, 0),
  (27, .aload_n 0, 28, 0, 0, 0),
  (28, .getfield 173, 31, 719, 0, 1060),
  (31, .invokevirtual 195, 34, 157, 0, 1223),
  (34, .aload_n 0, 35, 0, 0, 0),
  (35, .getfield 173, 38, 719, 0, 1060),
  (38, .istore 4, 40, 0, 0, 0),
  (40, .aload_n 0, 41, 0, 0, 0),
  (41, .invokevirtual 203, 44, 161, 0, 1231),
  (44, .istore 5, 46, 0, 0, 0),
  (46, .aload_n 0, 47, 0, 0, 0),
  (47, .invokevirtual 183, 50, 156, 0, 1219),
  (50, .ifCond .ne 4, 53, 54, 0, 0),
  (53, .return_, 54, 0, 0, 0),
  (54, .iload 5, 56, 0, 0, 0),
  (56, .bipush 12, 58, 0, 12, 0),
  (58, .if_icmp .le 10, 61, 68, 0, 0),
  (61, .aload_n 0, 62, 0, 0, 0),
  (62, .iload 4, 64, 0, 0, 0),
  (64, .invokevirtual 195, 67, 157, 0, 1223),
  (67, .return_, 68, 0, 0, 0),
  (68, .iload_n 3, 69, 0, 0, 0),
  (69, .iload 5, 71, 0, 0, 0),
  (71, .if_icmp .le 9, 74, 80, 0, 0),
  (74, .aload_n 0, 75, 0, 0, 0),
  (75, .iload_n 2, 76, 0, 0, 0),
  (76, .invokevirtual 195, 79, 157, 0, 1223),
  (79, .return_, 80, 0, 0, 0),
  (80, .aload_n 0, 81, 0, 0, 0),
  (81, .getfield 34, 84, 721, 0, 1062),
  (84, .iconst 3, 85, 0, 3, 0),
  (85, .iload_n 1, 86, 0, 0, 0),
  (86, .imul, 87, 0, 0, 0),
  (87, .iload_n 3, 88, 0, 0, 0),
  (88, .iastore, 89, 0, 0, 0),
  (89, .aload_n 0, 90, 0, 0, 0),
  (90, .getfield 34, 93, 721, 0, 1062),
  (93, .iconst 3, 94, 0, 3, 0),
  (94, .iload_n 1, 95, 0, 0, 0),
  (95, .imul, 96, 0, 0, 0),
  (96, .iconst 1, 97, 0, 1, 0),
  (97, .iadd, 98, 0, 0, 0),
  (98, .iload 5, 100, 0, 0, 0),
  (100, .iastore, 101, 0, 0, 0),
  (101, .aload_n 0, 102, 0, 0, 0),
  (102, .getfield 34, 105, 721, 0, 1062),
  (105, .iconst 3, 106, 0, 3, 0),
  (106, .iload_n 1, 107, 0, 0, 0),
  (107, .imul, 108, 0, 0, 0),
  (108, .iconst 2, 109, 0, 2, 0),
  (109, .iadd, 110, 0, 0, 0),
  (110, .aload_n 0, 111, 0, 0, 0),
  (111, .bipush 101, 113, 0, 101, 0),
  (113, .invokevirtual 191, 116, 158, 0, 1243),
  (116, .ifCond .eq 7, 119, 123, 0, 0),
  (119, .iconst 1, 120, 0, 1, 0),
  (120, .goto 4, 123, 124, 0, 0),
  (123, .iconst 0, 124, 0, 0, 0),
  (124, .iastore, 125, 0, 0, 0),
  (125, .return_, 126, 0, 0, 0)]
def kX11_joins : List mj_E := [
  (0, .aload_n 0, 1, 0, 0, 0),
  (1, .iconst 0, 2, 0, 0, 0),
  (2, .putfield 95, 5, 709, 0, 1050),
  (5, .aload_n 0, 6, 0, 0, 0),
  (6, .bipush 55, 8, 0, 55, 0),
  (8, .invokevirtual 206, 11, 154, 0, 1204),
  (11, .aload_n 0, 12, 0, 0, 0),
  (12, .getfield 167, 15, 717, 0, 1058),
  (15, .ifCond .ne 5, 18, 20, 0, 0),
  (18, .iconst 0, 19, 0, 0, 0),
  (19, .ireturn, 20, 0, 0, 0),
  (20, .bipush 8, 22, 0, 8, 0),
  (22, .aload_n 0, 23, 0, 0, 0),
  (23, .getfield 9, 26, 704, 0, 1045),
  (26, .invokestatic 209, 29, 138, 0, 1212),
  (29, .invokestatic 213, 32, 236, 0, 1218),
  (32, .isub, 33, 0, 0, 0),
  (33, .istore_n 1, 34, 0, 0, 0),
  (34, .iconst 0, 35, 0, 0, 0),
  (35, .istore_n 2, 36, 0, 0, 0),
  (36, .iconst 1, 37, 0, 1, 0),
  (37, .istore_n 3, 38, 0, 0, 0),
  (38, .iload_n 3, 39, 0, 0, 0),
  (39, .ifCond .eq 44, 42, 83, 0, 0),
  (42, .aload_n 0, 43, 0, 0, 0),
  (43, .invokevirtual 183, 46, 156, 0, 1219),
  (46, .ifCond .eq 37, 49, 83, 0, 0),
  (49, .iload_n 2, 50, 0, 0, 0),
  (50, .iload_n 1, 51, 0, 0, 0),
  (51, .if_icmp .ne 14, 54, 65, 0, 0),
  (54, .aload_n 0, 55, 0, 0, 0),
  (55, .aload_n 0, 56, 0, 0, 0),
  (56, .getfield 173, 59, 719, 0, 1060),
  (59, .invokevirtual 195, 62, 157, 0, 1223),
  (62, .goto 8, 65, 70, 0, 0),
  (65, .aload_n 0, 66, 0, 0, 0),
  (66, .iload_n 2, 67, 0, 0, 0),
  (67, .invokevirtual 219, 70, 162, 0, 1227),
  (70, .iinc 2 1, 73, 0, 1, 0),
  (73, .aload_n 0, 74, 0, 0, 0),
  (74, .bipush 59, 76, 0, 59, 0),
  (76, .invokevirtual 191, 79, 158, 0, 1243),
  (79, .istore_n 3, 80, 0, 0, 0),
  (80, .goto (-42), 83, 38, 0, 0),
  (83, .aload_n 0, 84, 0, 0, 0),
  (84, .invokevirtual 222, 87, 160, 0, 1247),
  (87, .ifCond .ne 10, 90, 97, 0, 0),
  (90, .iconst (-1), 91, 0, (-1), 0),
  (91, .aload_n 0, 92, 0, 0, 0),
  (92, .getfield 176, 95, 720, 0, 1061),
  (95, .isub, 96, 0, 0, 0),
  (96, .ireturn, 97, 0, 0, 0),
  (97, .aload_n 0, 98, 0, 0, 0),
  (98, .getfield 9, 101, 704, 0, 1045),
  (101, .aload_n 0, 102, 0, 0, 0),
  (102, .getfield 40, 105, 724, 0, 1065),
  (105, .iconst 0, 106, 0, 0, 0),
  (106, .invokestatic 225, 109, 170, 0, 1251),
  (109, .iconst 0, 110, 0, 0, 0),
  (110, .istore 4, 112, 0, 0, 0),
  (112, .iload 4, 114, 0, 0, 0),
  (114, .iload_n 2, 115, 0, 0, 0),
  (115, .if_icmp .ge 116, 118, 231, 0, 0),
  (118, .iconst 0, 119, 0, 0, 0),
  (119, .istore 5, 121, 0, 0, 0),
  (121, .aload_n 0, 122, 0, 0, 0),
  (122, .getfield 40, 125, 724, 0, 1065),
  (125, .iload 5, 127, 0, 0, 0),
  (127, .invokestatic 105, 130, 136, 0, 1215),
  (130, .ifCond .eq 9, 133, 139, 0, 0),
  (133, .iinc 5 1, 136, 0, 1, 0),
  (136, .goto (-15), 139, 121, 0, 0),
  (139, .aload_n 0, 140, 0, 0, 0),
  (140, .getfield 40, 143, 724, 0, 1065),
  (143, .iload 5, 145, 0, 0, 0),
  (145, .aload_n 0, 146, 0, 0, 0),
  (146, .getfield 34, 149, 721, 0, 1062),
  (149, .iconst 3, 150, 0, 3, 0),
  (150, .iload 4, 152, 0, 0, 0),
  (152, .imul, 153, 0, 0, 0),
  (153, .iaload, 154, 0, 0, 0),
  (154, .iastore, 155, 0, 0, 0),
  (155, .aload_n 0, 156, 0, 0, 0),
  (156, .getfield 40, 159, 724, 0, 1065),
  (159, .bipush 8, 161, 0, 8, 0),
  (161, .iload 5, 163, 0, 0, 0),
  (163, .iadd, 164, 0, 0, 0),
  (164, .aload_n 0, 165, 0, 0, 0),
  (165, .getfield 34, 168, 721, 0, 1062),
  (168, .iconst 3, 169, 0, 3, 0),
  (169, .iload 4, 171, 0, 0, 0),
  (171, .imul, 172, 0, 0, 0),
  (172, .iconst 1, 173, 0, 1, 0),
  (173, .iadd, 174, 0, 0, 0),
  (174, .iaload, 175, 0, 0, 0),
  (175, .iastore, 176, 0, 0, 0),
  (176, .aload_n 0, 177, 0, 0, 0),
  (177, .getfield 40, 180, 724, 0, 1065),
  (180, .bipush 16, 182, 0, 16, 0),
  (182, .iload 5, 184, 0, 0, 0),
  (184, .iadd, 185, 0, 0, 0),
  (185, .aload_n 0, 186, 0, 0, 0),
  (186, .getfield 40, 189, 724, 0, 1065),
  (189, .bipush 41, 191, 0, 41, 0),
  (191, .iaload, 192, 0, 0, 0),
  (192, .iastore, 193, 0, 0, 0),
  (193, .aload_n 0, 194, 0, 0, 0),
  (194, .getfield 40, 197, 724, 0, 1065),
  (197, .bipush 24, 199, 0, 24, 0),
  (199, .iload 5, 201, 0, 0, 0),
  (201, .iadd, 202, 0, 0, 0),
  (202, .aload_n 0, 203, 0, 0, 0),
  (203, .getfield 34, 206, 721, 0, 1062),
  (206, .iconst 3, 207, 0, 3, 0),
  (207, .iload 4, 209, 0, 0, 0),
  (209, .imul, 210, 0, 0, 0),
  (210, .iconst 2, 211, 0, 2, 0),
  (211, .iadd, 212, 0, 0, 0),
  (212, .iaload, 213, 0, 0, 0),
  (213, .iastore, 214, 0, 0, 0),
  (214, .aload_n 0, 215, 0, 0, 0),
  (215, .getfield 40, 218, 724, 0, 1065),
  (218, .bipush 32, 220, 0, 32, 0),
  (220, .iload 5, 222, 0, 0, 0),
  (222, .iadd, 223, 0, 0, 0),
  (223, .iconst 0, 224, 0, 0, 0),
  (224, .iastore, 225, 0, 0, 0),
  (225, .iinc 4 1, 228, 0, 1, 0),
  (228, .goto (-116), 231, 112, 0, 0),
  (231, .aload_n 0, 232, 0, 0, 0),
  (232, .aload_n 0, 233, 0, 0, 0),
  (233, .getfield 40, 236, 724, 0, 1065),
  (236, .invokevirtual 229, 239, 141, 0, 1254),
  (239, .aload_n 0, 240, 0, 0, 0),
  (240, .getfield 123, 243, 713, 0, 1054),
  (243, .aload_n 0, 244, 0, 0, 0),
  (244, .getfield 9, 247, 704, 0, 1045),
  (247, .bipush 40, 249, 0, 40, 0),
  (249, .iaload, 250, 0, 0, 0),
  (250, .i2l, 251, 0, 0, 0),
  (251, .aload_n 0, 252, 0, 0, 0),
  (252, .getfield 127, 255, 714, 0, 1055),
  (255, .lmul, 256, 0, 0, 0),
  (256, .lcmp, 257, 0, 0, 0),
  (257, .ifCond .le 6, 260, 263, 0, 0),
  (260, .bipush (-100), 262, 0, (-100), 0),
  (262, .ireturn, 263, 0, 0, 0),
  (263, .aload_n 0, 264, 0, 0, 0),
  (264, .aload_n 0, 265, 0, 0, 0),
  (265, .getfield 9, 268, 704, 0, 1045),
  (268, .invokevirtual 233, 271, 171, 0, 1262),
  (271, .aload_n 0, 272, 0, 0, 0),
  (272, .getfield 40, 275, 724, 0, 1065),
  (275, .aload_n 0, 276, 0, 0, 0),
  (276, .getfield 9, 279, 704, 0, 1045),
  (279, .iconst 0, 280, 0, 0, 0),
  (280, .invokestatic 225, 283, 170, 0, 1251),
  (283, .iload_n 2, 284, 0, 0, 0),
  (284, .ireturn, 285, 0, 0, 0)]
def kX11_isTie : List mj_E := [
  (0, .iload_n 0, 1, 0, 0, 0),
  (1, .bipush 100, 3, 0, 100, 0),
  (3, .if_icmp .eq 27, 6, 30, 0, 0),
  (6, .iload_n 0, 7, 0, 0, 0),
  (7, .bipush 98, 9, 0, 98, 0),
  (9, .if_icmp .eq 21, 12, 30, 0, 0),
  (12, .iload_n 0, 13, 0, 0, 0),
  (13, .bipush 103, 15, 0, 103, 0),
  (15, .if_icmp .eq 15, 18, 30, 0, 0),
  (18, .iload_n 0, 19, 0, 0, 0),
  (19, .bipush 119, 21, 0, 119, 0),
  (21, .if_icmp .eq 9, 24, 30, 0, 0),
  (24, .iload_n 0, 25, 0, 0, 0),
  (25, .bipush 114, 27, 0, 114, 0),
  (27, .if_icmp .ne 7, 30, 34, 0, 0),
  (30, .iconst 1, 31, 0, 1, 0),
  (31, .goto 4, 34, 35, 0, 0),
  (34, .iconst 0, 35, 0, 0, 0),
  (35, .ireturn, 36, 0, 0, 0)]
def kX11_rightTies : List mj_E := [
  (0, .iconst 0, 1, 0, 0, 0),
  (1, .istore_n 2, 2, 0, 0, 0),
  (2, .iload_n 2, 3, 0, 0, 0),
  (3, .iload_n 1, 4, 0, 0, 0),
  (4, .if_icmp .ge 53, 7, 57, 0, 0),
  (7, .aload_n 0, 8, 0, 0, 0),
  (8, .getfield 13, 11, 705, 0, 1046),
  (11, .iload_n 2, 12, 0, 0, 0),
  (12, .baload, 13, 0, 0, 0),
  (13, .invokestatic 236, 16, 164, 0, 1274),
  (16, .ifCond .ne 5, 19, 21, 0, 0),
  (19, .iload_n 2, 20, 0, 0, 0),
  (20, .ireturn, 21, 0, 0, 0),
  (21, .iconst 0, 22, 0, 0, 0),
  (22, .istore_n 3, 23, 0, 0, 0),
  (23, .iload_n 3, 24, 0, 0, 0),
  (24, .iload_n 2, 25, 0, 0, 0),
  (25, .if_icmp .ge 26, 28, 51, 0, 0),
  (28, .aload_n 0, 29, 0, 0, 0),
  (29, .getfield 13, 32, 705, 0, 1046),
  (32, .iload_n 3, 33, 0, 0, 0),
  (33, .baload, 34, 0, 0, 0),
  (34, .aload_n 0, 35, 0, 0, 0),
  (35, .getfield 13, 38, 705, 0, 1046),
  (38, .iload_n 2, 39, 0, 0, 0),
  (39, .baload, 40, 0, 0, 0),
  (40, .if_icmp .ne 5, 43, 45, 0, 0),
  (43, .iload_n 2, 44, 0, 0, 0),
  (44, .ireturn, 45, 0, 0, 0),
  (45, .iinc 3 1, 48, 0, 1, 0),
  (48, .goto (-25), 51, 23, 0, 0),
  (51, .iinc 2 1, 54, 0, 1, 0),
  (54, .goto (-52), 57, 2, 0, 0),
  (57, .iload_n 1, 58, 0, 0, 0),
  (58, .ireturn, 59, 0, 0, 0)]
def kX11_ties : List mj_E := [
  (0, .aload_n 0, 1, 0, 0, 0),
  (1, .iconst 0, 2, 0, 0, 0),
  (2, .putfield 95, 5, 709, 0, 1050),
  (5, .aload_n 0, 6, 0, 0, 0),
  (6, .getfield 161, 9, 706, 0, 1047),
  (9, .istore_n 1, 10, 0, 0, 0),
  (10, .aload_n 0, 11, 0, 0, 0),
  (11, .iconst 0, 12, 0, 0, 0),
  (12, .putfield 161, 15, 706, 0, 1047),
  (15, .aload_n 0, 16, 0, 0, 0),
  (16, .iload_n 1, 17, 0, 0, 0),
  (17, .invokevirtual 240, 20, 165, 0, 1270),
  (20, .istore_n 2, 21, 0, 0, 0),
  (21, .iload_n 2, 22, 0, 0, 0),
  (22, .iload_n 1, 23, 0, 0, 0),
  (23, .if_icmp .ge 7, 26, 30, 0, 0),
  (26, .iconst (-1), 27, 0, (-1), 0),
  (27, .iload_n 2, 28, 0, 0, 0),
  (28, .isub, 29, 0, 0, 0),
  (29, .ireturn, 30, 0, 0, 0),
  (30, .iconst 0, 31, 0, 0, 0),
  (31, .istore_n 3, 32, 0, 0, 0),
  (32, .iload_n 3, 33, 0, 0, 0),
  (33, .iload_n 1, 34, 0, 0, 0),
  (34, .if_icmp .ge 21, 37, 55, 0, 0),
  (37, .aload_n 0, 38, 0, 0, 0),
  (38, .getfield 21, 41, 710, 0, 1051),
  (41, .iload_n 3, 42, 0, 0, 0),
  (42, .aload_n 0, 43, 0, 0, 0),
  (43, .getfield 13, 46, 705, 0, 1046),
  (46, .iload_n 3, 47, 0, 0, 0),
  (47, .baload, 48, 0, 0, 0),
  (48, .bastore, 49, 0, 0, 0),
  (49, .iinc 3 1, 52, 0, 1, 0),
  (52, .goto (-20), 55, 32, 0, 0),
  (55, .aload_n 0, 56, 0, 0, 0),
  (56, .iload_n 1, 57, 0, 0, 0),
  (57, .putfield 27, 60, 712, 0, 1053),
  (60, .iload_n 1, 61, 0, 0, 0),
  (61, .ireturn, 62, 0, 0, 0)]
def kX11_task : List mj_E := [
  (0, .aload_n 0, 1, 0, 0, 0),
  (1, .iconst 0, 2, 0, 0, 0),
  (2, .putfield 95, 5, 709, 0, 1050),
  (5, .aload_n 0, 6, 0, 0, 0),
  (6, .iload_n 1, 7, 0, 0, 0),
  (7, .invokevirtual 243, 10, 137, 0, 1281),
  (10, .ifCond .eq 12, 13, 22, 0, 0),
  (13, .iload_n 2, 14, 0, 0, 0),
  (14, .iconst 0, 15, 0, 0, 0),
  (15, .iconst 4, 16, 0, 4, 0),
  (16, .invokestatic 101, 19, 132, 0, 1197),
  (19, .ifCond .ne 8, 22, 27, 0, 0),
  (22, .aload_n 0, 23, 0, 0, 0),
  (23, .invokevirtual 246, 26, 134, 0, 1285),
  (26, .ireturn, 27, 0, 0, 0),
  (27, .aload_n 0, 28, 0, 0, 0),
  (28, .getfield 9, 31, 704, 0, 1045),
  (31, .bipush 8, 33, 0, 8, 0),
  (33, .iload_n 2, 34, 0, 0, 0),
  (34, .imul, 35, 0, 0, 0),
  (35, .iload_n 1, 36, 0, 0, 0),
  (36, .iadd, 37, 0, 0, 0),
  (37, .iaload, 38, 0, 0, 0),
  (38, .ireturn, 39, 0, 0, 0)]
def kX11_part : List mj_E := [
  (0, .aload_n 0, 1, 0, 0, 0),
  (1, .iconst 0, 2, 0, 0, 0),
  (2, .putfield 95, 5, 709, 0, 1050),
  (5, .aload_n 0, 6, 0, 0, 0),
  (6, .iload_n 1, 7, 0, 0, 0),
  (7, .invokevirtual 243, 10, 137, 0, 1281),
  (10, .ifCond .eq 23, 13, 33, 0, 0),
  (13, .iload_n 2, 14, 0, 0, 0),
  (14, .iconst 1, 15, 0, 1, 0),
  (15, .sipush 200, 18, 0, 200, 0),
  (18, .invokestatic 101, 21, 132, 0, 1197),
  (21, .ifCond .eq 12, 24, 33, 0, 0),
  (24, .iload_n 3, 25, 0, 0, 0),
  (25, .iconst 0, 26, 0, 0, 0),
  (26, .iconst 4, 27, 0, 4, 0),
  (27, .invokestatic 101, 30, 132, 0, 1197),
  (30, .ifCond .ne 8, 33, 38, 0, 0),
  (33, .aload_n 0, 34, 0, 0, 0),
  (34, .invokevirtual 246, 37, 134, 0, 1285),
  (37, .ireturn, 38, 0, 0, 0),
  (38, .iload_n 3, 39, 0, 0, 0),
  (39, .tableswitch 69 0 3 #[29, 39, 49, 59], 68, 0, 0, 0),
  (68, .aload_n 0, 69, 0, 0, 0),
  (69, .getfield 9, 72, 704, 0, 1045),
  (72, .iload_n 1, 73, 0, 0, 0),
  (73, .iload_n 2, 74, 0, 0, 0),
  (74, .invokestatic 134, 77, 142, 0, 1293),
  (77, .ireturn, 78, 0, 0, 0),
  (78, .aload_n 0, 79, 0, 0, 0),
  (79, .getfield 9, 82, 704, 0, 1045),
  (82, .iload_n 1, 83, 0, 0, 0),
  (83, .iload_n 2, 84, 0, 0, 0),
  (84, .invokestatic 130, 87, 143, 0, 1296),
  (87, .ireturn, 88, 0, 0, 0),
  (88, .aload_n 0, 89, 0, 0, 0),
  (89, .getfield 9, 92, 704, 0, 1045),
  (92, .iload_n 1, 93, 0, 0, 0),
  (93, .iload_n 2, 94, 0, 0, 0),
  (94, .invokestatic 140, 97, 144, 0, 1299),
  (97, .ireturn, 98, 0, 0, 0),
  (98, .aload_n 0, 99, 0, 0, 0),
  (99, .getfield 9, 102, 704, 0, 1045),
  (102, .iload_n 1, 103, 0, 0, 0),
  (103, .iload_n 2, 104, 0, 0, 0),
  (104, .invokestatic 143, 107, 146, 0, 1302),
  (107, .ireturn, 108, 0, 0, 0),
  (108, .aload_n 0, 109, 0, 0, 0),
  (109, .getfield 9, 112, 704, 0, 1045),
  (112, .iload_n 1, 113, 0, 0, 0),
  (113, .iload_n 2, 114, 0, 0, 0),
  (114, .invokestatic 137, 117, 145, 0, 1305),
  (117, .ireturn, 118, 0, 0, 0)]
def kX11_sheet : List mj_E := [
  (0, .aload_n 0, 1, 0, 0, 0),
  (1, .iconst 0, 2, 0, 0, 0),
  (2, .putfield 95, 5, 709, 0, 1050),
  (5, .iload_n 1, 6, 0, 0, 0),
  (6, .iconst 0, 7, 0, 0, 0),
  (7, .iconst 3, 8, 0, 3, 0),
  (8, .invokestatic 101, 11, 132, 0, 1197),
  (11, .ifCond .eq 9, 14, 20, 0, 0),
  (14, .iload_n 2, 15, 0, 0, 0),
  (15, .bipush 8, 17, 0, 8, 0),
  (17, .if_icmp .le 5, 20, 22, 0, 0),
  (20, .iconst (-1), 21, 0, (-1), 0),
  (21, .ireturn, 22, 0, 0, 0),
  (22, .iload_n 1, 23, 0, 0, 0),
  (23, .iconst 3, 24, 0, 3, 0),
  (24, .if_icmp .ge 10, 27, 34, 0, 0),
  (27, .iload_n 2, 28, 0, 0, 0),
  (28, .ifCond .ge 6, 31, 34, 0, 0),
  (31, .bipush (-2), 33, 0, (-2), 0),
  (33, .ireturn, 34, 0, 0, 0),
  (34, .iload_n 3, 35, 0, 0, 0),
  (35, .istore 5, 37, 0, 0, 0),
  (37, .iconst 0, 38, 0, 0, 0),
  (38, .istore 6, 40, 0, 0, 0),
  (40, .iconst 0, 41, 0, 0, 0),
  (41, .istore 7, 43, 0, 0, 0),
  (43, .iconst 0, 44, 0, 0, 0),
  (44, .istore 8, 46, 0, 0, 0),
  (46, .iload 8, 48, 0, 0, 0),
  (48, .bipush 8, 50, 0, 8, 0),
  (50, .if_icmp .ge 105, 53, 155, 0, 0),
  (53, .aload_n 0, 54, 0, 0, 0),
  (54, .getfield 9, 57, 704, 0, 1045),
  (57, .iload 8, 59, 0, 0, 0),
  (59, .invokestatic 105, 62, 136, 0, 1215),
  (62, .ifCond .ne 6, 65, 68, 0, 0),
  (65, .goto 84, 68, 149, 0, 0),
  (68, .iload_n 1, 69, 0, 0, 0),
  (69, .ifCond .ne 9, 72, 78, 0, 0),
  (72, .iload 5, 74, 0, 0, 0),
  (74, .i2b, 75, 0, 0, 0),
  (75, .goto 16, 78, 91, 0, 0),
  (78, .iload_n 1, 79, 0, 0, 0),
  (79, .iconst 1, 80, 0, 1, 0),
  (80, .if_icmp .ne 9, 83, 89, 0, 0),
  (83, .iload 5, 85, 0, 0, 0),
  (85, .i2s, 86, 0, 0, 0),
  (86, .goto 5, 89, 91, 0, 0),
  (89, .iload 5, 91, 0, 0, 0),
  (91, .istore 9, 93, 0, 0, 0),
  (93, .aload_n 0, 94, 0, 0, 0),
  (94, .getfield 9, 97, 704, 0, 1045),
  (97, .bipush 24, 99, 0, 24, 0),
  (99, .iload 8, 101, 0, 0, 0),
  (101, .iadd, 102, 0, 0, 0),
  (102, .iload_n 1, 103, 0, 0, 0),
  (103, .iconst 3, 104, 0, 3, 0),
  (104, .if_icmp .ge 18, 107, 122, 0, 0),
  (107, .iload 6, 109, 0, 0, 0),
  (109, .iload_n 2, 110, 0, 0, 0),
  (110, .if_icmp .ge 12, 113, 122, 0, 0),
  (113, .iload 9, 115, 0, 0, 0),
  (115, .ifCond .le 7, 118, 122, 0, 0),
  (118, .iconst 1, 119, 0, 1, 0),
  (119, .goto 4, 122, 123, 0, 0),
  (122, .iconst 0, 123, 0, 0, 0),
  (123, .iastore, 124, 0, 0, 0),
  (124, .iload 7, 126, 0, 0, 0),
  (126, .aload_n 0, 127, 0, 0, 0),
  (127, .getfield 9, 130, 704, 0, 1045),
  (130, .bipush 24, 132, 0, 24, 0),
  (132, .iload 8, 134, 0, 0, 0),
  (134, .iadd, 135, 0, 0, 0),
  (135, .iaload, 136, 0, 0, 0),
  (136, .iadd, 137, 0, 0, 0),
  (137, .istore 7, 139, 0, 0, 0),
  (139, .iload 5, 141, 0, 0, 0),
  (141, .iload 4, 143, 0, 0, 0),
  (143, .iadd, 144, 0, 0, 0),
  (144, .istore 5, 146, 0, 0, 0),
  (146, .iinc 6 1, 149, 0, 1, 0),
  (149, .iinc 8 1, 152, 0, 1, 0),
  (152, .goto (-106), 155, 46, 0, 0),
  (155, .iload_n 1, 156, 0, 0, 0),
  (156, .iconst 3, 157, 0, 3, 0),
  (157, .if_icmp .ne 8, 160, 165, 0, 0),
  (160, .bipush (-3), 162, 0, (-3), 0),
  (162, .goto 5, 165, 167, 0, 0),
  (165, .iload 7, 167, 0, 0, 0),
  (167, .ireturn, 168, 0, 0, 0)]
def kX11_lay : List mj_E := [
  (0, .iconst 0, 1, 0, 0, 0),
  (1, .istore_n 3, 2, 0, 0, 0),
  (2, .iload_n 3, 3, 0, 0, 0),
  (3, .bipush 43, 5, 0, 43, 0),
  (5, .if_icmp .ge 17, 8, 22, 0, 0),
  (8, .aload_n 1, 9, 0, 0, 0),
  (9, .iload_n 2, 10, 0, 0, 0),
  (10, .iload_n 3, 11, 0, 0, 0),
  (11, .iadd, 12, 0, 0, 0),
  (12, .aload_n 0, 13, 0, 0, 0),
  (13, .iload_n 3, 14, 0, 0, 0),
  (14, .iaload, 15, 0, 0, 0),
  (15, .iastore, 16, 0, 0, 0),
  (16, .iinc 3 1, 19, 0, 1, 0),
  (19, .goto (-17), 22, 2, 0, 0),
  (22, .return_, 23, 0, 0, 0)]
def kX11_remember : List mj_E := [
  (0, .aload_n 0, 1, 0, 0, 0),
  (1, .getfield 249, 4, 723, 0, 1064),
  (4, .bipush 12, 6, 0, 12, 0),
  (6, .if_icmp .ne 43, 9, 49, 0, 0),
  (9, .iconst 0, 10, 0, 0, 0),
  (10, .istore_n 2, 11, 0, 0, 0),
  (11, .iload_n 2, 12, 0, 0, 0),
  (12, .sipush 473, 15, 0, 473, 0),
  (15, .if_icmp .ge 24, 18, 39, 0, 0),
  (18, .aload_n 0, 19, 0, 0, 0),
  (19, .getfield 37, 22, 722, 0, 1063),
  (22, .iload_n 2, 23, 0, 0, 0),
  (23, .aload_n 0, 24, 0, 0, 0),
  (24, .getfield 37, 27, 722, 0, 1063),
  (27, .iload_n 2, 28, 0, 0, 0),
  (28, .bipush 43, 30, 0, 43, 0),
  (30, .iadd, 31, 0, 0, 0),
  (31, .iaload, 32, 0, 0, 0),
  (32, .iastore, 33, 0, 0, 0),
  (33, .iinc 2 1, 36, 0, 1, 0),
  (36, .goto (-25), 39, 11, 0, 0),
  (39, .aload_n 0, 40, 0, 0, 0),
  (40, .dup, 41, 0, 0, 0),
  (41, .getfield 249, 44, 723, 0, 1064),
  (44, .iconst 1, 45, 0, 1, 0),
  (45, .isub, 46, 0, 0, 0),
  (46, .putfield 249, 49, 723, 0, 1064),
  (49, .aload_n 1, 50, 0, 0, 0),
  (50, .aload_n 0, 51, 0, 0, 0),
  (51, .getfield 37, 54, 722, 0, 1063),
  (54, .bipush 43, 56, 0, 43, 0),
  (56, .aload_n 0, 57, 0, 0, 0),
  (57, .getfield 249, 60, 723, 0, 1064),
  (60, .imul, 61, 0, 0, 0),
  (61, .invokestatic 225, 64, 170, 0, 1251),
  (64, .aload_n 0, 65, 0, 0, 0),
  (65, .dup, 66, 0, 0, 0),
  (66, .getfield 249, 69, 723, 0, 1064),
  (69, .iconst 1, 70, 0, 1, 0),
  (70, .iadd, 71, 0, 0, 0),
  (71, .putfield 249, 74, 723, 0, 1064),
  (74, .return_, 75, 0, 0, 0)]
def kX11_goSlot : List mj_E := [
  (0, .aload_n 0, 1, 0, 0, 0),
  (1, .aload_n 0, 2, 0, 0, 0),
  (2, .aload_n 1, 3, 0, 0, 0),
  (3, .iload_n 2, 4, 0, 0, 0),
  (4, .invokevirtual 252, 7, 150, 0, 1320),
  (7, .putfield 256, 10, 726, 0, 1067),
  (10, .iconst 0, 11, 0, 0, 0),
  (11, .istore_n 3, 12, 0, 0, 0),
  (12, .iconst 0, 13, 0, 0, 0),
  (13, .istore 4, 15, 0, 0, 0),
  (15, .iload 4, 17, 0, 0, 0),
  (17, .aload_n 0, 18, 0, 0, 0),
  (18, .getfield 256, 21, 726, 0, 1067),
  (21, .aload_n 1, 22, 0, 0, 0),
  (22, .bipush 40, 24, 0, 40, 0),
  (24, .iaload, 25, 0, 0, 0),
  (25, .invokestatic 259, 28, 240, 0, 1337),
  (28, .if_icmp .ge 21, 31, 49, 0, 0),
  (31, .iload_n 3, 32, 0, 0, 0),
  (32, .iconst 1, 33, 0, 1, 0),
  (33, .aload_n 0, 34, 0, 0, 0),
  (34, .getfield 31, 37, 715, 0, 1056),
  (37, .iload 4, 39, 0, 0, 0),
  (39, .iaload, 40, 0, 0, 0),
  (40, .ishl, 41, 0, 0, 0),
  (41, .ior, 42, 0, 0, 0),
  (42, .istore_n 3, 43, 0, 0, 0),
  (43, .iinc 4 1, 46, 0, 1, 0),
  (46, .goto (-31), 49, 15, 0, 0),
  (49, .aload_n 0, 50, 0, 0, 0),
  (50, .iconst 0, 51, 0, 0, 0),
  (51, .putfield 263, 54, 727, 0, 1068),
  (54, .iconst 0, 55, 0, 0, 0),
  (55, .istore 4, 57, 0, 0, 0),
  (57, .iload 4, 59, 0, 0, 0),
  (59, .bipush 8, 61, 0, 8, 0),
  (61, .if_icmp .ge 29, 64, 90, 0, 0),
  (64, .iload_n 3, 65, 0, 0, 0),
  (65, .iload 4, 67, 0, 0, 0),
  (67, .invokestatic 150, 70, 133, 0, 1324),
  (70, .ifCond .eq 14, 73, 84, 0, 0),
  (73, .aload_n 1, 74, 0, 0, 0),
  (74, .bipush 32, 76, 0, 32, 0),
  (76, .iload 4, 78, 0, 0, 0),
  (78, .iadd, 79, 0, 0, 0),
  (79, .dup2, 80, 0, 0, 0),
  (80, .iaload, 81, 0, 0, 0),
  (81, .iconst 1, 82, 0, 1, 0),
  (82, .iadd, 83, 0, 0, 0),
  (83, .iastore, 84, 0, 0, 0),
  (84, .iinc 4 1, 87, 0, 1, 0),
  (87, .goto (-30), 90, 57, 0, 0),
  (90, .iconst 0, 91, 0, 0, 0),
  (91, .istore 4, 93, 0, 0, 0),
  (93, .iload 4, 95, 0, 0, 0),
  (95, .bipush 8, 97, 0, 8, 0),
  (97, .if_icmp .ge 55, 100, 152, 0, 0),
  (100, .aload_n 1, 101, 0, 0, 0),
  (101, .iload 4, 103, 0, 0, 0),
  (103, .invokestatic 105, 106, 136, 0, 1215),
  (106, .ifCond .eq 40, 109, 146, 0, 0),
  (109, .aload_n 1, 110, 0, 0, 0),
  (110, .iload 4, 112, 0, 0, 0),
  (112, .aload_n 1, 113, 0, 0, 0),
  (113, .bipush 32, 115, 0, 32, 0),
  (115, .iload 4, 117, 0, 0, 0),
  (117, .iadd, 118, 0, 0, 0),
  (118, .iaload, 119, 0, 0, 0),
  (119, .iconst 1, 120, 0, 1, 0),
  (120, .iadd, 121, 0, 0, 0),
  (121, .invokestatic 130, 124, 143, 0, 1296),
  (124, .aload_n 1, 125, 0, 0, 0),
  (125, .bipush 41, 127, 0, 41, 0),
  (127, .iaload, 128, 0, 0, 0),
  (128, .iconst 1, 129, 0, 1, 0),
  (129, .iadd, 130, 0, 0, 0),
  (130, .if_icmp .ne 16, 133, 146, 0, 0),
  (133, .aload_n 0, 134, 0, 0, 0),
  (134, .dup, 135, 0, 0, 0),
  (135, .getfield 263, 138, 727, 0, 1068),
  (138, .iconst 1, 139, 0, 1, 0),
  (139, .iload 4, 141, 0, 0, 0),
  (141, .ishl, 142, 0, 0, 0),
  (142, .ior, 143, 0, 0, 0),
  (143, .putfield 263, 146, 727, 0, 1068),
  (146, .iinc 4 1, 149, 0, 1, 0),
  (149, .goto (-56), 152, 93, 0, 0),
  (152, .aload_n 1, 153, 0, 0, 0),
  (153, .bipush 42, 155, 0, 42, 0),
  (155, .dup2, 156, 0, 0, 0),
  (156, .iaload, 157, 0, 0, 0),
  (157, .aload_n 0, 158, 0, 0, 0),
  (158, .getfield 263, 161, 727, 0, 1068),
  (161, .invokestatic 213, 164, 236, 0, 1218),
  (164, .iadd, 165, 0, 0, 0),
  (165, .iastore, 166, 0, 0, 0),
  (166, .aload_n 1, 167, 0, 0, 0),
  (167, .bipush 41, 169, 0, 41, 0),
  (169, .dup2, 170, 0, 0, 0),
  (170, .iaload, 171, 0, 0, 0),
  (171, .iconst 1, 172, 0, 1, 0),
  (172, .iadd, 173, 0, 0, 0),
  (173, .iastore, 174, 0, 0, 0),
  (174, .iload_n 3, 175, 0, 0, 0),
  (175, .ireturn, 176, 0, 0, 0)]
def kX11_slot : List mj_E := [
  (0, .aload_n 0, 1, 0, 0, 0),
  (1, .iconst 0, 2, 0, 0, 0),
  (2, .putfield 95, 5, 709, 0, 1050),
  (5, .aload_n 0, 6, 0, 0, 0),
  (6, .aload_n 0, 7, 0, 0, 0),
  (7, .getfield 9, 10, 704, 0, 1045),
  (10, .invokevirtual 233, 13, 171, 0, 1262),
  (13, .aload_n 0, 14, 0, 0, 0),
  (14, .aload_n 0, 15, 0, 0, 0),
  (15, .getfield 9, 18, 704, 0, 1045),
  (18, .iconst (-1), 19, 0, (-1), 0),
  (19, .invokevirtual 266, 22, 172, 0, 1316),
  (22, .istore_n 1, 23, 0, 0, 0),
  (23, .aload_n 0, 24, 0, 0, 0),
  (24, .iconst 0, 25, 0, 0, 0),
  (25, .putfield 98, 28, 708, 0, 1049),
  (28, .aload_n 0, 29, 0, 0, 0),
  (29, .aload_n 0, 30, 0, 0, 0),
  (30, .getfield 263, 33, 727, 0, 1068),
  (33, .invokestatic 213, 36, 236, 0, 1218),
  (36, .i2l, 37, 0, 0, 0),
  (37, .invokevirtual 119, 40, 135, 0, 1338),
  (40, .aload_n 0, 41, 0, 0, 0),
  (41, .aload_n 0, 42, 0, 0, 0),
  (42, .getfield 256, 45, 726, 0, 1067),
  (45, .i2l, 46, 0, 0, 0),
  (46, .invokevirtual 119, 49, 135, 0, 1338),
  (49, .iload_n 1, 50, 0, 0, 0),
  (50, .ireturn, 51, 0, 0, 0)]
def kX11_goSlots : List mj_E := [
  (0, .iconst 0, 1, 0, 0, 0),
  (1, .istore_n 3, 2, 0, 0, 0),
  (2, .aload_n 0, 3, 0, 0, 0),
  (3, .iconst 0, 4, 0, 0, 0),
  (4, .putfield 269, 7, 728, 0, 1069),
  (7, .iconst 0, 8, 0, 0, 0),
  (8, .istore 4, 10, 0, 0, 0),
  (10, .iload 4, 12, 0, 0, 0),
  (12, .iload_n 2, 13, 0, 0, 0),
  (13, .if_icmp .ge 48, 16, 61, 0, 0),
  (16, .aload_n 0, 17, 0, 0, 0),
  (17, .aload_n 1, 18, 0, 0, 0),
  (18, .iconst (-1), 19, 0, (-1), 0),
  (19, .invokevirtual 266, 22, 172, 0, 1316),
  (22, .invokestatic 213, 25, 236, 0, 1218),
  (25, .istore 5, 27, 0, 0, 0),
  (27, .iload_n 3, 28, 0, 0, 0),
  (28, .iload 5, 30, 0, 0, 0),
  (30, .iadd, 31, 0, 0, 0),
  (31, .istore_n 3, 32, 0, 0, 0),
  (32, .aload_n 0, 33, 0, 0, 0),
  (33, .dup, 34, 0, 0, 0),
  (34, .getfield 269, 37, 728, 0, 1069),
  (37, .iload 5, 39, 0, 0, 0),
  (39, .aload_n 1, 40, 0, 0, 0),
  (40, .bipush 40, 42, 0, 40, 0),
  (42, .iaload, 43, 0, 0, 0),
  (43, .if_icmp .ge 7, 46, 50, 0, 0),
  (46, .iconst 1, 47, 0, 1, 0),
  (47, .goto 4, 50, 51, 0, 0),
  (50, .iconst 0, 51, 0, 0, 0),
  (51, .iadd, 52, 0, 0, 0),
  (52, .putfield 269, 55, 728, 0, 1069),
  (55, .iinc 4 1, 58, 0, 1, 0),
  (58, .goto (-48), 61, 10, 0, 0),
  (61, .iload_n 3, 62, 0, 0, 0),
  (62, .ireturn, 63, 0, 0, 0)]
def kX11_slots : List mj_E := [
  (0, .aload_n 0, 1, 0, 0, 0),
  (1, .iconst 0, 2, 0, 0, 0),
  (2, .putfield 95, 5, 709, 0, 1050),
  (5, .iload_n 1, 6, 0, 0, 0),
  (6, .iconst 0, 7, 0, 0, 0),
  (7, .bipush 60, 9, 0, 60, 0),
  (9, .invokestatic 101, 12, 132, 0, 1197),
  (12, .ifCond .ne 5, 15, 17, 0, 0),
  (15, .iconst (-1), 16, 0, (-1), 0),
  (16, .ireturn, 17, 0, 0, 0),
  (17, .aload_n 0, 18, 0, 0, 0),
  (18, .aload_n 0, 19, 0, 0, 0),
  (19, .getfield 9, 22, 704, 0, 1045),
  (22, .invokevirtual 233, 25, 171, 0, 1262),
  (25, .aload_n 0, 26, 0, 0, 0),
  (26, .getfield 9, 29, 704, 0, 1045),
  (29, .bipush 42, 31, 0, 42, 0),
  (31, .iaload, 32, 0, 0, 0),
  (32, .istore_n 2, 33, 0, 0, 0),
  (33, .aload_n 0, 34, 0, 0, 0),
  (34, .aload_n 0, 35, 0, 0, 0),
  (35, .getfield 9, 38, 704, 0, 1045),
  (38, .iload_n 1, 39, 0, 0, 0),
  (39, .invokevirtual 272, 42, 174, 0, 1346),
  (42, .istore_n 3, 43, 0, 0, 0),
  (43, .aload_n 0, 44, 0, 0, 0),
  (44, .iconst 0, 45, 0, 0, 0),
  (45, .putfield 98, 48, 708, 0, 1049),
  (48, .aload_n 0, 49, 0, 0, 0),
  (49, .aload_n 0, 50, 0, 0, 0),
  (50, .getfield 9, 53, 704, 0, 1045),
  (53, .bipush 42, 55, 0, 42, 0),
  (55, .iaload, 56, 0, 0, 0),
  (56, .iload_n 2, 57, 0, 0, 0),
  (57, .isub, 58, 0, 0, 0),
  (58, .i2l, 59, 0, 0, 0),
  (59, .invokevirtual 119, 62, 135, 0, 1338),
  (62, .aload_n 0, 63, 0, 0, 0),
  (63, .aload_n 0, 64, 0, 0, 0),
  (64, .getfield 269, 67, 728, 0, 1069),
  (67, .i2l, 68, 0, 0, 0),
  (68, .invokevirtual 119, 71, 135, 0, 1338),
  (71, .iload_n 3, 72, 0, 0, 0),
  (72, .ireturn, 73, 0, 0, 0)]
def kX11_refusesProcessors : List mj_E := [
  (0, .iload_n 1, 1, 0, 0, 0),
  (1, .iconst 1, 2, 0, 1, 0),
  (2, .iconst 4, 3, 0, 4, 0),
  (3, .invokestatic 101, 6, 132, 0, 1197),
  (6, .ifCond .ne 5, 9, 11, 0, 0),
  (9, .iconst (-1), 10, 0, (-1), 0),
  (10, .ireturn, 11, 0, 0, 0),
  (11, .aload_n 0, 12, 0, 0, 0),
  (12, .getfield 9, 15, 704, 0, 1045),
  (15, .bipush 40, 17, 0, 40, 0),
  (17, .iaload, 18, 0, 0, 0),
  (18, .iload_n 1, 19, 0, 0, 0),
  (19, .if_icmp .ne 6, 22, 25, 0, 0),
  (22, .bipush (-2), 24, 0, (-2), 0),
  (24, .ireturn, 25, 0, 0, 0),
  (25, .aload_n 0, 26, 0, 0, 0),
  (26, .aload_n 0, 27, 0, 0, 0),
  (27, .getfield 9, 30, 704, 0, 1045),
  (30, .invokevirtual 229, 33, 141, 0, 1254),
  (33, .aload_n 0, 34, 0, 0, 0),
  (34, .getfield 123, 37, 713, 0, 1054),
  (37, .iload_n 1, 38, 0, 0, 0),
  (38, .i2l, 39, 0, 0, 0),
  (39, .aload_n 0, 40, 0, 0, 0),
  (40, .getfield 127, 43, 714, 0, 1055),
  (43, .lmul, 44, 0, 0, 0),
  (44, .lcmp, 45, 0, 0, 0),
  (45, .ifCond .le 8, 48, 53, 0, 0),
  (48, .bipush (-3), 50, 0, (-3), 0),
  (50, .goto 4, 53, 54, 0, 0),
  (53, .iconst 0, 54, 0, 0, 0),
  (54, .ireturn, 55, 0, 0, 0)]
def kX11_processors : List mj_E := [
  (0, .aload_n 0, 1, 0, 0, 0),
  (1, .iconst 0, 2, 0, 0, 0),
  (2, .putfield 95, 5, 709, 0, 1050),
  (5, .aload_n 0, 6, 0, 0, 0),
  (6, .iload_n 1, 7, 0, 0, 0),
  (7, .invokevirtual 275, 10, 176, 0, 1354),
  (10, .istore_n 2, 11, 0, 0, 0),
  (11, .iload_n 2, 12, 0, 0, 0),
  (12, .ifCond .ge 5, 15, 17, 0, 0),
  (15, .iload_n 2, 16, 0, 0, 0),
  (16, .ireturn, 17, 0, 0, 0),
  (17, .aload_n 0, 18, 0, 0, 0),
  (18, .aload_n 0, 19, 0, 0, 0),
  (19, .getfield 9, 22, 704, 0, 1045),
  (22, .invokevirtual 233, 25, 171, 0, 1262),
  (25, .aload_n 0, 26, 0, 0, 0),
  (26, .getfield 9, 29, 704, 0, 1045),
  (29, .bipush 40, 31, 0, 40, 0),
  (31, .iaload, 32, 0, 0, 0),
  (32, .istore_n 3, 33, 0, 0, 0),
  (33, .aload_n 0, 34, 0, 0, 0),
  (34, .getfield 9, 37, 704, 0, 1045),
  (37, .bipush 40, 39, 0, 40, 0),
  (39, .iload_n 1, 40, 0, 0, 0),
  (40, .iastore, 41, 0, 0, 0),
  (41, .bipush 10, 43, 0, 10, 0),
  (43, .iload_n 3, 44, 0, 0, 0),
  (44, .iadd, 45, 0, 0, 0),
  (45, .ireturn, 46, 0, 0, 0)]
def kX11_refusesLeaving : List mj_E := [
  (0, .iload_n 1, 1, 0, 0, 0),
  (1, .iconst 0, 2, 0, 0, 0),
  (2, .bipush 7, 4, 0, 7, 0),
  (4, .invokestatic 101, 7, 132, 0, 1197),
  (7, .ifCond .eq 11, 10, 18, 0, 0),
  (10, .aload_n 0, 11, 0, 0, 0),
  (11, .iload_n 1, 12, 0, 0, 0),
  (12, .invokestatic 105, 15, 136, 0, 1215),
  (15, .ifCond .ne 5, 18, 20, 0, 0),
  (18, .iconst (-1), 19, 0, (-1), 0),
  (19, .ireturn, 20, 0, 0, 0),
  (20, .aload_n 0, 21, 0, 0, 0),
  (21, .bipush 32, 23, 0, 32, 0),
  (23, .iload_n 1, 24, 0, 0, 0),
  (24, .iadd, 25, 0, 0, 0),
  (25, .iaload, 26, 0, 0, 0),
  (26, .istore_n 2, 27, 0, 0, 0),
  (27, .iload_n 2, 28, 0, 0, 0),
  (28, .ifCond .ne 5, 31, 33, 0, 0),
  (31, .iconst 0, 32, 0, 0, 0),
  (32, .ireturn, 33, 0, 0, 0),
  (33, .aload_n 0, 34, 0, 0, 0),
  (34, .iload_n 1, 35, 0, 0, 0),
  (35, .iload_n 2, 36, 0, 0, 0),
  (36, .invokestatic 143, 39, 146, 0, 1302),
  (39, .istore_n 3, 40, 0, 0, 0),
  (40, .iload_n 3, 41, 0, 0, 0),
  (41, .ifCond .eq 7, 44, 48, 0, 0),
  (44, .iload_n 3, 45, 0, 0, 0),
  (45, .goto 16, 48, 61, 0, 0),
  (48, .aload_n 0, 49, 0, 0, 0),
  (49, .iload_n 1, 50, 0, 0, 0),
  (50, .iload_n 2, 51, 0, 0, 0),
  (51, .invokestatic 130, 54, 143, 0, 1296),
  (54, .aload_n 0, 55, 0, 0, 0),
  (55, .iload_n 1, 56, 0, 0, 0),
  (56, .iload_n 2, 57, 0, 0, 0),
  (57, .invokestatic 140, 60, 144, 0, 1299),
  (60, .iadd, 61, 0, 0, 0),
  (61, .istore 4, 63, 0, 0, 0),
  (63, .aload_n 0, 64, 0, 0, 0),
  (64, .bipush 41, 66, 0, 41, 0),
  (66, .iaload, 67, 0, 0, 0),
  (67, .iload 4, 69, 0, 0, 0),
  (69, .if_icmp .ge 8, 72, 77, 0, 0),
  (72, .bipush (-3), 74, 0, (-3), 0),
  (74, .goto 4, 77, 78, 0, 0),
  (77, .iconst 0, 78, 0, 0, 0),
  (78, .ireturn, 79, 0, 0, 0)]
def kX11_goLeave : List mj_E := [
  (0, .aload_n 0, 1, 0, 0, 0),
  (1, .iload_n 1, 2, 0, 0, 0),
  (2, .iconst 0, 3, 0, 0, 0),
  (3, .iastore, 4, 0, 0, 0),
  (4, .aload_n 0, 5, 0, 0, 0),
  (5, .bipush 8, 7, 0, 8, 0),
  (7, .iload_n 1, 8, 0, 0, 0),
  (8, .iadd, 9, 0, 0, 0),
  (9, .iconst 0, 10, 0, 0, 0),
  (10, .iastore, 11, 0, 0, 0),
  (11, .aload_n 0, 12, 0, 0, 0),
  (12, .bipush 16, 14, 0, 16, 0),
  (14, .iload_n 1, 15, 0, 0, 0),
  (15, .iadd, 16, 0, 0, 0),
  (16, .iconst 0, 17, 0, 0, 0),
  (17, .iastore, 18, 0, 0, 0),
  (18, .aload_n 0, 19, 0, 0, 0),
  (19, .bipush 24, 21, 0, 24, 0),
  (21, .iload_n 1, 22, 0, 0, 0),
  (22, .iadd, 23, 0, 0, 0),
  (23, .iconst 0, 24, 0, 0, 0),
  (24, .iastore, 25, 0, 0, 0),
  (25, .aload_n 0, 26, 0, 0, 0),
  (26, .bipush 32, 28, 0, 32, 0),
  (28, .iload_n 1, 29, 0, 0, 0),
  (29, .iadd, 30, 0, 0, 0),
  (30, .iconst 0, 31, 0, 0, 0),
  (31, .iastore, 32, 0, 0, 0),
  (32, .aload_n 0, 33, 0, 0, 0),
  (33, .invokestatic 209, 36, 138, 0, 1212),
  (36, .invokestatic 213, 39, 236, 0, 1218),
  (39, .ireturn, 40, 0, 0, 0)]
def kX11_leaves : List mj_E := [
  (0, .aload_n 0, 1, 0, 0, 0),
  (1, .iconst 0, 2, 0, 0, 0),
  (2, .putfield 95, 5, 709, 0, 1050),
  (5, .aload_n 0, 6, 0, 0, 0),
  (6, .getfield 9, 9, 704, 0, 1045),
  (9, .iload_n 1, 10, 0, 0, 0),
  (10, .invokestatic 278, 13, 178, 0, 1362),
  (13, .istore_n 2, 14, 0, 0, 0),
  (14, .iload_n 2, 15, 0, 0, 0),
  (15, .ifCond .ge 5, 18, 20, 0, 0),
  (18, .iload_n 2, 19, 0, 0, 0),
  (19, .ireturn, 20, 0, 0, 0),
  (20, .aload_n 0, 21, 0, 0, 0),
  (21, .aload_n 0, 22, 0, 0, 0),
  (22, .getfield 9, 25, 704, 0, 1045),
  (25, .invokevirtual 233, 28, 171, 0, 1262),
  (28, .aload_n 0, 29, 0, 0, 0),
  (29, .getfield 9, 32, 704, 0, 1045),
  (32, .iload_n 1, 33, 0, 0, 0),
  (33, .invokestatic 281, 36, 179, 0, 1365),
  (36, .ireturn, 37, 0, 0, 0)]
def kX11_hurries : List mj_E := [
  (0, .aload_n 0, 1, 0, 0, 0),
  (1, .iconst 0, 2, 0, 0, 0),
  (2, .putfield 95, 5, 709, 0, 1050),
  (5, .aload_n 0, 6, 0, 0, 0),
  (6, .iload_n 1, 7, 0, 0, 0),
  (7, .invokevirtual 243, 10, 137, 0, 1281),
  (10, .ifCond .ne 5, 13, 15, 0, 0),
  (13, .iconst (-1), 14, 0, (-1), 0),
  (14, .ireturn, 15, 0, 0, 0),
  (15, .aload_n 0, 16, 0, 0, 0),
  (16, .aload_n 0, 17, 0, 0, 0),
  (17, .getfield 9, 20, 704, 0, 1045),
  (20, .invokevirtual 233, 23, 171, 0, 1262),
  (23, .aload_n 0, 24, 0, 0, 0),
  (24, .getfield 9, 27, 704, 0, 1045),
  (27, .bipush 24, 29, 0, 24, 0),
  (29, .iload_n 1, 30, 0, 0, 0),
  (30, .iadd, 31, 0, 0, 0),
  (31, .iconst 1, 32, 0, 1, 0),
  (32, .aload_n 0, 33, 0, 0, 0),
  (33, .getfield 9, 36, 704, 0, 1045),
  (36, .bipush 24, 38, 0, 24, 0),
  (38, .iload_n 1, 39, 0, 0, 0),
  (39, .iadd, 40, 0, 0, 0),
  (40, .iaload, 41, 0, 0, 0),
  (41, .isub, 42, 0, 0, 0),
  (42, .iastore, 43, 0, 0, 0),
  (43, .aload_n 0, 44, 0, 0, 0),
  (44, .getfield 9, 47, 704, 0, 1045),
  (47, .bipush 24, 49, 0, 24, 0),
  (49, .iload_n 1, 50, 0, 0, 0),
  (50, .iadd, 51, 0, 0, 0),
  (51, .iaload, 52, 0, 0, 0),
  (52, .ireturn, 53, 0, 0, 0)]
def kX11_shift : List mj_E := [
  (0, .aload_n 0, 1, 0, 0, 0),
  (1, .iconst 0, 2, 0, 0, 0),
  (2, .putfield 95, 5, 709, 0, 1050),
  (5, .aload_n 0, 6, 0, 0, 0),
  (6, .bipush 60, 8, 0, 60, 0),
  (8, .invokevirtual 206, 11, 154, 0, 1204),
  (11, .iconst 0, 12, 0, 0, 0),
  (12, .istore_n 1, 13, 0, 0, 0),
  (13, .aload_n 0, 14, 0, 0, 0),
  (14, .invokevirtual 183, 17, 156, 0, 1219),
  (17, .ifCond .eq 27, 20, 44, 0, 0),
  (20, .aload_n 0, 21, 0, 0, 0),
  (21, .getfield 173, 24, 719, 0, 1060),
  (24, .aload_n 0, 25, 0, 0, 0),
  (25, .getfield 167, 28, 717, 0, 1058),
  (28, .if_icmp .ge 16, 31, 44, 0, 0),
  (31, .aload_n 0, 32, 0, 0, 0),
  (32, .iconst 2, 33, 0, 2, 0),
  (33, .iload_n 1, 34, 0, 0, 0),
  (34, .imul, 35, 0, 0, 0),
  (35, .invokevirtual 284, 38, 183, 0, 1376),
  (38, .iinc 1 1, 41, 0, 1, 0),
  (41, .goto (-28), 44, 13, 0, 0),
  (44, .aload_n 0, 45, 0, 0, 0),
  (45, .invokevirtual 222, 48, 160, 0, 1247),
  (48, .ifCond .ne 10, 51, 58, 0, 0),
  (51, .iconst (-1), 52, 0, (-1), 0),
  (52, .aload_n 0, 53, 0, 0, 0),
  (53, .getfield 176, 56, 720, 0, 1061),
  (56, .isub, 57, 0, 0, 0),
  (57, .ireturn, 58, 0, 0, 0),
  (58, .aload_n 0, 59, 0, 0, 0),
  (59, .getfield 9, 62, 704, 0, 1045),
  (62, .aload_n 0, 63, 0, 0, 0),
  (63, .getfield 40, 66, 724, 0, 1065),
  (66, .iconst 0, 67, 0, 0, 0),
  (67, .invokestatic 225, 70, 170, 0, 1251),
  (70, .iconst 0, 71, 0, 0, 0),
  (71, .istore_n 2, 72, 0, 0, 0),
  (72, .iload_n 2, 73, 0, 0, 0),
  (73, .iload_n 1, 74, 0, 0, 0),
  (74, .if_icmp .ge 34, 77, 108, 0, 0),
  (77, .aload_n 0, 78, 0, 0, 0),
  (78, .aload_n 0, 79, 0, 0, 0),
  (79, .getfield 46, 82, 729, 0, 1070),
  (82, .iconst 2, 83, 0, 2, 0),
  (83, .iload_n 2, 84, 0, 0, 0),
  (84, .imul, 85, 0, 0, 0),
  (85, .iaload, 86, 0, 0, 0),
  (86, .aload_n 0, 87, 0, 0, 0),
  (87, .getfield 46, 90, 729, 0, 1070),
  (90, .iconst 2, 91, 0, 2, 0),
  (91, .iload_n 2, 92, 0, 0, 0),
  (92, .imul, 93, 0, 0, 0),
  (93, .iconst 1, 94, 0, 1, 0),
  (94, .iadd, 95, 0, 0, 0),
  (95, .iaload, 96, 0, 0, 0),
  (96, .invokevirtual 287, 99, 184, 0, 1380),
  (99, .ifCond .eq 9, 102, 108, 0, 0),
  (102, .iinc 2 1, 105, 0, 1, 0),
  (105, .goto (-33), 108, 72, 0, 0),
  (108, .iload_n 2, 109, 0, 0, 0),
  (109, .ifCond .le 11, 112, 120, 0, 0),
  (112, .aload_n 0, 113, 0, 0, 0),
  (113, .aload_n 0, 114, 0, 0, 0),
  (114, .getfield 40, 117, 724, 0, 1065),
  (117, .invokevirtual 233, 120, 171, 0, 1262),
  (120, .aload_n 0, 121, 0, 0, 0),
  (121, .iconst 0, 122, 0, 0, 0),
  (122, .putfield 98, 125, 708, 0, 1049),
  (125, .aload_n 0, 126, 0, 0, 0),
  (126, .iload_n 2, 127, 0, 0, 0),
  (127, .iload_n 1, 128, 0, 0, 0),
  (128, .if_icmp .ge 7, 131, 135, 0, 0),
  (131, .lconst 1, 132, 0, 0, 0),
  (132, .goto 4, 135, 136, 0, 0),
  (135, .lconst 0, 136, 0, 0, 0),
  (136, .invokevirtual 119, 139, 135, 0, 1338),
  (139, .aload_n 0, 140, 0, 0, 0),
  (140, .aload_n 0, 141, 0, 0, 0),
  (141, .getfield 9, 144, 704, 0, 1045),
  (144, .bipush 41, 146, 0, 41, 0),
  (146, .iaload, 147, 0, 0, 0),
  (147, .i2l, 148, 0, 0, 0),
  (148, .invokevirtual 119, 151, 135, 0, 1338),
  (151, .iload_n 2, 152, 0, 0, 0),
  (152, .ireturn, 153, 0, 0, 0)]
def kX11_readAct : List mj_E := [
  (0, .aload_n 0, 1, 0, 0, 0),
  (1, .invokevirtual 187, 4, 155, 0, 1239),
  (4, .istore_n 2, 5, 0, 0, 0),
  (5, .iload_n 2, 6, 0, 0, 0),
  (6, .bipush 42, 8, 0, 42, 0),
  (8, .if_icmp .eq 36, 11, 44, 0, 0),
  (11, .iload_n 2, 12, 0, 0, 0),
  (12, .bipush 110, 14, 0, 110, 0),
  (14, .if_icmp .eq 30, 17, 44, 0, 0),
  (17, .iload_n 2, 18, 0, 0, 0),
  (18, .bipush 112, 20, 0, 112, 0),
  (20, .if_icmp .eq 24, 23, 44, 0, 0),
  (23, .iload_n 2, 24, 0, 0, 0),
  (24, .bipush 108, 26, 0, 108, 0),
  (26, .if_icmp .eq 18, 29, 44, 0, 0),
  (29, .iload_n 2, 30, 0, 0, 0),
  (30, .bipush 104, 32, 0, 104, 0),
  (32, .if_icmp .eq 12, 35, 44, 0, 0),
  (35, .aload_n 0, 36, 0, 0, 0),
  (36, .aload_n 0, 37, 0, 0, 0),
  (37, .getfield 173, 40, 719, 0, 1060),
  (40, .invokevirtual 195, 43, 157, 0, 1223),
  (43, .return_, 44, 0, 0, 0),
  (44, .aload_n 0, 45, 0, 0, 0),
  (45, .dup, 46, 0, 0, 0),
  (46, .getfield 173, 49, 719, 0, 1060),
  (49, .iconst 1, 50, 0, 1, 0),
  (50, .iadd, 51, 0, 0, 0),
  (51, .putfield 173, 54, 719, 0, 1060),
  (54, .aload_n 0, 55, 0, 0, 0),
  (55, .getfield 46, 58, 729, 0, 1070),
  (58, .iload_n 1, 59, 0, 0, 0),
  (59, .iload_n 2, 60, 0, 0, 0),
  (60, .iastore, 61, 0, 0, 0),
  (61, .iload_n 2, 62, 0, 0, 0),
  (62, .bipush 42, 64, 0, 42, 0),
  (64, .if_icmp .ne 4, 67, 68, 0, 0),
  (67, .return_, 68, 0, 0, 0),
  (68, .aload_n 0, 69, 0, 0, 0),
  (69, .bipush 48, 71, 0, 48, 0),
  (71, .bipush 10, 73, 0, 10, 0),
  (73, .invokevirtual 199, 76, 159, 0, 1235),
  (76, .istore_n 3, 77, 0, 0, 0),
  (77, .aload_n 0, 78, 0, 0, 0),
  (78, .getfield 46, 81, 729, 0, 1070),
  (81, .iload_n 1, 82, 0, 0, 0),
  (82, .iconst 1, 83, 0, 1, 0),
  (83, .iadd, 84, 0, 0, 0),
  (84, .iload_n 2, 85, 0, 0, 0),
  (85, .bipush 110, 87, 0, 110, 0),
  (87, .if_icmp .ne 19, 90, 106, 0, 0),
  (90, .bipush 10, 92, 0, 10, 0),
  (92, .iload_n 3, 93, 0, 0, 0),
  (93, .imul, 94, 0, 0, 0),
  (94, .aload_n 0, 95, 0, 0, 0),
  (95, .bipush 48, 97, 0, 48, 0),
  (97, .bipush 10, 99, 0, 10, 0),
  (99, .invokevirtual 199, 102, 159, 0, 1235),
  (102, .iadd, 103, 0, 0, 0),
  (103, .goto 4, 106, 107, 0, 0),
  (106, .iload_n 3, 107, 0, 0, 0),
  (107, .iastore, 108, 0, 0, 0),
  (108, .return_, 109, 0, 0, 0)]
def kX11_act : List mj_E := [
  (0, .iload_n 1, 1, 0, 0, 0),
  (1, .lookupswitch 119 #[(42, 43), (108, 95), (110, 55), (112, 75)], 44, 0, 0, 0),
  (44, .aload_n 0, 45, 0, 0, 0),
  (45, .aload_n 0, 46, 0, 0, 0),
  (46, .getfield 9, 49, 704, 0, 1045),
  (49, .iconst (-1), 50, 0, (-1), 0),
  (50, .invokevirtual 266, 53, 172, 0, 1316),
  (53, .pop, 54, 0, 0, 0),
  (54, .iconst 1, 55, 0, 1, 0),
  (55, .ireturn, 56, 0, 0, 0),
  (56, .iload_n 2, 57, 0, 0, 0),
  (57, .bipush 60, 59, 0, 60, 0),
  (59, .if_icmp .le 5, 62, 64, 0, 0),
  (62, .iconst 0, 63, 0, 0, 0),
  (63, .ireturn, 64, 0, 0, 0),
  (64, .aload_n 0, 65, 0, 0, 0),
  (65, .aload_n 0, 66, 0, 0, 0),
  (66, .getfield 9, 69, 704, 0, 1045),
  (69, .iload_n 2, 70, 0, 0, 0),
  (70, .invokevirtual 272, 73, 174, 0, 1346),
  (73, .pop, 74, 0, 0, 0),
  (74, .iconst 1, 75, 0, 1, 0),
  (75, .ireturn, 76, 0, 0, 0),
  (76, .aload_n 0, 77, 0, 0, 0),
  (77, .iload_n 2, 78, 0, 0, 0),
  (78, .invokevirtual 275, 81, 176, 0, 1354),
  (81, .ifCond .ge 5, 84, 86, 0, 0),
  (84, .iconst 0, 85, 0, 0, 0),
  (85, .ireturn, 86, 0, 0, 0),
  (86, .aload_n 0, 87, 0, 0, 0),
  (87, .getfield 9, 90, 704, 0, 1045),
  (90, .bipush 40, 92, 0, 40, 0),
  (92, .iload_n 2, 93, 0, 0, 0),
  (93, .iastore, 94, 0, 0, 0),
  (94, .iconst 1, 95, 0, 1, 0),
  (95, .ireturn, 96, 0, 0, 0),
  (96, .aload_n 0, 97, 0, 0, 0),
  (97, .getfield 9, 100, 704, 0, 1045),
  (100, .iload_n 2, 101, 0, 0, 0),
  (101, .invokestatic 278, 104, 178, 0, 1362),
  (104, .ifCond .ge 5, 107, 109, 0, 0),
  (107, .iconst 0, 108, 0, 0, 0),
  (108, .ireturn, 109, 0, 0, 0),
  (109, .aload_n 0, 110, 0, 0, 0),
  (110, .getfield 9, 113, 704, 0, 1045),
  (113, .iload_n 2, 114, 0, 0, 0),
  (114, .invokestatic 281, 117, 179, 0, 1365),
  (117, .pop, 118, 0, 0, 0),
  (118, .iconst 1, 119, 0, 1, 0),
  (119, .ireturn, 120, 0, 0, 0),
  (120, .aload_n 0, 121, 0, 0, 0),
  (121, .iload_n 2, 122, 0, 0, 0),
  (122, .invokevirtual 243, 125, 137, 0, 1281),
  (125, .ifCond .ne 5, 128, 130, 0, 0),
  (128, .iconst 0, 129, 0, 0, 0),
  (129, .ireturn, 130, 0, 0, 0),
  (130, .aload_n 0, 131, 0, 0, 0),
  (131, .getfield 9, 134, 704, 0, 1045),
  (134, .bipush 24, 136, 0, 24, 0),
  (136, .iload_n 2, 137, 0, 0, 0),
  (137, .iadd, 138, 0, 0, 0),
  (138, .iconst 1, 139, 0, 1, 0),
  (139, .aload_n 0, 140, 0, 0, 0),
  (140, .getfield 9, 143, 704, 0, 1045),
  (143, .bipush 24, 145, 0, 24, 0),
  (145, .iload_n 2, 146, 0, 0, 0),
  (146, .iadd, 147, 0, 0, 0),
  (147, .iaload, 148, 0, 0, 0),
  (148, .isub, 149, 0, 0, 0),
  (149, .iastore, 150, 0, 0, 0),
  (150, .iconst 1, 151, 0, 1, 0),
  (151, .ireturn, 152, 0, 0, 0)]
def kX11_undo : List mj_E := [
  (0, .aload_n 0, 1, 0, 0, 0),
  (1, .iconst 0, 2, 0, 0, 0),
  (2, .putfield 95, 5, 709, 0, 1050),
  (5, .aload_n 0, 6, 0, 0, 0),
  (6, .getfield 249, 9, 723, 0, 1064),
  (9, .ifCond .ne 5, 12, 14, 0, 0),
  (12, .iconst (-1), 13, 0, (-1), 0),
  (13, .ireturn, 14, 0, 0, 0),
  (14, .aload_n 0, 15, 0, 0, 0),
  (15, .dup, 16, 0, 0, 0),
  (16, .getfield 249, 19, 723, 0, 1064),
  (19, .iconst 1, 20, 0, 1, 0),
  (20, .isub, 21, 0, 0, 0),
  (21, .putfield 249, 24, 723, 0, 1064),
  (24, .iconst 0, 25, 0, 0, 0),
  (25, .istore_n 1, 26, 0, 0, 0),
  (26, .iload_n 1, 27, 0, 0, 0),
  (27, .bipush 43, 29, 0, 43, 0),
  (29, .if_icmp .ge 29, 32, 58, 0, 0),
  (32, .aload_n 0, 33, 0, 0, 0),
  (33, .getfield 9, 36, 704, 0, 1045),
  (36, .iload_n 1, 37, 0, 0, 0),
  (37, .aload_n 0, 38, 0, 0, 0),
  (38, .getfield 37, 41, 722, 0, 1063),
  (41, .bipush 43, 43, 0, 43, 0),
  (43, .aload_n 0, 44, 0, 0, 0),
  (44, .getfield 249, 47, 723, 0, 1064),
  (47, .imul, 48, 0, 0, 0),
  (48, .iload_n 1, 49, 0, 0, 0),
  (49, .iadd, 50, 0, 0, 0),
  (50, .iaload, 51, 0, 0, 0),
  (51, .iastore, 52, 0, 0, 0),
  (52, .iinc 1 1, 55, 0, 1, 0),
  (55, .goto (-29), 58, 26, 0, 0),
  (58, .aload_n 0, 59, 0, 0, 0),
  (59, .getfield 249, 62, 723, 0, 1064),
  (62, .ireturn, 63, 0, 0, 0)]
def kX11_lagUp : List mj_E := [
  (0, .aload_n 0, 1, 0, 0, 0),
  (1, .bipush 41, 3, 0, 41, 0),
  (3, .iaload, 4, 0, 0, 0),
  (4, .aload_n 0, 5, 0, 0, 0),
  (5, .bipush 16, 7, 0, 16, 0),
  (7, .iload_n 1, 8, 0, 0, 0),
  (8, .iadd, 9, 0, 0, 0),
  (9, .iaload, 10, 0, 0, 0),
  (10, .isub, 11, 0, 0, 0),
  (11, .aload_n 0, 12, 0, 0, 0),
  (12, .iload_n 1, 13, 0, 0, 0),
  (13, .iaload, 14, 0, 0, 0),
  (14, .imul, 15, 0, 0, 0),
  (15, .aload_n 0, 16, 0, 0, 0),
  (16, .bipush 32, 18, 0, 32, 0),
  (18, .iload_n 1, 19, 0, 0, 0),
  (19, .iadd, 20, 0, 0, 0),
  (20, .iaload, 21, 0, 0, 0),
  (21, .aload_n 0, 22, 0, 0, 0),
  (22, .bipush 8, 24, 0, 8, 0),
  (24, .iload_n 1, 25, 0, 0, 0),
  (25, .iadd, 26, 0, 0, 0),
  (26, .iaload, 27, 0, 0, 0),
  (27, .imul, 28, 0, 0, 0),
  (28, .isub, 29, 0, 0, 0),
  (29, .ireturn, 30, 0, 0, 0)]
def kX11_lag : List mj_E := [
  (0, .aload_n 0, 1, 0, 0, 0),
  (1, .iconst 0, 2, 0, 0, 0),
  (2, .putfield 95, 5, 709, 0, 1050),
  (5, .aload_n 0, 6, 0, 0, 0),
  (6, .iload_n 1, 7, 0, 0, 0),
  (7, .invokevirtual 243, 10, 137, 0, 1281),
  (10, .ifCond .ne 5, 13, 15, 0, 0),
  (13, .iconst (-1), 14, 0, (-1), 0),
  (14, .ireturn, 15, 0, 0, 0),
  (15, .aload_n 0, 16, 0, 0, 0),
  (16, .iconst 0, 17, 0, 0, 0),
  (17, .putfield 98, 20, 708, 0, 1049),
  (20, .aload_n 0, 21, 0, 0, 0),
  (21, .aload_n 0, 22, 0, 0, 0),
  (22, .getfield 9, 25, 704, 0, 1045),
  (25, .iload_n 1, 26, 0, 0, 0),
  (26, .invokestatic 290, 29, 186, 0, 1392),
  (29, .i2l, 30, 0, 0, 0),
  (30, .aload_n 0, 31, 0, 0, 0),
  (31, .getfield 9, 34, 704, 0, 1045),
  (34, .bipush 8, 36, 0, 8, 0),
  (36, .iload_n 1, 37, 0, 0, 0),
  (37, .iadd, 38, 0, 0, 0),
  (38, .iaload, 39, 0, 0, 0),
  (39, .i2l, 40, 0, 0, 0),
  (40, .invokevirtual 293, 43, 140, 0, 1395),
  (43, .iconst 0, 44, 0, 0, 0),
  (44, .ireturn, 45, 0, 0, 0)]
def kX11_use : List mj_E := [
  (0, .aload_n 0, 1, 0, 0, 0),
  (1, .iconst 0, 2, 0, 0, 0),
  (2, .putfield 95, 5, 709, 0, 1050),
  (5, .aload_n 0, 6, 0, 0, 0),
  (6, .aload_n 0, 7, 0, 0, 0),
  (7, .getfield 9, 10, 704, 0, 1045),
  (10, .invokevirtual 229, 13, 141, 0, 1254),
  (13, .aload_n 0, 14, 0, 0, 0),
  (14, .iconst 0, 15, 0, 0, 0),
  (15, .putfield 98, 18, 708, 0, 1049),
  (18, .aload_n 0, 19, 0, 0, 0),
  (19, .aload_n 0, 20, 0, 0, 0),
  (20, .getfield 123, 23, 713, 0, 1054),
  (23, .aload_n 0, 24, 0, 0, 0),
  (24, .getfield 127, 27, 714, 0, 1055),
  (27, .invokevirtual 293, 30, 140, 0, 1395),
  (30, .aload_n 0, 31, 0, 0, 0),
  (31, .aload_n 0, 32, 0, 0, 0),
  (32, .getfield 9, 35, 704, 0, 1045),
  (35, .bipush 40, 37, 0, 40, 0),
  (37, .iaload, 38, 0, 0, 0),
  (38, .i2l, 39, 0, 0, 0),
  (39, .aload_n 0, 40, 0, 0, 0),
  (40, .getfield 127, 43, 714, 0, 1055),
  (43, .lmul, 44, 0, 0, 0),
  (44, .aload_n 0, 45, 0, 0, 0),
  (45, .getfield 123, 48, 713, 0, 1054),
  (48, .lsub, 49, 0, 0, 0),
  (49, .aload_n 0, 50, 0, 0, 0),
  (50, .getfield 127, 53, 714, 0, 1055),
  (53, .invokevirtual 293, 56, 140, 0, 1395),
  (56, .iconst 0, 57, 0, 0, 0),
  (57, .ireturn, 58, 0, 0, 0)]
def kX11_order : List mj_E := [
  (0, .aload_n 0, 1, 0, 0, 0),
  (1, .iconst 0, 2, 0, 0, 0),
  (2, .putfield 95, 5, 709, 0, 1050),
  (5, .aload_n 0, 6, 0, 0, 0),
  (6, .aload_n 0, 7, 0, 0, 0),
  (7, .getfield 9, 10, 704, 0, 1045),
  (10, .iconst (-1), 11, 0, (-1), 0),
  (11, .invokevirtual 252, 14, 150, 0, 1320),
  (14, .istore_n 1, 15, 0, 0, 0),
  (15, .aload_n 0, 16, 0, 0, 0),
  (16, .iconst 0, 17, 0, 0, 0),
  (17, .putfield 98, 20, 708, 0, 1049),
  (20, .iconst 0, 21, 0, 0, 0),
  (21, .istore_n 2, 22, 0, 0, 0),
  (22, .iload_n 2, 23, 0, 0, 0),
  (23, .iload_n 1, 24, 0, 0, 0),
  (24, .if_icmp .ge 20, 27, 44, 0, 0),
  (27, .aload_n 0, 28, 0, 0, 0),
  (28, .aload_n 0, 29, 0, 0, 0),
  (29, .getfield 31, 32, 715, 0, 1056),
  (32, .iload_n 2, 33, 0, 0, 0),
  (33, .iaload, 34, 0, 0, 0),
  (34, .i2l, 35, 0, 0, 0),
  (35, .invokevirtual 119, 38, 135, 0, 1338),
  (38, .iinc 2 1, 41, 0, 1, 0),
  (41, .goto (-19), 44, 22, 0, 0),
  (44, .iload_n 1, 45, 0, 0, 0),
  (45, .ireturn, 46, 0, 0, 0)]
def kX11_greatestLag : List mj_E := [
  (0, .iconst (-1), 1, 0, (-1), 0),
  (1, .istore_n 1, 2, 0, 0, 0),
  (2, .iconst 0, 3, 0, 0, 0),
  (3, .istore_n 2, 4, 0, 0, 0),
  (4, .iload_n 2, 5, 0, 0, 0),
  (5, .bipush 8, 7, 0, 8, 0),
  (7, .if_icmp .ge 54, 10, 61, 0, 0),
  (10, .aload_n 0, 11, 0, 0, 0),
  (11, .iload_n 2, 12, 0, 0, 0),
  (12, .invokestatic 105, 15, 136, 0, 1215),
  (15, .ifCond .ne 6, 18, 21, 0, 0),
  (18, .goto 37, 21, 55, 0, 0),
  (21, .iload_n 1, 22, 0, 0, 0),
  (22, .iconst (-1), 23, 0, (-1), 0),
  (23, .if_icmp .eq 30, 26, 53, 0, 0),
  (26, .aload_n 0, 27, 0, 0, 0),
  (27, .iload_n 2, 28, 0, 0, 0),
  (28, .invokestatic 290, 31, 186, 0, 1392),
  (31, .aload_n 0, 32, 0, 0, 0),
  (32, .bipush 8, 34, 0, 8, 0),
  (34, .iload_n 1, 35, 0, 0, 0),
  (35, .iadd, 36, 0, 0, 0),
  (36, .iaload, 37, 0, 0, 0),
  (37, .imul, 38, 0, 0, 0),
  (38, .aload_n 0, 39, 0, 0, 0),
  (39, .iload_n 1, 40, 0, 0, 0),
  (40, .invokestatic 290, 43, 186, 0, 1392),
  (43, .aload_n 0, 44, 0, 0, 0),
  (44, .bipush 8, 46, 0, 8, 0),
  (46, .iload_n 2, 47, 0, 0, 0),
  (47, .iadd, 48, 0, 0, 0),
  (48, .iaload, 49, 0, 0, 0),
  (49, .imul, 50, 0, 0, 0),
  (50, .if_icmp .le 5, 53, 55, 0, 0),
  (53, .iload_n 2, 54, 0, 0, 0),
  (54, .istore_n 1, 55, 0, 0, 0),
  (55, .iinc 2 1, 58, 0, 1, 0),
  (58, .goto (-54), 61, 4, 0, 0),
  (61, .iload_n 1, 62, 0, 0, 0),
  (62, .ireturn, 63, 0, 0, 0)]
def kX11_behind : List mj_E := [
  (0, .aload_n 0, 1, 0, 0, 0),
  (1, .iconst 0, 2, 0, 0, 0),
  (2, .putfield 95, 5, 709, 0, 1050),
  (5, .aload_n 0, 6, 0, 0, 0),
  (6, .getfield 9, 9, 704, 0, 1045),
  (9, .invokestatic 297, 12, 190, 0, 1411),
  (12, .istore_n 1, 13, 0, 0, 0),
  (13, .iload_n 1, 14, 0, 0, 0),
  (14, .iconst (-1), 15, 0, (-1), 0),
  (15, .if_icmp .ne 6, 18, 21, 0, 0),
  (18, .bipush (-2), 20, 0, (-2), 0),
  (20, .ireturn, 21, 0, 0, 0),
  (21, .aload_n 0, 22, 0, 0, 0),
  (22, .iconst 0, 23, 0, 0, 0),
  (23, .putfield 98, 26, 708, 0, 1049),
  (26, .aload_n 0, 27, 0, 0, 0),
  (27, .aload_n 0, 28, 0, 0, 0),
  (28, .getfield 9, 31, 704, 0, 1045),
  (31, .iload_n 1, 32, 0, 0, 0),
  (32, .invokestatic 290, 35, 186, 0, 1392),
  (35, .i2l, 36, 0, 0, 0),
  (36, .aload_n 0, 37, 0, 0, 0),
  (37, .getfield 9, 40, 704, 0, 1045),
  (40, .bipush 8, 42, 0, 8, 0),
  (42, .iload_n 1, 43, 0, 0, 0),
  (43, .iadd, 44, 0, 0, 0),
  (44, .iaload, 45, 0, 0, 0),
  (45, .i2l, 46, 0, 0, 0),
  (46, .invokevirtual 293, 49, 140, 0, 1395),
  (49, .iload_n 1, 50, 0, 0, 0),
  (50, .ireturn, 51, 0, 0, 0)]
def kX11_ahead : List mj_E := [
  (0, .aload_n 0, 1, 0, 0, 0),
  (1, .iconst 0, 2, 0, 0, 0),
  (2, .putfield 95, 5, 709, 0, 1050),
  (5, .aload_n 0, 6, 0, 0, 0),
  (6, .iload_n 1, 7, 0, 0, 0),
  (7, .invokevirtual 243, 10, 137, 0, 1281),
  (10, .ifCond .ne 5, 13, 15, 0, 0),
  (13, .iconst (-1), 14, 0, (-1), 0),
  (14, .ireturn, 15, 0, 0, 0),
  (15, .aload_n 0, 16, 0, 0, 0),
  (16, .getfield 9, 19, 704, 0, 1045),
  (19, .iload_n 1, 20, 0, 0, 0),
  (20, .invokestatic 154, 23, 147, 0, 1327),
  (23, .ifCond .ne 6, 26, 29, 0, 0),
  (26, .bipush (-2), 28, 0, (-2), 0),
  (28, .ireturn, 29, 0, 0, 0),
  (29, .aload_n 0, 30, 0, 0, 0),
  (30, .aload_n 0, 31, 0, 0, 0),
  (31, .getfield 9, 34, 704, 0, 1045),
  (34, .iconst (-1), 35, 0, (-1), 0),
  (35, .invokevirtual 252, 38, 150, 0, 1320),
  (38, .pop, 39, 0, 0, 0),
  (39, .aload_n 0, 40, 0, 0, 0),
  (40, .iconst 0, 41, 0, 0, 0),
  (41, .putfield 98, 44, 708, 0, 1049),
  (44, .aload_n 0, 45, 0, 0, 0),
  (45, .getfield 31, 48, 715, 0, 1056),
  (48, .aload_n 0, 49, 0, 0, 0),
  (49, .getfield 98, 52, 708, 0, 1049),
  (52, .iaload, 53, 0, 0, 0),
  (53, .iload_n 1, 54, 0, 0, 0),
  (54, .if_icmp .eq 20, 57, 74, 0, 0),
  (57, .aload_n 0, 58, 0, 0, 0),
  (58, .aload_n 0, 59, 0, 0, 0),
  (59, .getfield 31, 62, 715, 0, 1056),
  (62, .aload_n 0, 63, 0, 0, 0),
  (63, .getfield 98, 66, 708, 0, 1049),
  (66, .iaload, 67, 0, 0, 0),
  (67, .i2l, 68, 0, 0, 0),
  (68, .invokevirtual 119, 71, 135, 0, 1338),
  (71, .goto (-27), 74, 44, 0, 0),
  (74, .aload_n 0, 75, 0, 0, 0),
  (75, .getfield 98, 78, 708, 0, 1049),
  (78, .ireturn, 79, 0, 0, 0)]
def kX11_runs : List mj_E := [
  (0, .aload_n 0, 1, 0, 0, 0),
  (1, .iconst 0, 2, 0, 0, 0),
  (2, .putfield 95, 5, 709, 0, 1050),
  (5, .iload_n 1, 6, 0, 0, 0),
  (6, .iconst 0, 7, 0, 0, 0),
  (7, .bipush 99, 9, 0, 99, 0),
  (9, .invokestatic 101, 12, 132, 0, 1197),
  (12, .ifCond .ne 5, 15, 17, 0, 0),
  (15, .iconst (-1), 16, 0, (-1), 0),
  (16, .ireturn, 17, 0, 0, 0),
  (17, .aload_n 0, 18, 0, 0, 0),
  (18, .getfield 9, 21, 704, 0, 1045),
  (21, .aload_n 0, 22, 0, 0, 0),
  (22, .getfield 43, 25, 725, 0, 1066),
  (25, .iconst 0, 26, 0, 0, 0),
  (26, .invokestatic 225, 29, 170, 0, 1251),
  (29, .aload_n 0, 30, 0, 0, 0),
  (30, .aload_n 0, 31, 0, 0, 0),
  (31, .getfield 43, 34, 725, 0, 1066),
  (34, .iload_n 1, 35, 0, 0, 0),
  (35, .invokevirtual 272, 38, 174, 0, 1346),
  (38, .pop, 39, 0, 0, 0),
  (39, .aload_n 0, 40, 0, 0, 0),
  (40, .aload_n 0, 41, 0, 0, 0),
  (41, .getfield 43, 44, 725, 0, 1066),
  (44, .iconst (-1), 45, 0, (-1), 0),
  (45, .invokevirtual 266, 48, 172, 0, 1316),
  (48, .istore_n 2, 49, 0, 0, 0),
  (49, .aload_n 0, 50, 0, 0, 0),
  (50, .iconst 0, 51, 0, 0, 0),
  (51, .putfield 98, 54, 708, 0, 1049),
  (54, .aload_n 0, 55, 0, 0, 0),
  (55, .aload_n 0, 56, 0, 0, 0),
  (56, .getfield 43, 59, 725, 0, 1066),
  (59, .bipush 42, 61, 0, 42, 0),
  (61, .iaload, 62, 0, 0, 0),
  (62, .aload_n 0, 63, 0, 0, 0),
  (63, .getfield 9, 66, 704, 0, 1045),
  (66, .bipush 42, 68, 0, 42, 0),
  (68, .iaload, 69, 0, 0, 0),
  (69, .isub, 70, 0, 0, 0),
  (70, .i2l, 71, 0, 0, 0),
  (71, .invokevirtual 119, 74, 135, 0, 1338),
  (74, .iload_n 2, 75, 0, 0, 0),
  (75, .ireturn, 76, 0, 0, 0)]
def kX11_when : List mj_E := [
  (0, .aload_n 0, 1, 0, 0, 0),
  (1, .iconst 0, 2, 0, 0, 0),
  (2, .putfield 95, 5, 709, 0, 1050),
  (5, .aload_n 0, 6, 0, 0, 0),
  (6, .iload_n 1, 7, 0, 0, 0),
  (7, .invokevirtual 243, 10, 137, 0, 1281),
  (10, .ifCond .eq 13, 13, 23, 0, 0),
  (13, .iload_n 2, 14, 0, 0, 0),
  (14, .iconst 1, 15, 0, 1, 0),
  (15, .bipush 60, 17, 0, 60, 0),
  (17, .invokestatic 101, 20, 132, 0, 1197),
  (20, .ifCond .ne 5, 23, 25, 0, 0),
  (23, .iconst (-1), 24, 0, (-1), 0),
  (24, .ireturn, 25, 0, 0, 0),
  (25, .iload_n 2, 26, 0, 0, 0),
  (26, .aload_n 0, 27, 0, 0, 0),
  (27, .getfield 9, 30, 704, 0, 1045),
  (30, .bipush 32, 32, 0, 32, 0),
  (32, .iload_n 1, 33, 0, 0, 0),
  (33, .iadd, 34, 0, 0, 0),
  (34, .iaload, 35, 0, 0, 0),
  (35, .if_icmp .gt 6, 38, 41, 0, 0),
  (38, .bipush (-3), 40, 0, (-3), 0),
  (40, .ireturn, 41, 0, 0, 0),
  (41, .aload_n 0, 42, 0, 0, 0),
  (42, .getfield 9, 45, 704, 0, 1045),
  (45, .aload_n 0, 46, 0, 0, 0),
  (46, .getfield 43, 49, 725, 0, 1066),
  (49, .iconst 0, 50, 0, 0, 0),
  (50, .invokestatic 225, 53, 170, 0, 1251),
  (53, .iconst 0, 54, 0, 0, 0),
  (54, .istore_n 3, 55, 0, 0, 0),
  (55, .iload_n 3, 56, 0, 0, 0),
  (56, .bipush 99, 58, 0, 99, 0),
  (58, .if_icmp .ge 74, 61, 132, 0, 0),
  (61, .aload_n 0, 62, 0, 0, 0),
  (62, .aload_n 0, 63, 0, 0, 0),
  (63, .getfield 43, 66, 725, 0, 1066),
  (66, .iconst (-1), 67, 0, (-1), 0),
  (67, .invokevirtual 266, 70, 172, 0, 1316),
  (70, .pop, 71, 0, 0, 0),
  (71, .aload_n 0, 72, 0, 0, 0),
  (72, .getfield 43, 75, 725, 0, 1066),
  (75, .bipush 32, 77, 0, 32, 0),
  (77, .iload_n 1, 78, 0, 0, 0),
  (78, .iadd, 79, 0, 0, 0),
  (79, .iaload, 80, 0, 0, 0),
  (80, .iload_n 2, 81, 0, 0, 0),
  (81, .if_icmp .ge 6, 84, 87, 0, 0),
  (84, .goto 42, 87, 126, 0, 0),
  (87, .aload_n 0, 88, 0, 0, 0),
  (88, .iconst 0, 89, 0, 0, 0),
  (89, .putfield 98, 92, 708, 0, 1049),
  (92, .aload_n 0, 93, 0, 0, 0),
  (93, .aload_n 0, 94, 0, 0, 0),
  (94, .getfield 9, 97, 704, 0, 1045),
  (97, .iload_n 1, 98, 0, 0, 0),
  (98, .iload_n 2, 99, 0, 0, 0),
  (99, .invokestatic 130, 102, 143, 0, 1296),
  (102, .aload_n 0, 103, 0, 0, 0),
  (103, .getfield 9, 106, 704, 0, 1045),
  (106, .bipush 41, 108, 0, 41, 0),
  (108, .iaload, 109, 0, 0, 0),
  (109, .isub, 110, 0, 0, 0),
  (110, .iload_n 3, 111, 0, 0, 0),
  (111, .isub, 112, 0, 0, 0),
  (112, .i2l, 113, 0, 0, 0),
  (113, .invokevirtual 119, 116, 135, 0, 1338),
  (116, .aload_n 0, 117, 0, 0, 0),
  (117, .getfield 9, 120, 704, 0, 1045),
  (120, .bipush 41, 122, 0, 41, 0),
  (122, .iaload, 123, 0, 0, 0),
  (123, .iload_n 3, 124, 0, 0, 0),
  (124, .iadd, 125, 0, 0, 0),
  (125, .ireturn, 126, 0, 0, 0),
  (126, .iinc 3 1, 129, 0, 1, 0),
  (129, .goto (-74), 132, 55, 0, 0),
  (132, .bipush (-2), 134, 0, (-2), 0),
  (134, .ireturn, 135, 0, 0, 0)]
def kX11_misses : List mj_E := [
  (0, .aload_n 0, 1, 0, 0, 0),
  (1, .iconst 0, 2, 0, 0, 0),
  (2, .putfield 95, 5, 709, 0, 1050),
  (5, .aload_n 0, 6, 0, 0, 0),
  (6, .getfield 9, 9, 704, 0, 1045),
  (9, .aload_n 0, 10, 0, 0, 0),
  (10, .getfield 43, 13, 725, 0, 1066),
  (13, .iconst 0, 14, 0, 0, 0),
  (14, .invokestatic 225, 17, 170, 0, 1251),
  (17, .iconst 0, 18, 0, 0, 0),
  (18, .istore_n 1, 19, 0, 0, 0),
  (19, .iload_n 1, 20, 0, 0, 0),
  (20, .bipush 99, 22, 0, 99, 0),
  (22, .if_icmp .ge 53, 25, 75, 0, 0),
  (25, .aload_n 0, 26, 0, 0, 0),
  (26, .aload_n 0, 27, 0, 0, 0),
  (27, .getfield 43, 30, 725, 0, 1066),
  (30, .iconst (-1), 31, 0, (-1), 0),
  (31, .invokevirtual 266, 34, 172, 0, 1316),
  (34, .pop, 35, 0, 0, 0),
  (35, .aload_n 0, 36, 0, 0, 0),
  (36, .getfield 263, 39, 727, 0, 1068),
  (39, .ifCond .ne 6, 42, 45, 0, 0),
  (42, .goto 27, 45, 69, 0, 0),
  (45, .aload_n 0, 46, 0, 0, 0),
  (46, .iconst 0, 47, 0, 0, 0),
  (47, .putfield 98, 50, 708, 0, 1049),
  (50, .aload_n 0, 51, 0, 0, 0),
  (51, .aload_n 0, 52, 0, 0, 0),
  (52, .getfield 263, 55, 727, 0, 1068),
  (55, .i2l, 56, 0, 0, 0),
  (56, .invokevirtual 119, 59, 135, 0, 1338),
  (59, .aload_n 0, 60, 0, 0, 0),
  (60, .getfield 9, 63, 704, 0, 1045),
  (63, .bipush 41, 65, 0, 41, 0),
  (65, .iaload, 66, 0, 0, 0),
  (66, .iload_n 1, 67, 0, 0, 0),
  (67, .iadd, 68, 0, 0, 0),
  (68, .ireturn, 69, 0, 0, 0),
  (69, .iinc 1 1, 72, 0, 1, 0),
  (72, .goto (-53), 75, 19, 0, 0),
  (75, .bipush (-2), 77, 0, (-2), 0),
  (77, .ireturn, 78, 0, 0, 0)]
def kX11_round : List mj_E := [
  (0, .aload_n 0, 1, 0, 0, 0),
  (1, .iconst 0, 2, 0, 0, 0),
  (2, .putfield 95, 5, 709, 0, 1050),
  (5, .aload_n 0, 6, 0, 0, 0),
  (6, .getfield 9, 9, 704, 0, 1045),
  (9, .invokestatic 209, 12, 138, 0, 1212),
  (12, .ifCond .ne 6, 15, 18, 0, 0),
  (15, .bipush (-3), 17, 0, (-3), 0),
  (17, .ireturn, 18, 0, 0, 0),
  (18, .aload_n 0, 19, 0, 0, 0),
  (19, .getfield 9, 22, 704, 0, 1045),
  (22, .aload_n 0, 23, 0, 0, 0),
  (23, .getfield 43, 26, 725, 0, 1066),
  (26, .iconst 0, 27, 0, 0, 0),
  (27, .invokestatic 225, 30, 170, 0, 1251),
  (30, .iconst 0, 31, 0, 0, 0),
  (31, .istore_n 1, 32, 0, 0, 0),
  (32, .iconst 1, 33, 0, 1, 0),
  (33, .istore_n 2, 34, 0, 0, 0),
  (34, .iload_n 2, 35, 0, 0, 0),
  (35, .bipush 99, 37, 0, 99, 0),
  (37, .if_icmp .gt 105, 40, 142, 0, 0),
  (40, .iload_n 1, 41, 0, 0, 0),
  (41, .aload_n 0, 42, 0, 0, 0),
  (42, .aload_n 0, 43, 0, 0, 0),
  (43, .getfield 43, 46, 725, 0, 1066),
  (46, .iconst (-1), 47, 0, (-1), 0),
  (47, .invokevirtual 266, 50, 172, 0, 1316),
  (50, .invokestatic 213, 53, 236, 0, 1218),
  (53, .iadd, 54, 0, 0, 0),
  (54, .istore_n 1, 55, 0, 0, 0),
  (55, .iconst 1, 56, 0, 1, 0),
  (56, .istore_n 3, 57, 0, 0, 0),
  (57, .iconst 0, 58, 0, 0, 0),
  (58, .istore 4, 60, 0, 0, 0),
  (60, .iload 4, 62, 0, 0, 0),
  (62, .bipush 8, 64, 0, 8, 0),
  (64, .if_icmp .ge 52, 67, 116, 0, 0),
  (67, .iload_n 3, 68, 0, 0, 0),
  (68, .ifCond .eq 40, 71, 108, 0, 0),
  (71, .aload_n 0, 72, 0, 0, 0),
  (72, .getfield 9, 75, 704, 0, 1045),
  (75, .iload 4, 77, 0, 0, 0),
  (77, .invokestatic 105, 80, 136, 0, 1215),
  (80, .ifCond .eq 24, 83, 104, 0, 0),
  (83, .aload_n 0, 84, 0, 0, 0),
  (84, .getfield 43, 87, 725, 0, 1066),
  (87, .iload 4, 89, 0, 0, 0),
  (89, .invokestatic 290, 92, 186, 0, 1392),
  (92, .aload_n 0, 93, 0, 0, 0),
  (93, .getfield 9, 96, 704, 0, 1045),
  (96, .iload 4, 98, 0, 0, 0),
  (98, .invokestatic 290, 101, 186, 0, 1392),
  (101, .if_icmp .ne 7, 104, 108, 0, 0),
  (104, .iconst 1, 105, 0, 1, 0),
  (105, .goto 4, 108, 109, 0, 0),
  (108, .iconst 0, 109, 0, 0, 0),
  (109, .istore_n 3, 110, 0, 0, 0),
  (110, .iinc 4 1, 113, 0, 1, 0),
  (113, .goto (-53), 116, 60, 0, 0),
  (116, .iload_n 3, 117, 0, 0, 0),
  (117, .ifCond .ne 6, 120, 123, 0, 0),
  (120, .goto 16, 123, 136, 0, 0),
  (123, .aload_n 0, 124, 0, 0, 0),
  (124, .iconst 0, 125, 0, 0, 0),
  (125, .putfield 98, 128, 708, 0, 1049),
  (128, .aload_n 0, 129, 0, 0, 0),
  (129, .iload_n 1, 130, 0, 0, 0),
  (130, .i2l, 131, 0, 0, 0),
  (131, .invokevirtual 119, 134, 135, 0, 1338),
  (134, .iload_n 2, 135, 0, 0, 0),
  (135, .ireturn, 136, 0, 0, 0),
  (136, .iinc 2 1, 139, 0, 1, 0),
  (139, .goto (-105), 142, 34, 0, 0),
  (142, .bipush (-2), 144, 0, (-2), 0),
  (144, .ireturn, 145, 0, 0, 0)]
def kX11_share : List mj_E := [
  (0, .aload_n 0, 1, 0, 0, 0),
  (1, .iconst 0, 2, 0, 0, 0),
  (2, .putfield 95, 5, 709, 0, 1050),
  (5, .aload_n 0, 6, 0, 0, 0),
  (6, .iload_n 1, 7, 0, 0, 0),
  (7, .invokevirtual 243, 10, 137, 0, 1281),
  (10, .ifCond .eq 13, 13, 23, 0, 0),
  (13, .iload_n 2, 14, 0, 0, 0),
  (14, .iconst 1, 15, 0, 1, 0),
  (15, .bipush 60, 17, 0, 60, 0),
  (17, .invokestatic 101, 20, 132, 0, 1197),
  (20, .ifCond .ne 5, 23, 25, 0, 0),
  (23, .iconst (-1), 24, 0, (-1), 0),
  (24, .ireturn, 25, 0, 0, 0),
  (25, .aload_n 0, 26, 0, 0, 0),
  (26, .getfield 9, 29, 704, 0, 1045),
  (29, .aload_n 0, 30, 0, 0, 0),
  (30, .getfield 43, 33, 725, 0, 1066),
  (33, .iconst 0, 34, 0, 0, 0),
  (34, .invokestatic 225, 37, 170, 0, 1251),
  (37, .iconst 0, 38, 0, 0, 0),
  (38, .istore_n 3, 39, 0, 0, 0),
  (39, .iconst 0, 40, 0, 0, 0),
  (40, .istore 4, 42, 0, 0, 0),
  (42, .iconst 0, 43, 0, 0, 0),
  (43, .istore 5, 45, 0, 0, 0),
  (45, .iconst 0, 46, 0, 0, 0),
  (46, .istore 6, 48, 0, 0, 0),
  (48, .iconst 0, 49, 0, 0, 0),
  (49, .istore 7, 51, 0, 0, 0),
  (51, .iconst 0, 52, 0, 0, 0),
  (52, .istore 8, 54, 0, 0, 0),
  (54, .iload 8, 56, 0, 0, 0),
  (56, .iload_n 2, 57, 0, 0, 0),
  (57, .if_icmp .ge 85, 60, 142, 0, 0),
  (60, .aload_n 0, 61, 0, 0, 0),
  (61, .aload_n 0, 62, 0, 0, 0),
  (62, .getfield 43, 65, 725, 0, 1066),
  (65, .iconst (-1), 66, 0, (-1), 0),
  (66, .invokevirtual 266, 69, 172, 0, 1316),
  (69, .iload_n 1, 70, 0, 0, 0),
  (70, .invokestatic 150, 73, 133, 0, 1324),
  (73, .istore 9, 75, 0, 0, 0),
  (75, .iload_n 3, 76, 0, 0, 0),
  (76, .iload 9, 78, 0, 0, 0),
  (78, .ifCond .eq 7, 81, 85, 0, 0),
  (81, .iconst 1, 82, 0, 1, 0),
  (82, .goto 4, 85, 86, 0, 0),
  (85, .iconst 0, 86, 0, 0, 0),
  (86, .iadd, 87, 0, 0, 0),
  (87, .istore_n 3, 88, 0, 0, 0),
  (88, .iload 9, 90, 0, 0, 0),
  (90, .ifCond .eq 10, 93, 100, 0, 0),
  (93, .iload 4, 95, 0, 0, 0),
  (95, .iconst 1, 96, 0, 1, 0),
  (96, .iadd, 97, 0, 0, 0),
  (97, .goto 4, 100, 101, 0, 0),
  (100, .iconst 0, 101, 0, 0, 0),
  (101, .istore 4, 103, 0, 0, 0),
  (103, .iload 9, 105, 0, 0, 0),
  (105, .ifCond .eq 7, 108, 112, 0, 0),
  (108, .iconst 0, 109, 0, 0, 0),
  (109, .goto 7, 112, 116, 0, 0),
  (112, .iload 5, 114, 0, 0, 0),
  (114, .iconst 1, 115, 0, 1, 0),
  (115, .iadd, 116, 0, 0, 0),
  (116, .istore 5, 118, 0, 0, 0),
  (118, .iload 6, 120, 0, 0, 0),
  (120, .iload 4, 122, 0, 0, 0),
  (122, .invokestatic 300, 125, 239, 0, 1438),
  (125, .istore 6, 127, 0, 0, 0),
  (127, .iload 7, 129, 0, 0, 0),
  (129, .iload 5, 131, 0, 0, 0),
  (131, .invokestatic 300, 134, 239, 0, 1438),
  (134, .istore 7, 136, 0, 0, 0),
  (136, .iinc 8 1, 139, 0, 1, 0),
  (139, .goto (-85), 142, 54, 0, 0),
  (142, .aload_n 0, 143, 0, 0, 0),
  (143, .iconst 0, 144, 0, 0, 0),
  (144, .putfield 98, 147, 708, 0, 1049),
  (147, .aload_n 0, 148, 0, 0, 0),
  (148, .iload 6, 150, 0, 0, 0),
  (150, .i2l, 151, 0, 0, 0),
  (151, .invokevirtual 119, 154, 135, 0, 1338),
  (154, .aload_n 0, 155, 0, 0, 0),
  (155, .iload 7, 157, 0, 0, 0),
  (157, .i2l, 158, 0, 0, 0),
  (158, .invokevirtual 119, 161, 135, 0, 1338),
  (161, .iload_n 3, 162, 0, 0, 0),
  (162, .ireturn, 163, 0, 0, 0)]
def kX11_pairs : List mj_E := [
  (0, .aload_n 0, 1, 0, 0, 0),
  (1, .iconst 0, 2, 0, 0, 0),
  (2, .putfield 95, 5, 709, 0, 1050),
  (5, .iload_n 1, 6, 0, 0, 0),
  (6, .iconst 1, 7, 0, 1, 0),
  (7, .bipush 60, 9, 0, 60, 0),
  (9, .invokestatic 101, 12, 132, 0, 1197),
  (12, .ifCond .ne 5, 15, 17, 0, 0),
  (15, .iconst (-1), 16, 0, (-1), 0),
  (16, .ireturn, 17, 0, 0, 0),
  (17, .aload_n 0, 18, 0, 0, 0),
  (18, .getfield 9, 21, 704, 0, 1045),
  (21, .invokestatic 209, 24, 138, 0, 1212),
  (24, .invokestatic 213, 27, 236, 0, 1218),
  (27, .iconst 2, 28, 0, 2, 0),
  (28, .if_icmp .ge 6, 31, 34, 0, 0),
  (31, .bipush (-2), 33, 0, (-2), 0),
  (33, .ireturn, 34, 0, 0, 0),
  (34, .iconst 0, 35, 0, 0, 0),
  (35, .istore_n 2, 36, 0, 0, 0),
  (36, .iload_n 2, 37, 0, 0, 0),
  (37, .bipush 64, 39, 0, 64, 0),
  (39, .if_icmp .ge 16, 42, 55, 0, 0),
  (42, .aload_n 0, 43, 0, 0, 0),
  (43, .getfield 49, 46, 730, 0, 1071),
  (46, .iload_n 2, 47, 0, 0, 0),
  (47, .iconst 0, 48, 0, 0, 0),
  (48, .iastore, 49, 0, 0, 0),
  (49, .iinc 2 1, 52, 0, 1, 0),
  (52, .goto (-16), 55, 36, 0, 0),
  (55, .aload_n 0, 56, 0, 0, 0),
  (56, .getfield 9, 59, 704, 0, 1045),
  (59, .aload_n 0, 60, 0, 0, 0),
  (60, .getfield 43, 63, 725, 0, 1066),
  (63, .iconst 0, 64, 0, 0, 0),
  (64, .invokestatic 225, 67, 170, 0, 1251),
  (67, .iconst 0, 68, 0, 0, 0),
  (68, .istore_n 2, 69, 0, 0, 0),
  (69, .iload_n 2, 70, 0, 0, 0),
  (70, .iload_n 1, 71, 0, 0, 0),
  (71, .if_icmp .ge 93, 74, 164, 0, 0),
  (74, .aload_n 0, 75, 0, 0, 0),
  (75, .aload_n 0, 76, 0, 0, 0),
  (76, .getfield 43, 79, 725, 0, 1066),
  (79, .iconst (-1), 80, 0, (-1), 0),
  (80, .invokevirtual 266, 83, 172, 0, 1316),
  (83, .istore_n 3, 84, 0, 0, 0),
  (84, .iconst 0, 85, 0, 0, 0),
  (85, .istore 4, 87, 0, 0, 0),
  (87, .iload 4, 89, 0, 0, 0),
  (89, .bipush 8, 91, 0, 8, 0),
  (91, .if_icmp .ge 67, 94, 158, 0, 0),
  (94, .iload 4, 96, 0, 0, 0),
  (96, .iconst 1, 97, 0, 1, 0),
  (97, .iadd, 98, 0, 0, 0),
  (98, .istore 5, 100, 0, 0, 0),
  (100, .iload 5, 102, 0, 0, 0),
  (102, .bipush 8, 104, 0, 8, 0),
  (104, .if_icmp .ge 48, 107, 152, 0, 0),
  (107, .aload_n 0, 108, 0, 0, 0),
  (108, .getfield 49, 111, 730, 0, 1071),
  (111, .bipush 8, 113, 0, 8, 0),
  (113, .iload 4, 115, 0, 0, 0),
  (115, .imul, 116, 0, 0, 0),
  (116, .iload 5, 118, 0, 0, 0),
  (118, .iadd, 119, 0, 0, 0),
  (119, .dup2, 120, 0, 0, 0),
  (120, .iaload, 121, 0, 0, 0),
  (121, .iload_n 3, 122, 0, 0, 0),
  (122, .iload 4, 124, 0, 0, 0),
  (124, .invokestatic 150, 127, 133, 0, 1324),
  (127, .ifCond .eq 16, 130, 143, 0, 0),
  (130, .iload_n 3, 131, 0, 0, 0),
  (131, .iload 5, 133, 0, 0, 0),
  (133, .invokestatic 150, 136, 133, 0, 1324),
  (136, .ifCond .eq 7, 139, 143, 0, 0),
  (139, .iconst 1, 140, 0, 1, 0),
  (140, .goto 4, 143, 144, 0, 0),
  (143, .iconst 0, 144, 0, 0, 0),
  (144, .iadd, 145, 0, 0, 0),
  (145, .iastore, 146, 0, 0, 0),
  (146, .iinc 5 1, 149, 0, 1, 0),
  (149, .goto (-49), 152, 100, 0, 0),
  (152, .iinc 4 1, 155, 0, 1, 0),
  (155, .goto (-68), 158, 87, 0, 0),
  (158, .iinc 2 1, 161, 0, 1, 0),
  (161, .goto (-92), 164, 69, 0, 0),
  (164, .iconst (-1), 165, 0, (-1), 0),
  (165, .istore_n 2, 166, 0, 0, 0),
  (166, .iconst 0, 167, 0, 0, 0),
  (167, .istore_n 3, 168, 0, 0, 0),
  (168, .iload_n 3, 169, 0, 0, 0),
  (169, .bipush 8, 171, 0, 8, 0),
  (171, .if_icmp .ge 87, 174, 258, 0, 0),
  (174, .iload_n 3, 175, 0, 0, 0),
  (175, .iconst 1, 176, 0, 1, 0),
  (176, .iadd, 177, 0, 0, 0),
  (177, .istore 4, 179, 0, 0, 0),
  (179, .iload 4, 181, 0, 0, 0),
  (181, .bipush 8, 183, 0, 8, 0),
  (183, .if_icmp .ge 69, 186, 252, 0, 0),
  (186, .aload_n 0, 187, 0, 0, 0),
  (187, .getfield 9, 190, 704, 0, 1045),
  (190, .iload_n 3, 191, 0, 0, 0),
  (191, .invokestatic 105, 194, 136, 0, 1215),
  (194, .ifCond .eq 52, 197, 246, 0, 0),
  (197, .aload_n 0, 198, 0, 0, 0),
  (198, .getfield 9, 201, 704, 0, 1045),
  (201, .iload 4, 203, 0, 0, 0),
  (203, .invokestatic 105, 206, 136, 0, 1215),
  (206, .ifCond .ne 6, 209, 212, 0, 0),
  (209, .goto 37, 212, 246, 0, 0),
  (212, .iload_n 2, 213, 0, 0, 0),
  (213, .iconst (-1), 214, 0, (-1), 0),
  (214, .if_icmp .eq 24, 217, 238, 0, 0),
  (217, .aload_n 0, 218, 0, 0, 0),
  (218, .getfield 49, 221, 730, 0, 1071),
  (221, .bipush 8, 223, 0, 8, 0),
  (223, .iload_n 3, 224, 0, 0, 0),
  (224, .imul, 225, 0, 0, 0),
  (225, .iload 4, 227, 0, 0, 0),
  (227, .iadd, 228, 0, 0, 0),
  (228, .iaload, 229, 0, 0, 0),
  (229, .aload_n 0, 230, 0, 0, 0),
  (230, .getfield 49, 233, 730, 0, 1071),
  (233, .iload_n 2, 234, 0, 0, 0),
  (234, .iaload, 235, 0, 0, 0),
  (235, .if_icmp .le 11, 238, 246, 0, 0),
  (238, .bipush 8, 240, 0, 8, 0),
  (240, .iload_n 3, 241, 0, 0, 0),
  (241, .imul, 242, 0, 0, 0),
  (242, .iload 4, 244, 0, 0, 0),
  (244, .iadd, 245, 0, 0, 0),
  (245, .istore_n 2, 246, 0, 0, 0),
  (246, .iinc 4 1, 249, 0, 1, 0),
  (249, .goto (-70), 252, 179, 0, 0),
  (252, .iinc 3 1, 255, 0, 1, 0),
  (255, .goto (-87), 258, 168, 0, 0),
  (258, .aload_n 0, 259, 0, 0, 0),
  (259, .iconst 0, 260, 0, 0, 0),
  (260, .putfield 98, 263, 708, 0, 1049),
  (263, .aload_n 0, 264, 0, 0, 0),
  (264, .iload_n 2, 265, 0, 0, 0),
  (265, .bipush 8, 267, 0, 8, 0),
  (267, .idiv, 268, 0, 0, 0),
  (268, .i2l, 269, 0, 0, 0),
  (269, .invokevirtual 119, 272, 135, 0, 1338),
  (272, .aload_n 0, 273, 0, 0, 0),
  (273, .iload_n 2, 274, 0, 0, 0),
  (274, .bipush 8, 276, 0, 8, 0),
  (276, .irem, 277, 0, 0, 0),
  (277, .i2l, 278, 0, 0, 0),
  (278, .invokevirtual 119, 281, 135, 0, 1338),
  (281, .aload_n 0, 282, 0, 0, 0),
  (282, .getfield 49, 285, 730, 0, 1071),
  (285, .iload_n 2, 286, 0, 0, 0),
  (286, .iaload, 287, 0, 0, 0),
  (287, .ireturn, 288, 0, 0, 0)]
def kX11_lags : List mj_E := [
  (0, .aload_n 0, 1, 0, 0, 0),
  (1, .iconst 0, 2, 0, 0, 0),
  (2, .putfield 95, 5, 709, 0, 1050),
  (5, .iload_n 1, 6, 0, 0, 0),
  (6, .iconst 1, 7, 0, 1, 0),
  (7, .bipush 60, 9, 0, 60, 0),
  (9, .invokestatic 101, 12, 132, 0, 1197),
  (12, .ifCond .ne 5, 15, 17, 0, 0),
  (15, .iconst (-1), 16, 0, (-1), 0),
  (16, .ireturn, 17, 0, 0, 0),
  (17, .aload_n 0, 18, 0, 0, 0),
  (18, .getfield 9, 21, 704, 0, 1045),
  (21, .invokestatic 209, 24, 138, 0, 1212),
  (24, .ifCond .ne 6, 27, 30, 0, 0),
  (27, .bipush (-2), 29, 0, (-2), 0),
  (29, .ireturn, 30, 0, 0, 0),
  (30, .aload_n 0, 31, 0, 0, 0),
  (31, .getfield 9, 34, 704, 0, 1045),
  (34, .aload_n 0, 35, 0, 0, 0),
  (35, .getfield 43, 38, 725, 0, 1066),
  (38, .iconst 0, 39, 0, 0, 0),
  (39, .invokestatic 225, 42, 170, 0, 1251),
  (42, .iconst (-1), 43, 0, (-1), 0),
  (43, .istore_n 2, 44, 0, 0, 0),
  (44, .iconst 0, 45, 0, 0, 0),
  (45, .istore_n 3, 46, 0, 0, 0),
  (46, .lconst 0, 47, 0, 0, 0),
  (47, .lstore 4, 49, 0, 0, 0),
  (49, .lconst 1, 50, 0, 0, 0),
  (50, .lstore 6, 52, 0, 0, 0),
  (52, .lconst 0, 53, 0, 0, 0),
  (53, .lstore 8, 55, 0, 0, 0),
  (55, .lconst 1, 56, 0, 0, 0),
  (56, .lstore 10, 58, 0, 0, 0),
  (58, .iconst 1, 59, 0, 1, 0),
  (59, .istore 12, 61, 0, 0, 0),
  (61, .iload 12, 63, 0, 0, 0),
  (63, .iload_n 1, 64, 0, 0, 0),
  (64, .if_icmp .gt 147, 67, 211, 0, 0),
  (67, .aload_n 0, 68, 0, 0, 0),
  (68, .aload_n 0, 69, 0, 0, 0),
  (69, .getfield 43, 72, 725, 0, 1066),
  (72, .iconst (-1), 73, 0, (-1), 0),
  (73, .invokevirtual 266, 76, 172, 0, 1316),
  (76, .pop, 77, 0, 0, 0),
  (77, .iconst 0, 78, 0, 0, 0),
  (78, .istore 13, 80, 0, 0, 0),
  (80, .iload 13, 82, 0, 0, 0),
  (82, .bipush 8, 84, 0, 8, 0),
  (84, .if_icmp .ge 121, 87, 205, 0, 0),
  (87, .aload_n 0, 88, 0, 0, 0),
  (88, .getfield 43, 91, 725, 0, 1066),
  (91, .iload 13, 93, 0, 0, 0),
  (93, .invokestatic 105, 96, 136, 0, 1215),
  (96, .ifCond .ne 6, 99, 102, 0, 0),
  (99, .goto 100, 102, 199, 0, 0),
  (102, .aload_n 0, 103, 0, 0, 0),
  (103, .getfield 43, 106, 725, 0, 1066),
  (106, .iload 13, 108, 0, 0, 0),
  (108, .invokestatic 290, 111, 186, 0, 1392),
  (111, .i2l, 112, 0, 0, 0),
  (112, .lstore 14, 114, 0, 0, 0),
  (114, .aload_n 0, 115, 0, 0, 0),
  (115, .getfield 43, 118, 725, 0, 1066),
  (118, .bipush 8, 120, 0, 8, 0),
  (120, .iload 13, 122, 0, 0, 0),
  (122, .iadd, 123, 0, 0, 0),
  (123, .iaload, 124, 0, 0, 0),
  (124, .i2l, 125, 0, 0, 0),
  (125, .lstore 16, 127, 0, 0, 0),
  (127, .iload_n 2, 128, 0, 0, 0),
  (128, .iconst (-1), 129, 0, (-1), 0),
  (129, .if_icmp .ne 7, 132, 136, 0, 0),
  (132, .iconst 1, 133, 0, 1, 0),
  (133, .goto 4, 136, 137, 0, 0),
  (136, .iconst 0, 137, 0, 0, 0),
  (137, .istore 18, 139, 0, 0, 0),
  (139, .iload 18, 141, 0, 0, 0),
  (141, .ifCond .ne 17, 144, 158, 0, 0),
  (144, .lload 14, 146, 0, 0, 0),
  (146, .lload 6, 148, 0, 0, 0),
  (148, .lmul, 149, 0, 0, 0),
  (149, .lload 4, 151, 0, 0, 0),
  (151, .lload 16, 153, 0, 0, 0),
  (153, .lmul, 154, 0, 0, 0),
  (154, .lcmp, 155, 0, 0, 0),
  (155, .ifCond .le 17, 158, 172, 0, 0),
  (158, .iload 13, 160, 0, 0, 0),
  (160, .istore_n 2, 161, 0, 0, 0),
  (161, .iload 12, 163, 0, 0, 0),
  (163, .istore_n 3, 164, 0, 0, 0),
  (164, .lload 14, 166, 0, 0, 0),
  (166, .lstore 4, 168, 0, 0, 0),
  (168, .lload 16, 170, 0, 0, 0),
  (170, .lstore 6, 172, 0, 0, 0),
  (172, .iload 18, 174, 0, 0, 0),
  (174, .ifCond .ne 17, 177, 191, 0, 0),
  (177, .lload 14, 179, 0, 0, 0),
  (179, .lload 10, 181, 0, 0, 0),
  (181, .lmul, 182, 0, 0, 0),
  (182, .lload 8, 184, 0, 0, 0),
  (184, .lload 16, 186, 0, 0, 0),
  (186, .lmul, 187, 0, 0, 0),
  (187, .lcmp, 188, 0, 0, 0),
  (188, .ifCond .ge 11, 191, 199, 0, 0),
  (191, .lload 14, 193, 0, 0, 0),
  (193, .lstore 8, 195, 0, 0, 0),
  (195, .lload 16, 197, 0, 0, 0),
  (197, .lstore 10, 199, 0, 0, 0),
  (199, .iinc 13 1, 202, 0, 1, 0),
  (202, .goto (-122), 205, 80, 0, 0),
  (205, .iinc 12 1, 208, 0, 1, 0),
  (208, .goto (-147), 211, 61, 0, 0),
  (211, .aload_n 0, 212, 0, 0, 0),
  (212, .iconst 0, 213, 0, 0, 0),
  (213, .putfield 98, 216, 708, 0, 1049),
  (216, .aload_n 0, 217, 0, 0, 0),
  (217, .iload_n 3, 218, 0, 0, 0),
  (218, .i2l, 219, 0, 0, 0),
  (219, .invokevirtual 119, 222, 135, 0, 1338),
  (222, .aload_n 0, 223, 0, 0, 0),
  (223, .lload 4, 225, 0, 0, 0),
  (225, .lload 6, 227, 0, 0, 0),
  (227, .invokevirtual 293, 230, 140, 0, 1395),
  (230, .aload_n 0, 231, 0, 0, 0),
  (231, .lload 8, 233, 0, 0, 0),
  (233, .lload 10, 235, 0, 0, 0),
  (235, .invokevirtual 293, 238, 140, 0, 1395),
  (238, .iload_n 2, 239, 0, 0, 0),
  (239, .ireturn, 240, 0, 0, 0)]
def kX11_layDue : List mj_E := [
  (0, .aload_n 0, 1, 0, 0, 0),
  (1, .iconst 0, 2, 0, 0, 0),
  (2, .putfield 303, 5, 732, 0, 1073),
  (5, .iconst 0, 6, 0, 0, 0),
  (6, .istore_n 2, 7, 0, 0, 0),
  (7, .iload_n 2, 8, 0, 0, 0),
  (8, .bipush 8, 10, 0, 8, 0),
  (10, .if_icmp .ge 184, 13, 194, 0, 0),
  (13, .aload_n 0, 14, 0, 0, 0),
  (14, .getfield 9, 17, 704, 0, 1045),
  (17, .bipush 32, 19, 0, 32, 0),
  (19, .iload_n 2, 20, 0, 0, 0),
  (20, .iadd, 21, 0, 0, 0),
  (21, .iaload, 22, 0, 0, 0),
  (22, .iconst 1, 23, 0, 1, 0),
  (23, .iadd, 24, 0, 0, 0),
  (24, .istore_n 3, 25, 0, 0, 0),
  (25, .aload_n 0, 26, 0, 0, 0),
  (26, .getfield 9, 29, 704, 0, 1045),
  (29, .iload_n 2, 30, 0, 0, 0),
  (30, .invokestatic 105, 33, 136, 0, 1215),
  (33, .ifCond .eq 155, 36, 188, 0, 0),
  (36, .aload_n 0, 37, 0, 0, 0),
  (37, .getfield 9, 40, 704, 0, 1045),
  (40, .iload_n 2, 41, 0, 0, 0),
  (41, .iload_n 3, 42, 0, 0, 0),
  (42, .invokestatic 130, 45, 143, 0, 1296),
  (45, .aload_n 0, 46, 0, 0, 0),
  (46, .getfield 9, 49, 704, 0, 1045),
  (49, .bipush 41, 51, 0, 41, 0),
  (51, .iaload, 52, 0, 0, 0),
  (52, .iload_n 1, 53, 0, 0, 0),
  (53, .iadd, 54, 0, 0, 0),
  (54, .if_icmp .gt 134, 57, 188, 0, 0),
  (57, .aload_n 0, 58, 0, 0, 0),
  (58, .getfield 9, 61, 704, 0, 1045),
  (61, .iload_n 2, 62, 0, 0, 0),
  (62, .iload_n 3, 63, 0, 0, 0),
  (63, .invokestatic 130, 66, 143, 0, 1296),
  (66, .aload_n 0, 67, 0, 0, 0),
  (67, .getfield 9, 70, 704, 0, 1045),
  (70, .bipush 41, 72, 0, 41, 0),
  (72, .iaload, 73, 0, 0, 0),
  (73, .if_icmp .gt 6, 76, 79, 0, 0),
  (76, .goto 106, 79, 182, 0, 0),
  (79, .aload_n 0, 80, 0, 0, 0),
  (80, .getfield 52, 83, 731, 0, 1072),
  (83, .iconst 3, 84, 0, 3, 0),
  (84, .aload_n 0, 85, 0, 0, 0),
  (85, .getfield 303, 88, 732, 0, 1073),
  (88, .imul, 89, 0, 0, 0),
  (89, .iload_n 2, 90, 0, 0, 0),
  (90, .iastore, 91, 0, 0, 0),
  (91, .aload_n 0, 92, 0, 0, 0),
  (92, .getfield 52, 95, 731, 0, 1072),
  (95, .iconst 3, 96, 0, 3, 0),
  (96, .aload_n 0, 97, 0, 0, 0),
  (97, .getfield 303, 100, 732, 0, 1073),
  (100, .imul, 101, 0, 0, 0),
  (101, .iconst 1, 102, 0, 1, 0),
  (102, .iadd, 103, 0, 0, 0),
  (103, .aload_n 0, 104, 0, 0, 0),
  (104, .getfield 9, 107, 704, 0, 1045),
  (107, .bipush 24, 109, 0, 24, 0),
  (109, .iload_n 2, 110, 0, 0, 0),
  (110, .iadd, 111, 0, 0, 0),
  (111, .iaload, 112, 0, 0, 0),
  (112, .iconst 1, 113, 0, 1, 0),
  (113, .if_icmp .ne 7, 116, 120, 0, 0),
  (116, .iconst 0, 117, 0, 0, 0),
  (117, .goto 24, 120, 141, 0, 0),
  (120, .iconst 0, 121, 0, 0, 0),
  (121, .aload_n 0, 122, 0, 0, 0),
  (122, .getfield 9, 125, 704, 0, 1045),
  (125, .iload_n 2, 126, 0, 0, 0),
  (126, .iload_n 3, 127, 0, 0, 0),
  (127, .invokestatic 134, 130, 142, 0, 1293),
  (130, .aload_n 0, 131, 0, 0, 0),
  (131, .getfield 9, 134, 704, 0, 1045),
  (134, .bipush 41, 136, 0, 41, 0),
  (136, .iaload, 137, 0, 0, 0),
  (137, .isub, 138, 0, 0, 0),
  (138, .invokestatic 300, 141, 239, 0, 1438),
  (141, .iastore, 142, 0, 0, 0),
  (142, .aload_n 0, 143, 0, 0, 0),
  (143, .getfield 52, 146, 731, 0, 1072),
  (146, .iconst 3, 147, 0, 3, 0),
  (147, .aload_n 0, 148, 0, 0, 0),
  (148, .getfield 303, 151, 732, 0, 1073),
  (151, .imul, 152, 0, 0, 0),
  (152, .iconst 2, 153, 0, 2, 0),
  (153, .iadd, 154, 0, 0, 0),
  (154, .aload_n 0, 155, 0, 0, 0),
  (155, .getfield 9, 158, 704, 0, 1045),
  (158, .iload_n 2, 159, 0, 0, 0),
  (159, .iload_n 3, 160, 0, 0, 0),
  (160, .invokestatic 130, 163, 143, 0, 1296),
  (163, .aload_n 0, 164, 0, 0, 0),
  (164, .getfield 9, 167, 704, 0, 1045),
  (167, .bipush 41, 169, 0, 41, 0),
  (169, .iaload, 170, 0, 0, 0),
  (170, .isub, 171, 0, 0, 0),
  (171, .iastore, 172, 0, 0, 0),
  (172, .aload_n 0, 173, 0, 0, 0),
  (173, .dup, 174, 0, 0, 0),
  (174, .getfield 303, 177, 732, 0, 1073),
  (177, .iconst 1, 178, 0, 1, 0),
  (178, .iadd, 179, 0, 0, 0),
  (179, .putfield 303, 182, 732, 0, 1073),
  (182, .iinc 3 1, 185, 0, 1, 0),
  (185, .goto (-160), 188, 25, 0, 0),
  (188, .iinc 2 1, 191, 0, 1, 0),
  (191, .goto (-184), 194, 7, 0, 0),
  (194, .return_, 195, 0, 0, 0)]
def kX11_finds : List mj_E := [
  (0, .aload_n 0, 1, 0, 0, 0),
  (1, .getfield 52, 4, 731, 0, 1072),
  (4, .iconst 3, 5, 0, 3, 0),
  (5, .iload_n 1, 6, 0, 0, 0),
  (6, .imul, 7, 0, 0, 0),
  (7, .iaload, 8, 0, 0, 0),
  (8, .istore_n 2, 9, 0, 0, 0),
  (9, .aload_n 0, 10, 0, 0, 0),
  (10, .getfield 52, 13, 731, 0, 1072),
  (13, .iconst 3, 14, 0, 3, 0),
  (14, .iload_n 1, 15, 0, 0, 0),
  (15, .imul, 16, 0, 0, 0),
  (16, .iconst 1, 17, 0, 1, 0),
  (17, .iadd, 18, 0, 0, 0),
  (18, .iaload, 19, 0, 0, 0),
  (19, .istore_n 3, 20, 0, 0, 0),
  (20, .iload_n 3, 21, 0, 0, 0),
  (21, .aload_n 0, 22, 0, 0, 0),
  (22, .getfield 52, 25, 731, 0, 1072),
  (25, .iconst 3, 26, 0, 3, 0),
  (26, .iload_n 1, 27, 0, 0, 0),
  (27, .imul, 28, 0, 0, 0),
  (28, .iconst 2, 29, 0, 2, 0),
  (29, .iadd, 30, 0, 0, 0),
  (30, .iaload, 31, 0, 0, 0),
  (31, .if_icmp .ge 98, 34, 129, 0, 0),
  (34, .bipush 8, 36, 0, 8, 0),
  (36, .iload_n 2, 37, 0, 0, 0),
  (37, .imul, 38, 0, 0, 0),
  (38, .iload_n 3, 39, 0, 0, 0),
  (39, .iadd, 40, 0, 0, 0),
  (40, .istore 4, 42, 0, 0, 0),
  (42, .aload_n 0, 43, 0, 0, 0),
  (43, .getfield 61, 46, 735, 0, 1076),
  (46, .iload 4, 48, 0, 0, 0),
  (48, .baload, 49, 0, 0, 0),
  (49, .ifCond .eq 6, 52, 55, 0, 0),
  (52, .goto 71, 55, 123, 0, 0),
  (55, .aload_n 0, 56, 0, 0, 0),
  (56, .getfield 61, 59, 735, 0, 1076),
  (59, .iload 4, 61, 0, 0, 0),
  (61, .iconst 1, 62, 0, 1, 0),
  (62, .bastore, 63, 0, 0, 0),
  (63, .aload_n 0, 64, 0, 0, 0),
  (64, .getfield 55, 67, 733, 0, 1074),
  (67, .iload 4, 69, 0, 0, 0),
  (69, .iaload, 70, 0, 0, 0),
  (70, .iload_n 1, 71, 0, 0, 0),
  (71, .if_icmp .ne 6, 74, 77, 0, 0),
  (74, .goto 49, 77, 123, 0, 0),
  (77, .aload_n 0, 78, 0, 0, 0),
  (78, .getfield 55, 81, 733, 0, 1074),
  (81, .iload 4, 83, 0, 0, 0),
  (83, .iaload, 84, 0, 0, 0),
  (84, .iconst (-1), 85, 0, (-1), 0),
  (85, .if_icmp .eq 20, 88, 105, 0, 0),
  (88, .aload_n 0, 89, 0, 0, 0),
  (89, .aload_n 0, 90, 0, 0, 0),
  (90, .getfield 55, 93, 733, 0, 1074),
  (93, .iload 4, 95, 0, 0, 0),
  (95, .iaload, 96, 0, 0, 0),
  (96, .invokevirtual 306, 99, 201, 0, 1455),
  (99, .ifCond .eq 24, 102, 123, 0, 0),
  (102, .goto 11, 105, 113, 0, 0),
  (105, .aload_n 0, 106, 0, 0, 0),
  (106, .iload_n 3, 107, 0, 0, 0),
  (107, .invokevirtual 309, 110, 202, 0, 1459),
  (110, .ifCond .eq 13, 113, 123, 0, 0),
  (113, .aload_n 0, 114, 0, 0, 0),
  (114, .getfield 55, 117, 733, 0, 1074),
  (117, .iload 4, 119, 0, 0, 0),
  (119, .iload_n 1, 120, 0, 0, 0),
  (120, .iastore, 121, 0, 0, 0),
  (121, .iconst 1, 122, 0, 1, 0),
  (122, .ireturn, 123, 0, 0, 0),
  (123, .iinc 3 1, 126, 0, 1, 0),
  (126, .goto (-106), 129, 20, 0, 0),
  (129, .iconst 0, 130, 0, 0, 0),
  (130, .ireturn, 131, 0, 0, 0)]
def kX11_hasRoom : List mj_E := [
  (0, .aload_n 0, 1, 0, 0, 0),
  (1, .getfield 58, 4, 734, 0, 1075),
  (4, .iload_n 1, 5, 0, 0, 0),
  (5, .iaload, 6, 0, 0, 0),
  (6, .aload_n 0, 7, 0, 0, 0),
  (7, .getfield 9, 10, 704, 0, 1045),
  (10, .bipush 40, 12, 0, 40, 0),
  (12, .iaload, 13, 0, 0, 0),
  (13, .if_icmp .ge 15, 16, 28, 0, 0),
  (16, .aload_n 0, 17, 0, 0, 0),
  (17, .getfield 58, 20, 734, 0, 1075),
  (20, .iload_n 1, 21, 0, 0, 0),
  (21, .dup2, 22, 0, 0, 0),
  (22, .iaload, 23, 0, 0, 0),
  (23, .iconst 1, 24, 0, 1, 0),
  (24, .iadd, 25, 0, 0, 0),
  (25, .iastore, 26, 0, 0, 0),
  (26, .iconst 1, 27, 0, 1, 0),
  (27, .ireturn, 28, 0, 0, 0),
  (28, .aload_n 0, 29, 0, 0, 0),
  (29, .getfield 65, 32, 736, 0, 1077),
  (32, .iload_n 1, 33, 0, 0, 0),
  (33, .baload, 34, 0, 0, 0),
  (34, .ifCond .eq 5, 37, 39, 0, 0),
  (37, .iconst 0, 38, 0, 0, 0),
  (38, .ireturn, 39, 0, 0, 0),
  (39, .aload_n 0, 40, 0, 0, 0),
  (40, .getfield 65, 43, 736, 0, 1077),
  (43, .iload_n 1, 44, 0, 0, 0),
  (44, .iconst 1, 45, 0, 1, 0),
  (45, .bastore, 46, 0, 0, 0),
  (46, .iconst 0, 47, 0, 0, 0),
  (47, .istore_n 2, 48, 0, 0, 0),
  (48, .iload_n 2, 49, 0, 0, 0),
  (49, .bipush 8, 51, 0, 8, 0),
  (51, .if_icmp .ge 80, 54, 131, 0, 0),
  (54, .aload_n 0, 55, 0, 0, 0),
  (55, .getfield 55, 58, 733, 0, 1074),
  (58, .bipush 8, 60, 0, 8, 0),
  (60, .iload_n 2, 61, 0, 0, 0),
  (61, .imul, 62, 0, 0, 0),
  (62, .iload_n 1, 63, 0, 0, 0),
  (63, .iadd, 64, 0, 0, 0),
  (64, .iaload, 65, 0, 0, 0),
  (65, .istore_n 3, 66, 0, 0, 0),
  (66, .iload_n 3, 67, 0, 0, 0),
  (67, .iconst (-1), 68, 0, (-1), 0),
  (68, .if_icmp .eq 57, 71, 125, 0, 0),
  (71, .aload_n 0, 72, 0, 0, 0),
  (72, .getfield 61, 75, 735, 0, 1076),
  (75, .bipush 8, 77, 0, 8, 0),
  (77, .iload_n 2, 78, 0, 0, 0),
  (78, .imul, 79, 0, 0, 0),
  (79, .iload_n 1, 80, 0, 0, 0),
  (80, .iadd, 81, 0, 0, 0),
  (81, .baload, 82, 0, 0, 0),
  (82, .ifCond .eq 6, 85, 88, 0, 0),
  (85, .goto 40, 88, 125, 0, 0),
  (88, .aload_n 0, 89, 0, 0, 0),
  (89, .getfield 61, 92, 735, 0, 1076),
  (92, .bipush 8, 94, 0, 8, 0),
  (94, .iload_n 2, 95, 0, 0, 0),
  (95, .imul, 96, 0, 0, 0),
  (96, .iload_n 1, 97, 0, 0, 0),
  (97, .iadd, 98, 0, 0, 0),
  (98, .iconst 1, 99, 0, 1, 0),
  (99, .bastore, 100, 0, 0, 0),
  (100, .aload_n 0, 101, 0, 0, 0),
  (101, .iload_n 3, 102, 0, 0, 0),
  (102, .invokevirtual 306, 105, 201, 0, 1455),
  (105, .ifCond .ne 6, 108, 111, 0, 0),
  (108, .goto 17, 111, 125, 0, 0),
  (111, .aload_n 0, 112, 0, 0, 0),
  (112, .getfield 55, 115, 733, 0, 1074),
  (115, .bipush 8, 117, 0, 8, 0),
  (117, .iload_n 2, 118, 0, 0, 0),
  (118, .imul, 119, 0, 0, 0),
  (119, .iload_n 1, 120, 0, 0, 0),
  (120, .iadd, 121, 0, 0, 0),
  (121, .iconst (-1), 122, 0, (-1), 0),
  (122, .iastore, 123, 0, 0, 0),
  (123, .iconst 1, 124, 0, 1, 0),
  (124, .ireturn, 125, 0, 0, 0),
  (125, .iinc 2 1, 128, 0, 1, 0),
  (128, .goto (-80), 131, 48, 0, 0),
  (131, .iconst 0, 132, 0, 0, 0),
  (132, .ireturn, 133, 0, 0, 0)]
def kX11_flow : List mj_E := [
  (0, .aload_n 0, 1, 0, 0, 0),
  (1, .iconst 0, 2, 0, 0, 0),
  (2, .putfield 95, 5, 709, 0, 1050),
  (5, .iload_n 1, 6, 0, 0, 0),
  (6, .iconst 1, 7, 0, 1, 0),
  (7, .bipush 8, 9, 0, 8, 0),
  (9, .invokestatic 101, 12, 132, 0, 1197),
  (12, .ifCond .ne 5, 15, 17, 0, 0),
  (15, .iconst (-1), 16, 0, (-1), 0),
  (16, .ireturn, 17, 0, 0, 0),
  (17, .aload_n 0, 18, 0, 0, 0),
  (18, .iload_n 1, 19, 0, 0, 0),
  (19, .invokevirtual 312, 22, 200, 0, 1451),
  (22, .iconst 0, 23, 0, 0, 0),
  (23, .istore_n 2, 24, 0, 0, 0),
  (24, .iload_n 2, 25, 0, 0, 0),
  (25, .bipush 64, 27, 0, 64, 0),
  (27, .if_icmp .ge 16, 30, 43, 0, 0),
  (30, .aload_n 0, 31, 0, 0, 0),
  (31, .getfield 55, 34, 733, 0, 1074),
  (34, .iload_n 2, 35, 0, 0, 0),
  (35, .iconst (-1), 36, 0, (-1), 0),
  (36, .iastore, 37, 0, 0, 0),
  (37, .iinc 2 1, 40, 0, 1, 0),
  (40, .goto (-16), 43, 24, 0, 0),
  (43, .iconst 0, 44, 0, 0, 0),
  (44, .istore_n 2, 45, 0, 0, 0),
  (45, .iload_n 2, 46, 0, 0, 0),
  (46, .bipush 8, 48, 0, 8, 0),
  (48, .if_icmp .ge 16, 51, 64, 0, 0),
  (51, .aload_n 0, 52, 0, 0, 0),
  (52, .getfield 58, 55, 734, 0, 1075),
  (55, .iload_n 2, 56, 0, 0, 0),
  (56, .iconst 0, 57, 0, 0, 0),
  (57, .iastore, 58, 0, 0, 0),
  (58, .iinc 2 1, 61, 0, 1, 0),
  (61, .goto (-16), 64, 45, 0, 0),
  (64, .iconst 0, 65, 0, 0, 0),
  (65, .istore_n 2, 66, 0, 0, 0),
  (66, .iconst 0, 67, 0, 0, 0),
  (67, .istore_n 3, 68, 0, 0, 0),
  (68, .iload_n 3, 69, 0, 0, 0),
  (69, .aload_n 0, 70, 0, 0, 0),
  (70, .getfield 303, 73, 732, 0, 1073),
  (73, .if_icmp .ge 73, 76, 146, 0, 0),
  (76, .iconst 0, 77, 0, 0, 0),
  (77, .istore 4, 79, 0, 0, 0),
  (79, .iload 4, 81, 0, 0, 0),
  (81, .bipush 64, 83, 0, 64, 0),
  (83, .if_icmp .ge 17, 86, 100, 0, 0),
  (86, .aload_n 0, 87, 0, 0, 0),
  (87, .getfield 61, 90, 735, 0, 1076),
  (90, .iload 4, 92, 0, 0, 0),
  (92, .iconst 0, 93, 0, 0, 0),
  (93, .bastore, 94, 0, 0, 0),
  (94, .iinc 4 1, 97, 0, 1, 0),
  (97, .goto (-18), 100, 79, 0, 0),
  (100, .iconst 0, 101, 0, 0, 0),
  (101, .istore 4, 103, 0, 0, 0),
  (103, .iload 4, 105, 0, 0, 0),
  (105, .bipush 8, 107, 0, 8, 0),
  (107, .if_icmp .ge 17, 110, 124, 0, 0),
  (110, .aload_n 0, 111, 0, 0, 0),
  (111, .getfield 65, 114, 736, 0, 1077),
  (114, .iload 4, 116, 0, 0, 0),
  (116, .iconst 0, 117, 0, 0, 0),
  (117, .bastore, 118, 0, 0, 0),
  (118, .iinc 4 1, 121, 0, 1, 0),
  (121, .goto (-18), 124, 103, 0, 0),
  (124, .iload_n 2, 125, 0, 0, 0),
  (125, .aload_n 0, 126, 0, 0, 0),
  (126, .iload_n 3, 127, 0, 0, 0),
  (127, .invokevirtual 306, 130, 201, 0, 1455),
  (130, .ifCond .eq 7, 133, 137, 0, 0),
  (133, .iconst 1, 134, 0, 1, 0),
  (134, .goto 4, 137, 138, 0, 0),
  (137, .iconst 0, 138, 0, 0, 0),
  (138, .iadd, 139, 0, 0, 0),
  (139, .istore_n 2, 140, 0, 0, 0),
  (140, .iinc 3 1, 143, 0, 1, 0),
  (143, .goto (-75), 146, 68, 0, 0),
  (146, .aload_n 0, 147, 0, 0, 0),
  (147, .iconst 0, 148, 0, 0, 0),
  (148, .putfield 98, 151, 708, 0, 1049),
  (151, .aload_n 0, 152, 0, 0, 0),
  (152, .aload_n 0, 153, 0, 0, 0),
  (153, .getfield 303, 156, 732, 0, 1073),
  (156, .i2l, 157, 0, 0, 0),
  (157, .invokevirtual 119, 160, 135, 0, 1338),
  (160, .iload_n 2, 161, 0, 0, 0),
  (161, .ireturn, 162, 0, 0, 0)]
def kX11_waits : List mj_E := [
  (0, .aload_n 0, 1, 0, 0, 0),
  (1, .iconst 0, 2, 0, 0, 0),
  (2, .putfield 95, 5, 709, 0, 1050),
  (5, .aload_n 0, 6, 0, 0, 0),
  (6, .iload_n 1, 7, 0, 0, 0),
  (7, .invokevirtual 243, 10, 137, 0, 1281),
  (10, .ifCond .ne 5, 13, 15, 0, 0),
  (13, .iconst (-1), 14, 0, (-1), 0),
  (14, .ireturn, 15, 0, 0, 0),
  (15, .iconst 0, 16, 0, 0, 0),
  (16, .istore_n 2, 17, 0, 0, 0),
  (17, .iload_n 2, 18, 0, 0, 0),
  (18, .bipush 12, 20, 0, 12, 0),
  (20, .if_icmp .gt 93, 23, 113, 0, 0),
  (23, .aload_n 0, 24, 0, 0, 0),
  (24, .getfield 9, 27, 704, 0, 1045),
  (27, .aload_n 0, 28, 0, 0, 0),
  (28, .getfield 43, 31, 725, 0, 1066),
  (31, .iconst 0, 32, 0, 0, 0),
  (32, .invokestatic 225, 35, 170, 0, 1251),
  (35, .iconst 1, 36, 0, 1, 0),
  (36, .istore_n 3, 37, 0, 0, 0),
  (37, .iconst 0, 38, 0, 0, 0),
  (38, .istore 4, 40, 0, 0, 0),
  (40, .iload 4, 42, 0, 0, 0),
  (42, .bipush 60, 44, 0, 60, 0),
  (44, .if_icmp .ge 46, 47, 90, 0, 0),
  (47, .iload_n 3, 48, 0, 0, 0),
  (48, .ifCond .eq 42, 51, 90, 0, 0),
  (51, .aload_n 0, 52, 0, 0, 0),
  (52, .aload_n 0, 53, 0, 0, 0),
  (53, .getfield 43, 56, 725, 0, 1066),
  (56, .iload 4, 58, 0, 0, 0),
  (58, .iload_n 2, 59, 0, 0, 0),
  (59, .if_icmp .ge 7, 62, 66, 0, 0),
  (62, .iload_n 1, 63, 0, 0, 0),
  (63, .goto 4, 66, 67, 0, 0),
  (66, .iconst (-1), 67, 0, (-1), 0),
  (67, .invokevirtual 266, 70, 172, 0, 1316),
  (70, .pop, 71, 0, 0, 0),
  (71, .aload_n 0, 72, 0, 0, 0),
  (72, .getfield 263, 75, 727, 0, 1068),
  (75, .ifCond .ne 7, 78, 82, 0, 0),
  (78, .iconst 1, 79, 0, 1, 0),
  (79, .goto 4, 82, 83, 0, 0),
  (82, .iconst 0, 83, 0, 0, 0),
  (83, .istore_n 3, 84, 0, 0, 0),
  (84, .iinc 4 1, 87, 0, 1, 0),
  (87, .goto (-47), 90, 40, 0, 0),
  (90, .iload_n 3, 91, 0, 0, 0),
  (91, .ifCond .ne 16, 94, 107, 0, 0),
  (94, .iload_n 2, 95, 0, 0, 0),
  (95, .ifCond .ne 8, 98, 103, 0, 0),
  (98, .bipush (-2), 100, 0, (-2), 0),
  (100, .goto 6, 103, 106, 0, 0),
  (103, .iload_n 2, 104, 0, 0, 0),
  (104, .iconst 1, 105, 0, 1, 0),
  (105, .isub, 106, 0, 0, 0),
  (106, .ireturn, 107, 0, 0, 0),
  (107, .iinc 2 1, 110, 0, 1, 0),
  (110, .goto (-93), 113, 17, 0, 0),
  (113, .bipush 12, 115, 0, 12, 0),
  (115, .ireturn, 116, 0, 0, 0)]
def kX11_room : List mj_E := [
  (0, .aload_n 0, 1, 0, 0, 0),
  (1, .iconst 0, 2, 0, 0, 0),
  (2, .putfield 95, 5, 709, 0, 1050),
  (5, .aload_n 0, 6, 0, 0, 0),
  (6, .getfield 9, 9, 704, 0, 1045),
  (9, .invokestatic 209, 12, 138, 0, 1212),
  (12, .sipush 255, 15, 0, 255, 0),
  (15, .if_icmp .ne 6, 18, 21, 0, 0),
  (18, .bipush (-2), 20, 0, (-2), 0),
  (20, .ireturn, 21, 0, 0, 0),
  (21, .aload_n 0, 22, 0, 0, 0),
  (22, .aload_n 0, 23, 0, 0, 0),
  (23, .getfield 9, 26, 704, 0, 1045),
  (26, .invokevirtual 229, 29, 141, 0, 1254),
  (29, .aload_n 0, 30, 0, 0, 0),
  (30, .getfield 9, 33, 704, 0, 1045),
  (33, .bipush 40, 35, 0, 40, 0),
  (35, .iaload, 36, 0, 0, 0),
  (36, .i2l, 37, 0, 0, 0),
  (37, .aload_n 0, 38, 0, 0, 0),
  (38, .getfield 127, 41, 714, 0, 1055),
  (41, .lmul, 42, 0, 0, 0),
  (42, .aload_n 0, 43, 0, 0, 0),
  (43, .getfield 123, 46, 713, 0, 1054),
  (46, .lsub, 47, 0, 0, 0),
  (47, .lstore_n 1, 48, 0, 0, 0),
  (48, .iconst 0, 49, 0, 0, 0),
  (49, .istore_n 3, 50, 0, 0, 0),
  (50, .iconst 1, 51, 0, 1, 0),
  (51, .istore 4, 53, 0, 0, 0),
  (53, .iconst 1, 54, 0, 1, 0),
  (54, .istore 5, 56, 0, 0, 0),
  (56, .iload 5, 58, 0, 0, 0),
  (58, .bipush 12, 60, 0, 12, 0),
  (60, .if_icmp .gt 64, 63, 124, 0, 0),
  (63, .iconst 1, 64, 0, 1, 0),
  (64, .istore 6, 66, 0, 0, 0),
  (66, .iload 6, 68, 0, 0, 0),
  (68, .iload 5, 70, 0, 0, 0),
  (70, .if_icmp .gt 48, 73, 118, 0, 0),
  (73, .iload 6, 75, 0, 0, 0),
  (75, .i2l, 76, 0, 0, 0),
  (76, .aload_n 0, 77, 0, 0, 0),
  (77, .getfield 127, 80, 714, 0, 1055),
  (80, .lmul, 81, 0, 0, 0),
  (81, .lload_n 1, 82, 0, 0, 0),
  (82, .iload 5, 84, 0, 0, 0),
  (84, .i2l, 85, 0, 0, 0),
  (85, .lmul, 86, 0, 0, 0),
  (86, .lcmp, 87, 0, 0, 0),
  (87, .ifCond .gt 25, 90, 112, 0, 0),
  (90, .iload 6, 92, 0, 0, 0),
  (92, .iload 4, 94, 0, 0, 0),
  (94, .imul, 95, 0, 0, 0),
  (95, .iload_n 3, 96, 0, 0, 0),
  (96, .iload 5, 98, 0, 0, 0),
  (98, .imul, 99, 0, 0, 0),
  (99, .if_icmp .gt 6, 102, 105, 0, 0),
  (102, .goto 10, 105, 112, 0, 0),
  (105, .iload 6, 107, 0, 0, 0),
  (107, .istore_n 3, 108, 0, 0, 0),
  (108, .iload 5, 110, 0, 0, 0),
  (110, .istore 4, 112, 0, 0, 0),
  (112, .iinc 6 1, 115, 0, 1, 0),
  (115, .goto (-49), 118, 66, 0, 0),
  (118, .iinc 5 1, 121, 0, 1, 0),
  (121, .goto (-65), 124, 56, 0, 0),
  (124, .iload_n 3, 125, 0, 0, 0),
  (125, .ifCond .ne 6, 128, 131, 0, 0),
  (128, .bipush (-2), 130, 0, (-2), 0),
  (130, .ireturn, 131, 0, 0, 0),
  (131, .aload_n 0, 132, 0, 0, 0),
  (132, .iconst 0, 133, 0, 0, 0),
  (133, .putfield 98, 136, 708, 0, 1049),
  (136, .aload_n 0, 137, 0, 0, 0),
  (137, .iload_n 3, 138, 0, 0, 0),
  (138, .i2l, 139, 0, 0, 0),
  (139, .invokevirtual 119, 142, 135, 0, 1338),
  (142, .aload_n 0, 143, 0, 0, 0),
  (143, .iload 4, 145, 0, 0, 0),
  (145, .i2l, 146, 0, 0, 0),
  (146, .invokevirtual 119, 149, 135, 0, 1338),
  (149, .iconst 0, 150, 0, 0, 0),
  (150, .ireturn, 151, 0, 0, 0)]
def kX11_fewest : List mj_E := [
  (0, .aload_n 0, 1, 0, 0, 0),
  (1, .iconst 0, 2, 0, 0, 0),
  (2, .putfield 95, 5, 709, 0, 1050),
  (5, .aload_n 0, 6, 0, 0, 0),
  (6, .aload_n 0, 7, 0, 0, 0),
  (7, .getfield 9, 10, 704, 0, 1045),
  (10, .invokevirtual 229, 13, 141, 0, 1254),
  (13, .aload_n 0, 14, 0, 0, 0),
  (14, .getfield 123, 17, 713, 0, 1054),
  (17, .aload_n 0, 18, 0, 0, 0),
  (18, .getfield 127, 21, 714, 0, 1055),
  (21, .ladd, 22, 0, 0, 0),
  (22, .lconst 1, 23, 0, 0, 0),
  (23, .lsub, 24, 0, 0, 0),
  (24, .aload_n 0, 25, 0, 0, 0),
  (25, .getfield 127, 28, 714, 0, 1055),
  (28, .ldiv, 29, 0, 0, 0),
  (29, .l2i, 30, 0, 0, 0),
  (30, .istore_n 1, 31, 0, 0, 0),
  (31, .iconst 0, 32, 0, 0, 0),
  (32, .istore_n 2, 33, 0, 0, 0),
  (33, .iload_n 2, 34, 0, 0, 0),
  (34, .bipush 8, 36, 0, 8, 0),
  (36, .if_icmp .ge 16, 39, 52, 0, 0),
  (39, .aload_n 0, 40, 0, 0, 0),
  (40, .getfield 68, 43, 737, 0, 1078),
  (43, .iload_n 2, 44, 0, 0, 0),
  (44, .iconst 0, 45, 0, 0, 0),
  (45, .bastore, 46, 0, 0, 0),
  (46, .iinc 2 1, 49, 0, 1, 0),
  (49, .goto (-16), 52, 33, 0, 0),
  (52, .lconst 0, 53, 0, 0, 0),
  (53, .lstore_n 2, 54, 0, 0, 0),
  (54, .lconst 1, 55, 0, 0, 0),
  (55, .lstore 4, 57, 0, 0, 0),
  (57, .iconst 0, 58, 0, 0, 0),
  (58, .istore 6, 60, 0, 0, 0),
  (60, .iload_n 1, 61, 0, 0, 0),
  (61, .ifCond .le 184, 64, 245, 0, 0),
  (64, .lload_n 2, 65, 0, 0, 0),
  (65, .iload_n 1, 66, 0, 0, 0),
  (66, .iconst 1, 67, 0, 1, 0),
  (67, .isub, 68, 0, 0, 0),
  (68, .i2l, 69, 0, 0, 0),
  (69, .lload 4, 71, 0, 0, 0),
  (71, .lmul, 72, 0, 0, 0),
  (72, .lcmp, 73, 0, 0, 0),
  (73, .ifCond .gt 172, 76, 245, 0, 0),
  (76, .iconst (-1), 77, 0, (-1), 0),
  (77, .istore 7, 79, 0, 0, 0),
  (79, .iconst 0, 80, 0, 0, 0),
  (80, .istore 8, 82, 0, 0, 0),
  (82, .iload 8, 84, 0, 0, 0),
  (84, .bipush 8, 86, 0, 8, 0),
  (86, .if_icmp .ge 83, 89, 169, 0, 0),
  (89, .aload_n 0, 90, 0, 0, 0),
  (90, .getfield 9, 93, 704, 0, 1045),
  (93, .iload 8, 95, 0, 0, 0),
  (95, .invokestatic 105, 98, 136, 0, 1215),
  (98, .ifCond .eq 65, 101, 163, 0, 0),
  (101, .aload_n 0, 102, 0, 0, 0),
  (102, .getfield 68, 105, 737, 0, 1078),
  (105, .iload 8, 107, 0, 0, 0),
  (107, .baload, 108, 0, 0, 0),
  (108, .ifCond .eq 6, 111, 114, 0, 0),
  (111, .goto 52, 114, 163, 0, 0),
  (114, .iload 7, 116, 0, 0, 0),
  (116, .iconst (-1), 117, 0, (-1), 0),
  (117, .if_icmp .eq 42, 120, 159, 0, 0),
  (120, .aload_n 0, 121, 0, 0, 0),
  (121, .getfield 9, 124, 704, 0, 1045),
  (124, .iload 8, 126, 0, 0, 0),
  (126, .iaload, 127, 0, 0, 0),
  (127, .aload_n 0, 128, 0, 0, 0),
  (128, .getfield 9, 131, 704, 0, 1045),
  (131, .bipush 8, 133, 0, 8, 0),
  (133, .iload 7, 135, 0, 0, 0),
  (135, .iadd, 136, 0, 0, 0),
  (136, .iaload, 137, 0, 0, 0),
  (137, .imul, 138, 0, 0, 0),
  (138, .aload_n 0, 139, 0, 0, 0),
  (139, .getfield 9, 142, 704, 0, 1045),
  (142, .iload 7, 144, 0, 0, 0),
  (144, .iaload, 145, 0, 0, 0),
  (145, .aload_n 0, 146, 0, 0, 0),
  (146, .getfield 9, 149, 704, 0, 1045),
  (149, .bipush 8, 151, 0, 8, 0),
  (151, .iload 8, 153, 0, 0, 0),
  (153, .iadd, 154, 0, 0, 0),
  (154, .iaload, 155, 0, 0, 0),
  (155, .imul, 156, 0, 0, 0),
  (156, .if_icmp .le 7, 159, 163, 0, 0),
  (159, .iload 8, 161, 0, 0, 0),
  (161, .istore 7, 163, 0, 0, 0),
  (163, .iinc 8 1, 166, 0, 1, 0),
  (166, .goto (-84), 169, 82, 0, 0),
  (169, .aload_n 0, 170, 0, 0, 0),
  (170, .getfield 68, 173, 737, 0, 1078),
  (173, .iload 7, 175, 0, 0, 0),
  (175, .iconst 1, 176, 0, 1, 0),
  (176, .bastore, 177, 0, 0, 0),
  (177, .lload_n 2, 178, 0, 0, 0),
  (178, .aload_n 0, 179, 0, 0, 0),
  (179, .getfield 9, 182, 704, 0, 1045),
  (182, .bipush 8, 184, 0, 8, 0),
  (184, .iload 7, 186, 0, 0, 0),
  (186, .iadd, 187, 0, 0, 0),
  (187, .iaload, 188, 0, 0, 0),
  (188, .i2l, 189, 0, 0, 0),
  (189, .lmul, 190, 0, 0, 0),
  (190, .aload_n 0, 191, 0, 0, 0),
  (191, .getfield 9, 194, 704, 0, 1045),
  (194, .iload 7, 196, 0, 0, 0),
  (196, .iaload, 197, 0, 0, 0),
  (197, .i2l, 198, 0, 0, 0),
  (198, .lload 4, 200, 0, 0, 0),
  (200, .lmul, 201, 0, 0, 0),
  (201, .ladd, 202, 0, 0, 0),
  (202, .lstore_n 2, 203, 0, 0, 0),
  (203, .lload 4, 205, 0, 0, 0),
  (205, .aload_n 0, 206, 0, 0, 0),
  (206, .getfield 9, 209, 704, 0, 1045),
  (209, .bipush 8, 211, 0, 8, 0),
  (211, .iload 7, 213, 0, 0, 0),
  (213, .iadd, 214, 0, 0, 0),
  (214, .iaload, 215, 0, 0, 0),
  (215, .i2l, 216, 0, 0, 0),
  (216, .lmul, 217, 0, 0, 0),
  (217, .lstore 4, 219, 0, 0, 0),
  (219, .lload_n 2, 220, 0, 0, 0),
  (220, .lload 4, 222, 0, 0, 0),
  (222, .invokestatic 115, 225, 139, 0, 1258),
  (225, .lstore 8, 227, 0, 0, 0),
  (227, .lload_n 2, 228, 0, 0, 0),
  (228, .lload 8, 230, 0, 0, 0),
  (230, .ldiv, 231, 0, 0, 0),
  (231, .lstore_n 2, 232, 0, 0, 0),
  (232, .lload 4, 234, 0, 0, 0),
  (234, .lload 8, 236, 0, 0, 0),
  (236, .ldiv, 237, 0, 0, 0),
  (237, .lstore 4, 239, 0, 0, 0),
  (239, .iinc 6 1, 242, 0, 1, 0),
  (242, .goto (-182), 245, 60, 0, 0),
  (245, .aload_n 0, 246, 0, 0, 0),
  (246, .iconst 0, 247, 0, 0, 0),
  (247, .putfield 98, 250, 708, 0, 1049),
  (250, .aload_n 0, 251, 0, 0, 0),
  (251, .iload 6, 253, 0, 0, 0),
  (253, .i2l, 254, 0, 0, 0),
  (254, .invokevirtual 119, 257, 135, 0, 1338),
  (257, .iload_n 1, 258, 0, 0, 0),
  (258, .ireturn, 259, 0, 0, 0)]
def kX11_lowOf : List mj_E := [
  (0, .iload_n 0, 1, 0, 0, 0),
  (1, .iconst 2, 2, 0, 2, 0),
  (2, .if_icmp .ge 7, 5, 9, 0, 0),
  (5, .iconst 1, 6, 0, 1, 0),
  (6, .goto 4, 9, 10, 0, 0),
  (9, .iconst 0, 10, 0, 0, 0),
  (10, .ireturn, 11, 0, 0, 0)]
def kX11_highOf : List mj_E := [
  (0, .iload_n 0, 1, 0, 0, 0),
  (1, .iconst 2, 2, 0, 2, 0),
  (2, .if_icmp .ge 8, 5, 10, 0, 0),
  (5, .bipush 12, 7, 0, 12, 0),
  (7, .goto 14, 10, 21, 0, 0),
  (10, .iload_n 0, 11, 0, 0, 0),
  (11, .iconst 4, 12, 0, 4, 0),
  (12, .if_icmp .ge 7, 15, 19, 0, 0),
  (15, .iconst 1, 16, 0, 1, 0),
  (16, .goto 5, 19, 21, 0, 0),
  (19, .bipush 20, 21, 0, 20, 0),
  (21, .ireturn, 22, 0, 0, 0)]
def kX11_heard : List mj_E := [
  (0, .aload_n 0, 1, 0, 0, 0),
  (1, .iconst 0, 2, 0, 0, 0),
  (2, .putfield 95, 5, 709, 0, 1050),
  (5, .iload_n 1, 6, 0, 0, 0),
  (6, .iconst 0, 7, 0, 0, 0),
  (7, .iconst 4, 8, 0, 4, 0),
  (8, .invokestatic 101, 11, 132, 0, 1197),
  (11, .ifCond .eq 27, 14, 38, 0, 0),
  (14, .iload_n 2, 15, 0, 0, 0),
  (15, .iload_n 1, 16, 0, 0, 0),
  (16, .invokestatic 315, 19, 207, 0, 1479),
  (19, .iload_n 1, 20, 0, 0, 0),
  (20, .invokestatic 318, 23, 208, 0, 1482),
  (23, .invokestatic 101, 26, 132, 0, 1197),
  (26, .ifCond .eq 12, 29, 38, 0, 0),
  (29, .aload_n 0, 30, 0, 0, 0),
  (30, .getfield 321, 33, 740, 0, 1081),
  (33, .bipush 12, 35, 0, 12, 0),
  (35, .if_icmp .ne 5, 38, 40, 0, 0),
  (38, .iconst (-1), 39, 0, (-1), 0),
  (39, .ireturn, 40, 0, 0, 0),
  (40, .aload_n 0, 41, 0, 0, 0),
  (41, .getfield 71, 44, 738, 0, 1079),
  (44, .aload_n 0, 45, 0, 0, 0),
  (45, .getfield 321, 48, 740, 0, 1081),
  (48, .iload_n 1, 49, 0, 0, 0),
  (49, .iastore, 50, 0, 0, 0),
  (50, .aload_n 0, 51, 0, 0, 0),
  (51, .getfield 74, 54, 739, 0, 1080),
  (54, .aload_n 0, 55, 0, 0, 0),
  (55, .getfield 321, 58, 740, 0, 1081),
  (58, .iload_n 2, 59, 0, 0, 0),
  (59, .iastore, 60, 0, 0, 0),
  (60, .aload_n 0, 61, 0, 0, 0),
  (61, .dup, 62, 0, 0, 0),
  (62, .getfield 321, 65, 740, 0, 1081),
  (65, .iconst 1, 66, 0, 1, 0),
  (66, .iadd, 67, 0, 0, 0),
  (67, .putfield 321, 70, 740, 0, 1081),
  (70, .aload_n 0, 71, 0, 0, 0),
  (71, .getfield 321, 74, 740, 0, 1081),
  (74, .ireturn, 75, 0, 0, 0)]
def kX11_forget : List mj_E := [
  (0, .aload_n 0, 1, 0, 0, 0),
  (1, .iconst 0, 2, 0, 0, 0),
  (2, .putfield 95, 5, 709, 0, 1050),
  (5, .aload_n 0, 6, 0, 0, 0),
  (6, .getfield 321, 9, 740, 0, 1081),
  (9, .istore_n 1, 10, 0, 0, 0),
  (10, .aload_n 0, 11, 0, 0, 0),
  (11, .iconst 0, 12, 0, 0, 0),
  (12, .putfield 321, 15, 740, 0, 1081),
  (15, .iload_n 1, 16, 0, 0, 0),
  (16, .ireturn, 17, 0, 0, 0)]
def kX11_isSo : List mj_E := [
  (0, .iload_n 2, 1, 0, 0, 0),
  (1, .tableswitch 137 0 3 #[31, 50, 66, 93], 32, 0, 0, 0),
  (32, .aload_n 0, 33, 0, 0, 0),
  (33, .getfield 9, 36, 704, 0, 1045),
  (36, .bipush 8, 38, 0, 8, 0),
  (38, .iload_n 1, 39, 0, 0, 0),
  (39, .iadd, 40, 0, 0, 0),
  (40, .iaload, 41, 0, 0, 0),
  (41, .iload_n 3, 42, 0, 0, 0),
  (42, .if_icmp .ne 7, 45, 49, 0, 0),
  (45, .iconst 1, 46, 0, 1, 0),
  (46, .goto 4, 49, 50, 0, 0),
  (49, .iconst 0, 50, 0, 0, 0),
  (50, .ireturn, 51, 0, 0, 0),
  (51, .aload_n 0, 52, 0, 0, 0),
  (52, .getfield 9, 55, 704, 0, 1045),
  (55, .iload_n 1, 56, 0, 0, 0),
  (56, .iaload, 57, 0, 0, 0),
  (57, .iload_n 3, 58, 0, 0, 0),
  (58, .if_icmp .lt 7, 61, 65, 0, 0),
  (61, .iconst 1, 62, 0, 1, 0),
  (62, .goto 4, 65, 66, 0, 0),
  (65, .iconst 0, 66, 0, 0, 0),
  (66, .ireturn, 67, 0, 0, 0),
  (67, .aload_n 0, 68, 0, 0, 0),
  (68, .getfield 9, 71, 704, 0, 1045),
  (71, .iload_n 1, 72, 0, 0, 0),
  (72, .invokestatic 154, 75, 147, 0, 1327),
  (75, .iload_n 3, 76, 0, 0, 0),
  (76, .iconst 1, 77, 0, 1, 0),
  (77, .if_icmp .ne 7, 80, 84, 0, 0),
  (80, .iconst 1, 81, 0, 1, 0),
  (81, .goto 4, 84, 85, 0, 0),
  (84, .iconst 0, 85, 0, 0, 0),
  (85, .if_icmp .ne 7, 88, 92, 0, 0),
  (88, .iconst 1, 89, 0, 1, 0),
  (89, .goto 4, 92, 93, 0, 0),
  (92, .iconst 0, 93, 0, 0, 0),
  (93, .ireturn, 94, 0, 0, 0),
  (94, .iconst 2, 95, 0, 2, 0),
  (95, .aload_n 0, 96, 0, 0, 0),
  (96, .getfield 9, 99, 704, 0, 1045),
  (99, .iload_n 1, 100, 0, 0, 0),
  (100, .iaload, 101, 0, 0, 0),
  (101, .imul, 102, 0, 0, 0),
  (102, .aload_n 0, 103, 0, 0, 0),
  (103, .getfield 9, 106, 704, 0, 1045),
  (106, .bipush 8, 108, 0, 8, 0),
  (108, .iload_n 1, 109, 0, 0, 0),
  (109, .iadd, 110, 0, 0, 0),
  (110, .iaload, 111, 0, 0, 0),
  (111, .if_icmp .lt 7, 114, 118, 0, 0),
  (114, .iconst 1, 115, 0, 1, 0),
  (115, .goto 4, 118, 119, 0, 0),
  (118, .iconst 0, 119, 0, 0, 0),
  (119, .iload_n 3, 120, 0, 0, 0),
  (120, .iconst 1, 121, 0, 1, 0),
  (121, .if_icmp .ne 7, 124, 128, 0, 0),
  (124, .iconst 1, 125, 0, 1, 0),
  (125, .goto 4, 128, 129, 0, 0),
  (128, .iconst 0, 129, 0, 0, 0),
  (129, .if_icmp .ne 7, 132, 136, 0, 0),
  (132, .iconst 1, 133, 0, 1, 0),
  (133, .goto 4, 136, 137, 0, 0),
  (136, .iconst 0, 137, 0, 0, 0),
  (137, .ireturn, 138, 0, 0, 0),
  (138, .aload_n 0, 139, 0, 0, 0),
  (139, .getfield 9, 142, 704, 0, 1045),
  (142, .bipush 32, 144, 0, 32, 0),
  (144, .iload_n 1, 145, 0, 0, 0),
  (145, .iadd, 146, 0, 0, 0),
  (146, .iaload, 147, 0, 0, 0),
  (147, .iload_n 3, 148, 0, 0, 0),
  (148, .if_icmp .lt 7, 151, 155, 0, 0),
  (151, .iconst 1, 152, 0, 1, 0),
  (152, .goto 4, 155, 156, 0, 0),
  (155, .iconst 0, 156, 0, 0, 0),
  (156, .ireturn, 157, 0, 0, 0)]
def kX11_fitting : List mj_E := [
  (0, .iconst 0, 1, 0, 0, 0),
  (1, .istore_n 1, 2, 0, 0, 0),
  (2, .iconst 0, 3, 0, 0, 0),
  (3, .istore_n 2, 4, 0, 0, 0),
  (4, .iload_n 2, 5, 0, 0, 0),
  (5, .bipush 8, 7, 0, 8, 0),
  (7, .if_icmp .ge 74, 10, 81, 0, 0),
  (10, .aload_n 0, 11, 0, 0, 0),
  (11, .getfield 9, 14, 704, 0, 1045),
  (14, .iload_n 2, 15, 0, 0, 0),
  (15, .invokestatic 105, 18, 136, 0, 1215),
  (18, .istore_n 3, 19, 0, 0, 0),
  (19, .iconst 0, 20, 0, 0, 0),
  (20, .istore 4, 22, 0, 0, 0),
  (22, .iload 4, 24, 0, 0, 0),
  (24, .aload_n 0, 25, 0, 0, 0),
  (25, .getfield 321, 28, 740, 0, 1081),
  (28, .if_icmp .ge 33, 31, 61, 0, 0),
  (31, .iload_n 3, 32, 0, 0, 0),
  (32, .ifCond .eq 29, 35, 61, 0, 0),
  (35, .aload_n 0, 36, 0, 0, 0),
  (36, .iload_n 2, 37, 0, 0, 0),
  (37, .aload_n 0, 38, 0, 0, 0),
  (38, .getfield 71, 41, 738, 0, 1079),
  (41, .iload 4, 43, 0, 0, 0),
  (43, .iaload, 44, 0, 0, 0),
  (44, .aload_n 0, 45, 0, 0, 0),
  (45, .getfield 74, 48, 739, 0, 1080),
  (48, .iload 4, 50, 0, 0, 0),
  (50, .iaload, 51, 0, 0, 0),
  (51, .invokevirtual 324, 54, 211, 0, 1497),
  (54, .istore_n 3, 55, 0, 0, 0),
  (55, .iinc 4 1, 58, 0, 1, 0),
  (58, .goto (-36), 61, 22, 0, 0),
  (61, .iload_n 1, 62, 0, 0, 0),
  (62, .iload_n 3, 63, 0, 0, 0),
  (63, .ifCond .eq 9, 66, 72, 0, 0),
  (66, .iconst 1, 67, 0, 1, 0),
  (67, .iload_n 2, 68, 0, 0, 0),
  (68, .ishl, 69, 0, 0, 0),
  (69, .goto 4, 72, 73, 0, 0),
  (72, .iconst 0, 73, 0, 0, 0),
  (73, .ior, 74, 0, 0, 0),
  (74, .istore_n 1, 75, 0, 0, 0),
  (75, .iinc 2 1, 78, 0, 1, 0),
  (78, .goto (-74), 81, 4, 0, 0),
  (81, .iload_n 1, 82, 0, 0, 0),
  (82, .ireturn, 83, 0, 0, 0)]
def kX11_fits : List mj_E := [
  (0, .aload_n 0, 1, 0, 0, 0),
  (1, .iconst 0, 2, 0, 0, 0),
  (2, .putfield 95, 5, 709, 0, 1050),
  (5, .aload_n 0, 6, 0, 0, 0),
  (6, .invokevirtual 327, 9, 212, 0, 1493),
  (9, .istore_n 1, 10, 0, 0, 0),
  (10, .aload_n 0, 11, 0, 0, 0),
  (11, .iconst 0, 12, 0, 0, 0),
  (12, .putfield 98, 15, 708, 0, 1049),
  (15, .aload_n 0, 16, 0, 0, 0),
  (16, .iload_n 1, 17, 0, 0, 0),
  (17, .invokestatic 213, 20, 236, 0, 1218),
  (20, .i2l, 21, 0, 0, 0),
  (21, .invokevirtual 119, 24, 135, 0, 1338),
  (24, .iload_n 1, 25, 0, 0, 0),
  (25, .ireturn, 26, 0, 0, 0)]
def kX11_asks : List mj_E := [
  (0, .aload_n 0, 1, 0, 0, 0),
  (1, .iconst 0, 2, 0, 0, 0),
  (2, .putfield 95, 5, 709, 0, 1050),
  (5, .aload_n 0, 6, 0, 0, 0),
  (6, .invokevirtual 327, 9, 212, 0, 1493),
  (9, .istore_n 1, 10, 0, 0, 0),
  (10, .iload_n 1, 11, 0, 0, 0),
  (11, .ifCond .ne 6, 14, 17, 0, 0),
  (14, .bipush (-2), 16, 0, (-2), 0),
  (16, .ireturn, 17, 0, 0, 0),
  (17, .iconst (-1), 18, 0, (-1), 0),
  (18, .istore_n 2, 19, 0, 0, 0),
  (19, .ldc_w 330, 22, 0, 1000000, 1505),
  (22, .istore_n 3, 23, 0, 0, 0),
  (23, .iconst 0, 24, 0, 0, 0),
  (24, .istore 4, 26, 0, 0, 0),
  (26, .iload 4, 28, 0, 0, 0),
  (28, .iconst 5, 29, 0, 5, 0),
  (29, .if_icmp .ge 118, 32, 147, 0, 0),
  (32, .iload 4, 34, 0, 0, 0),
  (34, .invokestatic 315, 37, 207, 0, 1479),
  (37, .istore 5, 39, 0, 0, 0),
  (39, .iload 5, 41, 0, 0, 0),
  (41, .iload 4, 43, 0, 0, 0),
  (43, .invokestatic 318, 46, 208, 0, 1482),
  (46, .if_icmp .gt 95, 49, 141, 0, 0),
  (49, .iconst 0, 50, 0, 0, 0),
  (50, .istore 6, 52, 0, 0, 0),
  (52, .iconst 0, 53, 0, 0, 0),
  (53, .istore 7, 55, 0, 0, 0),
  (55, .iload 7, 57, 0, 0, 0),
  (57, .bipush 8, 59, 0, 8, 0),
  (59, .if_icmp .ge 41, 62, 100, 0, 0),
  (62, .iload 6, 64, 0, 0, 0),
  (64, .iload_n 1, 65, 0, 0, 0),
  (65, .iload 7, 67, 0, 0, 0),
  (67, .invokestatic 150, 70, 133, 0, 1324),
  (70, .ifCond .eq 20, 73, 90, 0, 0),
  (73, .aload_n 0, 74, 0, 0, 0),
  (74, .iload 7, 76, 0, 0, 0),
  (76, .iload 4, 78, 0, 0, 0),
  (78, .iload 5, 80, 0, 0, 0),
  (80, .invokevirtual 324, 83, 211, 0, 1497),
  (83, .ifCond .eq 7, 86, 90, 0, 0),
  (86, .iconst 1, 87, 0, 1, 0),
  (87, .goto 4, 90, 91, 0, 0),
  (90, .iconst 0, 91, 0, 0, 0),
  (91, .iadd, 92, 0, 0, 0),
  (92, .istore 6, 94, 0, 0, 0),
  (94, .iinc 7 1, 97, 0, 1, 0),
  (97, .goto (-42), 100, 55, 0, 0),
  (100, .iload 6, 102, 0, 0, 0),
  (102, .iload_n 1, 103, 0, 0, 0),
  (103, .invokestatic 213, 106, 236, 0, 1218),
  (106, .iload 6, 108, 0, 0, 0),
  (108, .isub, 109, 0, 0, 0),
  (109, .invokestatic 300, 112, 239, 0, 1438),
  (112, .istore 7, 114, 0, 0, 0),
  (114, .iload 7, 116, 0, 0, 0),
  (116, .iload_n 3, 117, 0, 0, 0),
  (117, .if_icmp .lt 6, 120, 123, 0, 0),
  (120, .goto 15, 123, 135, 0, 0),
  (123, .bipush 100, 125, 0, 100, 0),
  (125, .iload 4, 127, 0, 0, 0),
  (127, .imul, 128, 0, 0, 0),
  (128, .iload 5, 130, 0, 0, 0),
  (130, .iadd, 131, 0, 0, 0),
  (131, .istore_n 2, 132, 0, 0, 0),
  (132, .iload 7, 134, 0, 0, 0),
  (134, .istore_n 3, 135, 0, 0, 0),
  (135, .iinc 5 1, 138, 0, 1, 0),
  (138, .goto (-99), 141, 39, 0, 0),
  (141, .iinc 4 1, 144, 0, 1, 0),
  (144, .goto (-118), 147, 26, 0, 0),
  (147, .aload_n 0, 148, 0, 0, 0),
  (148, .iconst 0, 149, 0, 0, 0),
  (149, .putfield 98, 152, 708, 0, 1049),
  (152, .aload_n 0, 153, 0, 0, 0),
  (153, .iload_n 3, 154, 0, 0, 0),
  (154, .i2l, 155, 0, 0, 0),
  (155, .invokevirtual 119, 158, 135, 0, 1338),
  (158, .iload_n 2, 159, 0, 0, 0),
  (159, .ireturn, 160, 0, 0, 0)]
def kX11_saw : List mj_E := [
  (0, .aload_n 0, 1, 0, 0, 0),
  (1, .iconst 0, 2, 0, 0, 0),
  (2, .putfield 95, 5, 709, 0, 1050),
  (5, .iload_n 1, 6, 0, 0, 0),
  (6, .iconst 1, 7, 0, 1, 0),
  (7, .bipush 12, 9, 0, 12, 0),
  (9, .invokestatic 101, 12, 132, 0, 1197),
  (12, .ifCond .eq 23, 15, 35, 0, 0),
  (15, .iload_n 2, 16, 0, 0, 0),
  (16, .iconst 0, 17, 0, 0, 0),
  (17, .sipush 150, 20, 0, 150, 0),
  (20, .invokestatic 101, 23, 132, 0, 1197),
  (23, .ifCond .eq 12, 26, 35, 0, 0),
  (26, .aload_n 0, 27, 0, 0, 0),
  (27, .getfield 331, 30, 743, 0, 1084),
  (30, .bipush 10, 32, 0, 10, 0),
  (32, .if_icmp .ne 5, 35, 37, 0, 0),
  (35, .iconst (-1), 36, 0, (-1), 0),
  (36, .ireturn, 37, 0, 0, 0),
  (37, .aload_n 0, 38, 0, 0, 0),
  (38, .getfield 77, 41, 741, 0, 1082),
  (41, .aload_n 0, 42, 0, 0, 0),
  (42, .getfield 331, 45, 743, 0, 1084),
  (45, .iload_n 1, 46, 0, 0, 0),
  (46, .iastore, 47, 0, 0, 0),
  (47, .aload_n 0, 48, 0, 0, 0),
  (48, .getfield 80, 51, 742, 0, 1083),
  (51, .aload_n 0, 52, 0, 0, 0),
  (52, .getfield 331, 55, 743, 0, 1084),
  (55, .iload_n 2, 56, 0, 0, 0),
  (56, .iastore, 57, 0, 0, 0),
  (57, .aload_n 0, 58, 0, 0, 0),
  (58, .dup, 59, 0, 0, 0),
  (59, .getfield 331, 62, 743, 0, 1084),
  (62, .iconst 1, 63, 0, 1, 0),
  (63, .iadd, 64, 0, 0, 0),
  (64, .putfield 331, 67, 743, 0, 1084),
  (67, .aload_n 0, 68, 0, 0, 0),
  (68, .getfield 331, 71, 743, 0, 1084),
  (71, .ireturn, 72, 0, 0, 0)]
def kX11_denies : List mj_E := [
  (0, .aload_n 0, 1, 0, 0, 0),
  (1, .iconst 0, 2, 0, 0, 0),
  (2, .putfield 95, 5, 709, 0, 1050),
  (5, .aload_n 0, 6, 0, 0, 0),
  (6, .getfield 331, 9, 743, 0, 1084),
  (9, .istore_n 1, 10, 0, 0, 0),
  (10, .aload_n 0, 11, 0, 0, 0),
  (11, .iconst 0, 12, 0, 0, 0),
  (12, .putfield 331, 15, 743, 0, 1084),
  (15, .iload_n 1, 16, 0, 0, 0),
  (16, .ireturn, 17, 0, 0, 0)]
def kX11_isWeight : List mj_E := [
  (0, .iconst 0, 1, 0, 0, 0),
  (1, .istore_n 3, 2, 0, 0, 0),
  (2, .iload_n 3, 3, 0, 0, 0),
  (3, .aload_n 0, 4, 0, 0, 0),
  (4, .getfield 331, 7, 743, 0, 1084),
  (7, .if_icmp .ge 32, 10, 39, 0, 0),
  (10, .aload_n 0, 11, 0, 0, 0),
  (11, .getfield 77, 14, 741, 0, 1082),
  (14, .iload_n 3, 15, 0, 0, 0),
  (15, .iaload, 16, 0, 0, 0),
  (16, .iconst 1, 17, 0, 1, 0),
  (17, .isub, 18, 0, 0, 0),
  (18, .iload_n 2, 19, 0, 0, 0),
  (19, .imul, 20, 0, 0, 0),
  (20, .iload_n 1, 21, 0, 0, 0),
  (21, .idiv, 22, 0, 0, 0),
  (22, .aload_n 0, 23, 0, 0, 0),
  (23, .getfield 80, 26, 742, 0, 1083),
  (26, .iload_n 3, 27, 0, 0, 0),
  (27, .iaload, 28, 0, 0, 0),
  (28, .if_icmp .eq 5, 31, 33, 0, 0),
  (31, .iconst 0, 32, 0, 0, 0),
  (32, .ireturn, 33, 0, 0, 0),
  (33, .iinc 3 1, 36, 0, 1, 0),
  (36, .goto (-34), 39, 2, 0, 0),
  (39, .iconst 1, 40, 0, 1, 0),
  (40, .ireturn, 41, 0, 0, 0)]
def kX11_weights : List mj_E := [
  (0, .aload_n 0, 1, 0, 0, 0),
  (1, .iconst 0, 2, 0, 0, 0),
  (2, .putfield 95, 5, 709, 0, 1050),
  (5, .iconst 0, 6, 0, 0, 0),
  (6, .istore_n 1, 7, 0, 0, 0),
  (7, .aload_n 0, 8, 0, 0, 0),
  (8, .iconst 0, 9, 0, 0, 0),
  (9, .putfield 98, 12, 708, 0, 1049),
  (12, .iconst 1, 13, 0, 1, 0),
  (13, .istore_n 2, 14, 0, 0, 0),
  (14, .iload_n 2, 15, 0, 0, 0),
  (15, .bipush 12, 17, 0, 12, 0),
  (17, .if_icmp .gt 53, 20, 70, 0, 0),
  (20, .iconst 1, 21, 0, 1, 0),
  (21, .istore_n 3, 22, 0, 0, 0),
  (22, .iload_n 3, 23, 0, 0, 0),
  (23, .iload_n 2, 24, 0, 0, 0),
  (24, .if_icmp .gt 40, 27, 64, 0, 0),
  (27, .aload_n 0, 28, 0, 0, 0),
  (28, .iload_n 3, 29, 0, 0, 0),
  (29, .iload_n 2, 30, 0, 0, 0),
  (30, .invokevirtual 334, 33, 217, 0, 1518),
  (33, .ifCond .ne 6, 36, 39, 0, 0),
  (36, .goto 22, 39, 58, 0, 0),
  (39, .iload_n 1, 40, 0, 0, 0),
  (40, .ifCond .ne 15, 43, 55, 0, 0),
  (43, .aload_n 0, 44, 0, 0, 0),
  (44, .iload_n 2, 45, 0, 0, 0),
  (45, .i2l, 46, 0, 0, 0),
  (46, .invokevirtual 119, 49, 135, 0, 1338),
  (49, .aload_n 0, 50, 0, 0, 0),
  (50, .iload_n 3, 51, 0, 0, 0),
  (51, .i2l, 52, 0, 0, 0),
  (52, .invokevirtual 119, 55, 135, 0, 1338),
  (55, .iinc 1 1, 58, 0, 1, 0),
  (58, .iinc 3 1, 61, 0, 1, 0),
  (61, .goto (-39), 64, 22, 0, 0),
  (64, .iinc 2 1, 67, 0, 1, 0),
  (67, .goto (-53), 70, 14, 0, 0),
  (70, .iload_n 1, 71, 0, 0, 0),
  (71, .ireturn, 72, 0, 0, 0)]
def kX11_looks : List mj_E := [
  (0, .aload_n 0, 1, 0, 0, 0),
  (1, .iconst 0, 2, 0, 0, 0),
  (2, .putfield 95, 5, 709, 0, 1050),
  (5, .iconst (-1), 6, 0, (-1), 0),
  (6, .istore_n 1, 7, 0, 0, 0),
  (7, .ldc_w 330, 10, 0, 1000000, 1505),
  (10, .istore_n 2, 11, 0, 0, 0),
  (11, .iconst 1, 12, 0, 1, 0),
  (12, .istore_n 3, 13, 0, 0, 0),
  (13, .iload_n 3, 14, 0, 0, 0),
  (14, .bipush 12, 16, 0, 12, 0),
  (16, .if_icmp .gt 133, 19, 149, 0, 0),
  (19, .iconst 0, 20, 0, 0, 0),
  (20, .istore 4, 22, 0, 0, 0),
  (22, .iload 4, 24, 0, 0, 0),
  (24, .sipush 150, 27, 0, 150, 0),
  (27, .if_icmp .gt 17, 30, 44, 0, 0),
  (30, .aload_n 0, 31, 0, 0, 0),
  (31, .getfield 83, 34, 744, 0, 1085),
  (34, .iload 4, 36, 0, 0, 0),
  (36, .iconst 0, 37, 0, 0, 0),
  (37, .iastore, 38, 0, 0, 0),
  (38, .iinc 4 1, 41, 0, 1, 0),
  (41, .goto (-19), 44, 22, 0, 0),
  (44, .iconst 0, 45, 0, 0, 0),
  (45, .istore 4, 47, 0, 0, 0),
  (47, .iconst 1, 48, 0, 1, 0),
  (48, .istore 5, 50, 0, 0, 0),
  (50, .iload 5, 52, 0, 0, 0),
  (52, .bipush 12, 54, 0, 12, 0),
  (54, .if_icmp .gt 75, 57, 129, 0, 0),
  (57, .iconst 1, 58, 0, 1, 0),
  (58, .istore 6, 60, 0, 0, 0),
  (60, .iload 6, 62, 0, 0, 0),
  (62, .iload 5, 64, 0, 0, 0),
  (64, .if_icmp .gt 59, 67, 123, 0, 0),
  (67, .aload_n 0, 68, 0, 0, 0),
  (68, .iload 6, 70, 0, 0, 0),
  (70, .iload 5, 72, 0, 0, 0),
  (72, .invokevirtual 334, 75, 217, 0, 1518),
  (75, .ifCond .ne 6, 78, 81, 0, 0),
  (78, .goto 39, 81, 117, 0, 0),
  (81, .iload_n 3, 82, 0, 0, 0),
  (82, .iconst 1, 83, 0, 1, 0),
  (83, .isub, 84, 0, 0, 0),
  (84, .iload 5, 86, 0, 0, 0),
  (86, .imul, 87, 0, 0, 0),
  (87, .iload 6, 89, 0, 0, 0),
  (89, .idiv, 90, 0, 0, 0),
  (90, .istore 7, 92, 0, 0, 0),
  (92, .aload_n 0, 93, 0, 0, 0),
  (93, .getfield 83, 96, 744, 0, 1085),
  (96, .iload 7, 98, 0, 0, 0),
  (98, .dup2, 99, 0, 0, 0),
  (99, .iaload, 100, 0, 0, 0),
  (100, .iconst 1, 101, 0, 1, 0),
  (101, .iadd, 102, 0, 0, 0),
  (102, .iastore, 103, 0, 0, 0),
  (103, .iload 4, 105, 0, 0, 0),
  (105, .aload_n 0, 106, 0, 0, 0),
  (106, .getfield 83, 109, 744, 0, 1085),
  (109, .iload 7, 111, 0, 0, 0),
  (111, .iaload, 112, 0, 0, 0),
  (112, .invokestatic 300, 115, 239, 0, 1438),
  (115, .istore 4, 117, 0, 0, 0),
  (117, .iinc 6 1, 120, 0, 1, 0),
  (120, .goto (-60), 123, 60, 0, 0),
  (123, .iinc 5 1, 126, 0, 1, 0),
  (126, .goto (-76), 129, 50, 0, 0),
  (129, .iload 4, 131, 0, 0, 0),
  (131, .iload_n 2, 132, 0, 0, 0),
  (132, .if_icmp .lt 6, 135, 138, 0, 0),
  (135, .goto 8, 138, 143, 0, 0),
  (138, .iload_n 3, 139, 0, 0, 0),
  (139, .istore_n 1, 140, 0, 0, 0),
  (140, .iload 4, 142, 0, 0, 0),
  (142, .istore_n 2, 143, 0, 0, 0),
  (143, .iinc 3 1, 146, 0, 1, 0),
  (146, .goto (-133), 149, 13, 0, 0),
  (149, .iload_n 2, 150, 0, 0, 0),
  (150, .ifCond .ne 6, 153, 156, 0, 0),
  (153, .bipush (-2), 155, 0, (-2), 0),
  (155, .ireturn, 156, 0, 0, 0),
  (156, .aload_n 0, 157, 0, 0, 0),
  (157, .iconst 0, 158, 0, 0, 0),
  (158, .putfield 98, 161, 708, 0, 1049),
  (161, .aload_n 0, 162, 0, 0, 0),
  (162, .iload_n 2, 163, 0, 0, 0),
  (163, .i2l, 164, 0, 0, 0),
  (164, .invokevirtual 119, 167, 135, 0, 1338),
  (167, .iload_n 1, 168, 0, 0, 0),
  (168, .ireturn, 169, 0, 0, 0)]
def kX11_odds : List mj_E := [
  (0, .aload_n 0, 1, 0, 0, 0),
  (1, .iconst 0, 2, 0, 0, 0),
  (2, .putfield 95, 5, 709, 0, 1050),
  (5, .iload_n 1, 6, 0, 0, 0),
  (6, .iconst 0, 7, 0, 0, 0),
  (7, .bipush 8, 9, 0, 8, 0),
  (9, .invokestatic 101, 12, 132, 0, 1197),
  (12, .ifCond .eq 23, 15, 35, 0, 0),
  (15, .iload_n 2, 16, 0, 0, 0),
  (16, .iconst 0, 17, 0, 0, 0),
  (17, .bipush 8, 19, 0, 8, 0),
  (19, .invokestatic 101, 22, 132, 0, 1197),
  (22, .ifCond .eq 13, 25, 35, 0, 0),
  (25, .iload_n 3, 26, 0, 0, 0),
  (26, .iconst 0, 27, 0, 0, 0),
  (27, .bipush 10, 29, 0, 10, 0),
  (29, .invokestatic 101, 32, 132, 0, 1197),
  (32, .ifCond .ne 5, 35, 37, 0, 0),
  (35, .iconst (-1), 36, 0, (-1), 0),
  (36, .ireturn, 37, 0, 0, 0),
  (37, .lconst 0, 38, 0, 0, 0),
  (38, .lstore 4, 40, 0, 0, 0),
  (40, .lconst 1, 41, 0, 0, 0),
  (41, .lstore 6, 43, 0, 0, 0),
  (43, .iconst 0, 44, 0, 0, 0),
  (44, .istore 8, 46, 0, 0, 0),
  (46, .iload 8, 48, 0, 0, 0),
  (48, .iload_n 1, 49, 0, 0, 0),
  (49, .if_icmp .ge 17, 52, 66, 0, 0),
  (52, .lload 6, 54, 0, 0, 0),
  (54, .ldc2_w 337, 57, 10, 0, 1530),
  (57, .lmul, 58, 0, 0, 0),
  (58, .lstore 6, 60, 0, 0, 0),
  (60, .iinc 8 1, 63, 0, 1, 0),
  (63, .goto (-17), 66, 46, 0, 0),
  (66, .iconst 0, 67, 0, 0, 0),
  (67, .istore 8, 69, 0, 0, 0),
  (69, .iload 8, 71, 0, 0, 0),
  (71, .iconst 1, 72, 0, 1, 0),
  (72, .iload_n 1, 73, 0, 0, 0),
  (73, .ishl, 74, 0, 0, 0),
  (74, .if_icmp .ge 71, 77, 145, 0, 0),
  (77, .iload 8, 79, 0, 0, 0),
  (79, .invokestatic 213, 82, 236, 0, 1218),
  (82, .iload_n 2, 83, 0, 0, 0),
  (83, .if_icmp .ge 6, 86, 89, 0, 0),
  (86, .goto 53, 89, 139, 0, 0),
  (89, .lconst 1, 90, 0, 0, 0),
  (90, .lstore 9, 92, 0, 0, 0),
  (92, .iconst 0, 93, 0, 0, 0),
  (93, .istore 11, 95, 0, 0, 0),
  (95, .iload 11, 97, 0, 0, 0),
  (97, .iload_n 1, 98, 0, 0, 0),
  (98, .if_icmp .ge 34, 101, 132, 0, 0),
  (101, .lload 9, 103, 0, 0, 0),
  (103, .iload 8, 105, 0, 0, 0),
  (105, .iload 11, 107, 0, 0, 0),
  (107, .invokestatic 150, 110, 133, 0, 1324),
  (110, .ifCond .eq 11, 113, 121, 0, 0),
  (113, .bipush 10, 115, 0, 10, 0),
  (115, .iload_n 3, 116, 0, 0, 0),
  (116, .isub, 117, 0, 0, 0),
  (117, .i2l, 118, 0, 0, 0),
  (118, .goto 5, 121, 123, 0, 0),
  (121, .iload_n 3, 122, 0, 0, 0),
  (122, .i2l, 123, 0, 0, 0),
  (123, .lmul, 124, 0, 0, 0),
  (124, .lstore 9, 126, 0, 0, 0),
  (126, .iinc 11 1, 129, 0, 1, 0),
  (129, .goto (-34), 132, 95, 0, 0),
  (132, .lload 4, 134, 0, 0, 0),
  (134, .lload 9, 136, 0, 0, 0),
  (136, .ladd, 137, 0, 0, 0),
  (137, .lstore 4, 139, 0, 0, 0),
  (139, .iinc 8 1, 142, 0, 1, 0),
  (142, .goto (-73), 145, 69, 0, 0),
  (145, .aload_n 0, 146, 0, 0, 0),
  (146, .iconst 0, 147, 0, 0, 0),
  (147, .putfield 98, 150, 708, 0, 1049),
  (150, .aload_n 0, 151, 0, 0, 0),
  (151, .lload 4, 153, 0, 0, 0),
  (153, .lload 6, 155, 0, 0, 0),
  (155, .invokevirtual 293, 158, 140, 0, 1395),
  (158, .iconst 0, 159, 0, 0, 0),
  (159, .ireturn, 160, 0, 0, 0)]
def kX11_take : List mj_E := [
  (0, .iconst 1, 1, 0, 1, 0),
  (1, .istore_n 2, 2, 0, 0, 0),
  (2, .iload_n 2, 3, 0, 0, 0),
  (3, .iload_n 1, 4, 0, 0, 0),
  (4, .if_icmp .ge 28, 7, 32, 0, 0),
  (7, .iload_n 1, 8, 0, 0, 0),
  (8, .iload_n 2, 9, 0, 0, 0),
  (9, .irem, 10, 0, 0, 0),
  (10, .ifCond .ne 16, 13, 26, 0, 0),
  (13, .aload_n 0, 14, 0, 0, 0),
  (14, .getfield 86, 17, 745, 0, 1086),
  (17, .iload_n 1, 18, 0, 0, 0),
  (18, .iload_n 2, 19, 0, 0, 0),
  (19, .isub, 20, 0, 0, 0),
  (20, .baload, 21, 0, 0, 0),
  (21, .ifCond .ne 5, 24, 26, 0, 0),
  (24, .iload_n 2, 25, 0, 0, 0),
  (25, .ireturn, 26, 0, 0, 0),
  (26, .iinc 2 1, 29, 0, 1, 0),
  (29, .goto (-27), 32, 2, 0, 0),
  (32, .iconst 0, 33, 0, 0, 0),
  (33, .ireturn, 34, 0, 0, 0)]
def kX11_divisors : List mj_E := [
  (0, .aload_n 0, 1, 0, 0, 0),
  (1, .iconst 0, 2, 0, 0, 0),
  (2, .putfield 95, 5, 709, 0, 1050),
  (5, .iload_n 1, 6, 0, 0, 0),
  (6, .iconst 0, 7, 0, 0, 0),
  (7, .sipush 200, 10, 0, 200, 0),
  (10, .invokestatic 101, 13, 132, 0, 1197),
  (13, .ifCond .ne 5, 16, 18, 0, 0),
  (16, .iconst (-1), 17, 0, (-1), 0),
  (17, .ireturn, 18, 0, 0, 0),
  (18, .iconst 0, 19, 0, 0, 0),
  (19, .istore_n 2, 20, 0, 0, 0),
  (20, .iload_n 2, 21, 0, 0, 0),
  (21, .iload_n 1, 22, 0, 0, 0),
  (22, .if_icmp .gt 28, 25, 50, 0, 0),
  (25, .aload_n 0, 26, 0, 0, 0),
  (26, .getfield 86, 29, 745, 0, 1086),
  (29, .iload_n 2, 30, 0, 0, 0),
  (30, .aload_n 0, 31, 0, 0, 0),
  (31, .iload_n 2, 32, 0, 0, 0),
  (32, .invokevirtual 339, 35, 221, 0, 1535),
  (35, .ifCond .le 7, 38, 42, 0, 0),
  (38, .iconst 1, 39, 0, 1, 0),
  (39, .goto 4, 42, 43, 0, 0),
  (42, .iconst 0, 43, 0, 0, 0),
  (43, .bastore, 44, 0, 0, 0),
  (44, .iinc 2 1, 47, 0, 1, 0),
  (47, .goto (-27), 50, 20, 0, 0),
  (50, .aload_n 0, 51, 0, 0, 0),
  (51, .iconst 0, 52, 0, 0, 0),
  (52, .putfield 98, 55, 708, 0, 1049),
  (55, .aload_n 0, 56, 0, 0, 0),
  (56, .iload_n 1, 57, 0, 0, 0),
  (57, .invokevirtual 339, 60, 221, 0, 1535),
  (60, .ifCond .le 13, 63, 73, 0, 0),
  (63, .aload_n 0, 64, 0, 0, 0),
  (64, .aload_n 0, 65, 0, 0, 0),
  (65, .iload_n 1, 66, 0, 0, 0),
  (66, .invokevirtual 339, 69, 221, 0, 1535),
  (69, .i2l, 70, 0, 0, 0),
  (70, .invokevirtual 119, 73, 135, 0, 1338),
  (73, .aload_n 0, 74, 0, 0, 0),
  (74, .iload_n 1, 75, 0, 0, 0),
  (75, .invokevirtual 339, 78, 221, 0, 1535),
  (78, .ifCond .le 7, 81, 85, 0, 0),
  (81, .iconst 1, 82, 0, 1, 0),
  (82, .goto 4, 85, 86, 0, 0),
  (85, .iconst 0, 86, 0, 0, 0),
  (86, .ireturn, 87, 0, 0, 0)]
def kX11_gets : List mj_E := [
  (0, .iload_n 0, 1, 0, 0, 0),
  (1, .iload_n 1, 2, 0, 0, 0),
  (2, .iadd, 3, 0, 0, 0),
  (3, .iload_n 2, 4, 0, 0, 0),
  (4, .if_icmp .gt 9, 7, 13, 0, 0),
  (7, .iconst 3, 8, 0, 3, 0),
  (8, .iload_n 0, 9, 0, 0, 0),
  (9, .imul, 10, 0, 0, 0),
  (10, .goto 14, 13, 24, 0, 0),
  (13, .iconst 3, 14, 0, 3, 0),
  (14, .iload_n 2, 15, 0, 0, 0),
  (15, .imul, 16, 0, 0, 0),
  (16, .iload_n 0, 17, 0, 0, 0),
  (17, .imul, 18, 0, 0, 0),
  (18, .iload_n 0, 19, 0, 0, 0),
  (19, .iload_n 1, 20, 0, 0, 0),
  (20, .iadd, 21, 0, 0, 0),
  (21, .idiv, 22, 0, 0, 0),
  (22, .iload_n 1, 23, 0, 0, 0),
  (23, .isub, 24, 0, 0, 0),
  (24, .ireturn, 25, 0, 0, 0)]
def kX11_isBest : List mj_E := [
  (0, .iconst 0, 1, 0, 0, 0),
  (1, .istore_n 3, 2, 0, 0, 0),
  (2, .iload_n 3, 3, 0, 0, 0),
  (3, .bipush 9, 5, 0, 9, 0),
  (5, .if_icmp .gt 26, 8, 31, 0, 0),
  (8, .iload_n 3, 9, 0, 0, 0),
  (9, .iload_n 1, 10, 0, 0, 0),
  (10, .iload_n 2, 11, 0, 0, 0),
  (11, .invokestatic 342, 14, 223, 0, 1546),
  (14, .iload_n 0, 15, 0, 0, 0),
  (15, .iload_n 1, 16, 0, 0, 0),
  (16, .iload_n 2, 17, 0, 0, 0),
  (17, .invokestatic 342, 20, 223, 0, 1546),
  (20, .if_icmp .le 5, 23, 25, 0, 0),
  (23, .iconst 0, 24, 0, 0, 0),
  (24, .ireturn, 25, 0, 0, 0),
  (25, .iinc 3 1, 28, 0, 1, 0),
  (28, .goto (-26), 31, 2, 0, 0),
  (31, .iconst 1, 32, 0, 1, 0),
  (32, .ireturn, 33, 0, 0, 0)]
def kX11_rests : List mj_E := [
  (0, .aload_n 0, 1, 0, 0, 0),
  (1, .iconst 0, 2, 0, 0, 0),
  (2, .putfield 95, 5, 709, 0, 1050),
  (5, .iload_n 1, 6, 0, 0, 0),
  (6, .iconst 0, 7, 0, 0, 0),
  (7, .bipush 18, 9, 0, 18, 0),
  (9, .invokestatic 101, 12, 132, 0, 1197),
  (12, .ifCond .ne 5, 15, 17, 0, 0),
  (15, .iconst (-1), 16, 0, (-1), 0),
  (16, .ireturn, 17, 0, 0, 0),
  (17, .iconst 0, 18, 0, 0, 0),
  (18, .istore_n 2, 19, 0, 0, 0),
  (19, .aload_n 0, 20, 0, 0, 0),
  (20, .iconst 0, 21, 0, 0, 0),
  (21, .putfield 98, 24, 708, 0, 1049),
  (24, .iconst 0, 25, 0, 0, 0),
  (25, .istore_n 3, 26, 0, 0, 0),
  (26, .iload_n 3, 27, 0, 0, 0),
  (27, .bipush 9, 29, 0, 9, 0),
  (29, .if_icmp .gt 68, 32, 97, 0, 0),
  (32, .iconst 0, 33, 0, 0, 0),
  (33, .istore 4, 35, 0, 0, 0),
  (35, .iload 4, 37, 0, 0, 0),
  (37, .bipush 9, 39, 0, 9, 0),
  (39, .if_icmp .gt 52, 42, 91, 0, 0),
  (42, .iload_n 3, 43, 0, 0, 0),
  (43, .iload 4, 45, 0, 0, 0),
  (45, .iload_n 1, 46, 0, 0, 0),
  (46, .invokestatic 346, 49, 224, 0, 1543),
  (49, .ifCond .eq 36, 52, 85, 0, 0),
  (52, .iload 4, 54, 0, 0, 0),
  (54, .iload_n 3, 55, 0, 0, 0),
  (55, .iload_n 1, 56, 0, 0, 0),
  (56, .invokestatic 346, 59, 224, 0, 1543),
  (59, .ifCond .ne 6, 62, 65, 0, 0),
  (62, .goto 23, 65, 85, 0, 0),
  (65, .iload_n 2, 66, 0, 0, 0),
  (66, .ifCond .ne 16, 69, 82, 0, 0),
  (69, .aload_n 0, 70, 0, 0, 0),
  (70, .iload_n 3, 71, 0, 0, 0),
  (71, .i2l, 72, 0, 0, 0),
  (72, .invokevirtual 119, 75, 135, 0, 1338),
  (75, .aload_n 0, 76, 0, 0, 0),
  (76, .iload 4, 78, 0, 0, 0),
  (78, .i2l, 79, 0, 0, 0),
  (79, .invokevirtual 119, 82, 135, 0, 1338),
  (82, .iinc 2 1, 85, 0, 1, 0),
  (85, .iinc 4 1, 88, 0, 1, 0),
  (88, .goto (-53), 91, 35, 0, 0),
  (91, .iinc 3 1, 94, 0, 1, 0),
  (94, .goto (-68), 97, 26, 0, 0),
  (97, .iload_n 2, 98, 0, 0, 0),
  (98, .ireturn, 99, 0, 0, 0)]
def kX11_lay60 : List mj_E := [
  (0, .aload_n 0, 1, 0, 0, 0),
  (1, .getfield 9, 4, 704, 0, 1045),
  (4, .aload_n 0, 5, 0, 0, 0),
  (5, .getfield 43, 8, 725, 0, 1066),
  (8, .iconst 0, 9, 0, 0, 0),
  (9, .invokestatic 225, 12, 170, 0, 1251),
  (12, .aload_n 0, 13, 0, 0, 0),
  (13, .iconst (-1), 14, 0, (-1), 0),
  (14, .putfield 349, 17, 746, 0, 1087),
  (17, .iconst 0, 18, 0, 0, 0),
  (18, .istore_n 1, 19, 0, 0, 0),
  (19, .iload_n 1, 20, 0, 0, 0),
  (20, .bipush 60, 22, 0, 60, 0),
  (22, .if_icmp .ge 47, 25, 69, 0, 0),
  (25, .aload_n 0, 26, 0, 0, 0),
  (26, .aload_n 0, 27, 0, 0, 0),
  (27, .getfield 43, 30, 725, 0, 1066),
  (30, .iconst (-1), 31, 0, (-1), 0),
  (31, .invokevirtual 266, 34, 172, 0, 1316),
  (34, .pop, 35, 0, 0, 0),
  (35, .aload_n 0, 36, 0, 0, 0),
  (36, .getfield 263, 39, 727, 0, 1068),
  (39, .ifCond .eq 24, 42, 63, 0, 0),
  (42, .aload_n 0, 43, 0, 0, 0),
  (43, .getfield 349, 46, 746, 0, 1087),
  (46, .iconst (-1), 47, 0, (-1), 0),
  (47, .if_icmp .ne 16, 50, 63, 0, 0),
  (50, .aload_n 0, 51, 0, 0, 0),
  (51, .aload_n 0, 52, 0, 0, 0),
  (52, .getfield 9, 55, 704, 0, 1045),
  (55, .bipush 41, 57, 0, 41, 0),
  (57, .iaload, 58, 0, 0, 0),
  (58, .iload_n 1, 59, 0, 0, 0),
  (59, .iadd, 60, 0, 0, 0),
  (60, .putfield 349, 63, 746, 0, 1087),
  (63, .iinc 1 1, 66, 0, 1, 0),
  (66, .goto (-47), 69, 19, 0, 0),
  (69, .aload_n 0, 70, 0, 0, 0),
  (70, .getfield 43, 73, 725, 0, 1066),
  (73, .bipush 42, 75, 0, 42, 0),
  (75, .iaload, 76, 0, 0, 0),
  (76, .aload_n 0, 77, 0, 0, 0),
  (77, .getfield 9, 80, 704, 0, 1045),
  (80, .bipush 42, 82, 0, 42, 0),
  (82, .iaload, 83, 0, 0, 0),
  (83, .isub, 84, 0, 0, 0),
  (84, .ireturn, 85, 0, 0, 0)]
def kX11_law : List mj_E := [
  (0, .aload_n 0, 1, 0, 0, 0),
  (1, .iconst 0, 2, 0, 0, 0),
  (2, .putfield 95, 5, 709, 0, 1050),
  (5, .aload_n 0, 6, 0, 0, 0),
  (6, .getfield 161, 9, 706, 0, 1047),
  (9, .istore_n 1, 10, 0, 0, 0),
  (10, .aload_n 0, 11, 0, 0, 0),
  (11, .iconst 0, 12, 0, 0, 0),
  (12, .putfield 161, 15, 706, 0, 1047),
  (15, .aload_n 0, 16, 0, 0, 0),
  (16, .iload_n 1, 17, 0, 0, 0),
  (17, .invokevirtual 240, 20, 165, 0, 1270),
  (20, .istore_n 2, 21, 0, 0, 0),
  (21, .iload_n 2, 22, 0, 0, 0),
  (22, .iload_n 1, 23, 0, 0, 0),
  (23, .if_icmp .ge 9, 26, 32, 0, 0),
  (26, .sipush (-10000), 29, 0, (-10000), 0),
  (29, .iload_n 2, 30, 0, 0, 0),
  (30, .isub, 31, 0, 0, 0),
  (31, .ireturn, 32, 0, 0, 0),
  (32, .aload_n 0, 33, 0, 0, 0),
  (33, .invokevirtual 352, 36, 226, 0, 1553),
  (36, .istore_n 3, 37, 0, 0, 0),
  (37, .aload_n 0, 38, 0, 0, 0),
  (38, .getfield 349, 41, 746, 0, 1087),
  (41, .istore 4, 43, 0, 0, 0),
  (43, .aload_n 0, 44, 0, 0, 0),
  (44, .getfield 21, 47, 710, 0, 1051),
  (47, .astore 5, 49, 0, 0, 0),
  (49, .aload_n 0, 50, 0, 0, 0),
  (50, .getfield 27, 53, 712, 0, 1053),
  (53, .istore 6, 55, 0, 0, 0),
  (55, .aload_n 0, 56, 0, 0, 0),
  (56, .aload_n 0, 57, 0, 0, 0),
  (57, .getfield 24, 60, 711, 0, 1052),
  (60, .putfield 21, 63, 710, 0, 1051),
  (63, .aload_n 0, 64, 0, 0, 0),
  (64, .iload_n 1, 65, 0, 0, 0),
  (65, .putfield 27, 68, 712, 0, 1053),
  (68, .iconst 0, 69, 0, 0, 0),
  (69, .istore 7, 71, 0, 0, 0),
  (71, .iload 7, 73, 0, 0, 0),
  (73, .iload_n 1, 74, 0, 0, 0),
  (74, .if_icmp .ge 23, 77, 97, 0, 0),
  (77, .aload_n 0, 78, 0, 0, 0),
  (78, .getfield 21, 81, 710, 0, 1051),
  (81, .iload 7, 83, 0, 0, 0),
  (83, .aload_n 0, 84, 0, 0, 0),
  (84, .getfield 13, 87, 705, 0, 1046),
  (87, .iload 7, 89, 0, 0, 0),
  (89, .baload, 90, 0, 0, 0),
  (90, .bastore, 91, 0, 0, 0),
  (91, .iinc 7 1, 94, 0, 1, 0),
  (94, .goto (-23), 97, 71, 0, 0),
  (97, .aload_n 0, 98, 0, 0, 0),
  (98, .invokevirtual 352, 101, 226, 0, 1553),
  (101, .istore 7, 103, 0, 0, 0),
  (103, .aload_n 0, 104, 0, 0, 0),
  (104, .aload 5, 106, 0, 0, 0),
  (106, .putfield 21, 109, 710, 0, 1051),
  (109, .aload_n 0, 110, 0, 0, 0),
  (110, .iload 6, 112, 0, 0, 0),
  (112, .putfield 27, 115, 712, 0, 1053),
  (115, .aload_n 0, 116, 0, 0, 0),
  (116, .iconst 0, 117, 0, 0, 0),
  (117, .putfield 98, 120, 708, 0, 1049),
  (120, .aload_n 0, 121, 0, 0, 0),
  (121, .iload 7, 123, 0, 0, 0),
  (123, .i2l, 124, 0, 0, 0),
  (124, .invokevirtual 119, 127, 135, 0, 1338),
  (127, .aload_n 0, 128, 0, 0, 0),
  (128, .iload_n 3, 129, 0, 0, 0),
  (129, .i2l, 130, 0, 0, 0),
  (130, .invokevirtual 119, 133, 135, 0, 1338),
  (133, .aload_n 0, 134, 0, 0, 0),
  (134, .aload_n 0, 135, 0, 0, 0),
  (135, .getfield 349, 138, 746, 0, 1087),
  (138, .i2l, 139, 0, 0, 0),
  (139, .invokevirtual 119, 142, 135, 0, 1338),
  (142, .aload_n 0, 143, 0, 0, 0),
  (143, .iload 4, 145, 0, 0, 0),
  (145, .i2l, 146, 0, 0, 0),
  (146, .invokevirtual 119, 149, 135, 0, 1338),
  (149, .iload 7, 151, 0, 0, 0),
  (151, .iload_n 3, 152, 0, 0, 0),
  (152, .isub, 153, 0, 0, 0),
  (153, .ireturn, 154, 0, 0, 0)]
def kX11_draw : List mj_E := [
  (0, .aload_n 0, 1, 0, 0, 0),
  (1, .aload_n 0, 2, 0, 0, 0),
  (2, .getfield 355, 5, 747, 0, 1088),
  (5, .ldc_w 358, 8, 0, 1103515245, 1565),
  (8, .imul, 9, 0, 0, 0),
  (9, .sipush 12345, 12, 0, 12345, 0),
  (12, .iadd, 13, 0, 0, 0),
  (13, .putfield 355, 16, 747, 0, 1088),
  (16, .aload_n 0, 17, 0, 0, 0),
  (17, .getfield 355, 20, 747, 0, 1088),
  (20, .bipush 16, 22, 0, 16, 0),
  (22, .iushr, 23, 0, 0, 0),
  (23, .iload_n 1, 24, 0, 0, 0),
  (24, .irem, 25, 0, 0, 0),
  (25, .ireturn, 26, 0, 0, 0)]
def kX11_doneOf : List mj_E := [
  (0, .iconst 0, 1, 0, 0, 0),
  (1, .istore_n 1, 2, 0, 0, 0),
  (2, .iconst 0, 3, 0, 0, 0),
  (3, .istore_n 2, 4, 0, 0, 0),
  (4, .iload_n 2, 5, 0, 0, 0),
  (5, .bipush 8, 7, 0, 8, 0),
  (7, .if_icmp .ge 18, 10, 25, 0, 0),
  (10, .iload_n 1, 11, 0, 0, 0),
  (11, .aload_n 0, 12, 0, 0, 0),
  (12, .bipush 32, 14, 0, 32, 0),
  (14, .iload_n 2, 15, 0, 0, 0),
  (15, .iadd, 16, 0, 0, 0),
  (16, .iaload, 17, 0, 0, 0),
  (17, .iadd, 18, 0, 0, 0),
  (18, .istore_n 1, 19, 0, 0, 0),
  (19, .iinc 2 1, 22, 0, 1, 0),
  (22, .goto (-18), 25, 4, 0, 0),
  (25, .iload_n 1, 26, 0, 0, 0),
  (26, .ireturn, 27, 0, 0, 0)]
def kX11_years : List mj_E := [
  (0, .aload_n 0, 1, 0, 0, 0),
  (1, .iconst 0, 2, 0, 0, 0),
  (2, .putfield 95, 5, 709, 0, 1050),
  (5, .iload_n 2, 6, 0, 0, 0),
  (6, .iconst 1, 7, 0, 1, 0),
  (7, .bipush 60, 9, 0, 60, 0),
  (9, .invokestatic 101, 12, 132, 0, 1197),
  (12, .ifCond .ne 5, 15, 17, 0, 0),
  (15, .iconst (-1), 16, 0, (-1), 0),
  (16, .ireturn, 17, 0, 0, 0),
  (17, .aload_n 0, 18, 0, 0, 0),
  (18, .iload_n 1, 19, 0, 0, 0),
  (19, .putfield 355, 22, 747, 0, 1088),
  (22, .aload_n 0, 23, 0, 0, 0),
  (23, .getfield 9, 26, 704, 0, 1045),
  (26, .aload_n 0, 27, 0, 0, 0),
  (27, .getfield 43, 30, 725, 0, 1066),
  (30, .iconst 0, 31, 0, 0, 0),
  (31, .invokestatic 225, 34, 170, 0, 1251),
  (34, .iconst 0, 35, 0, 0, 0),
  (35, .istore_n 3, 36, 0, 0, 0),
  (36, .iload_n 3, 37, 0, 0, 0),
  (37, .iload_n 2, 38, 0, 0, 0),
  (38, .if_icmp .ge 112, 41, 150, 0, 0),
  (41, .aload_n 0, 42, 0, 0, 0),
  (42, .bipush 6, 44, 0, 6, 0),
  (44, .invokevirtual 359, 47, 228, 0, 1561),
  (47, .istore 4, 49, 0, 0, 0),
  (49, .iload 4, 51, 0, 0, 0),
  (51, .iconst 4, 52, 0, 4, 0),
  (52, .if_icmp .ge 16, 55, 68, 0, 0),
  (55, .aload_n 0, 56, 0, 0, 0),
  (56, .aload_n 0, 57, 0, 0, 0),
  (57, .getfield 43, 60, 725, 0, 1066),
  (60, .iconst (-1), 61, 0, (-1), 0),
  (61, .invokevirtual 266, 64, 172, 0, 1316),
  (64, .pop, 65, 0, 0, 0),
  (65, .goto 79, 68, 144, 0, 0),
  (68, .aload_n 0, 69, 0, 0, 0),
  (69, .bipush 8, 71, 0, 8, 0),
  (71, .invokevirtual 359, 74, 228, 0, 1561),
  (74, .istore 5, 76, 0, 0, 0),
  (76, .aload_n 0, 77, 0, 0, 0),
  (77, .getfield 43, 80, 725, 0, 1066),
  (80, .iload 5, 82, 0, 0, 0),
  (82, .invokestatic 105, 85, 136, 0, 1215),
  (85, .ifCond .ne 6, 88, 91, 0, 0),
  (88, .goto 56, 91, 144, 0, 0),
  (91, .iload 4, 93, 0, 0, 0),
  (93, .iconst 4, 94, 0, 4, 0),
  (94, .if_icmp .ne 28, 97, 122, 0, 0),
  (97, .aload_n 0, 98, 0, 0, 0),
  (98, .getfield 43, 101, 725, 0, 1066),
  (101, .bipush 24, 103, 0, 24, 0),
  (103, .iload 5, 105, 0, 0, 0),
  (105, .iadd, 106, 0, 0, 0),
  (106, .iconst 1, 107, 0, 1, 0),
  (107, .aload_n 0, 108, 0, 0, 0),
  (108, .getfield 43, 111, 725, 0, 1066),
  (111, .bipush 24, 113, 0, 24, 0),
  (113, .iload 5, 115, 0, 0, 0),
  (115, .iadd, 116, 0, 0, 0),
  (116, .iaload, 117, 0, 0, 0),
  (117, .isub, 118, 0, 0, 0),
  (118, .iastore, 119, 0, 0, 0),
  (119, .goto 25, 122, 144, 0, 0),
  (122, .aload_n 0, 123, 0, 0, 0),
  (123, .getfield 43, 126, 725, 0, 1066),
  (126, .iload 5, 128, 0, 0, 0),
  (128, .invokestatic 278, 131, 178, 0, 1362),
  (131, .ifCond .ne 13, 134, 144, 0, 0),
  (134, .aload_n 0, 135, 0, 0, 0),
  (135, .getfield 43, 138, 725, 0, 1066),
  (138, .iload 5, 140, 0, 0, 0),
  (140, .invokestatic 281, 143, 179, 0, 1365),
  (143, .pop, 144, 0, 0, 0),
  (144, .iinc 3 1, 147, 0, 1, 0),
  (147, .goto (-111), 150, 36, 0, 0),
  (150, .aload_n 0, 151, 0, 0, 0),
  (151, .iconst 0, 152, 0, 0, 0),
  (152, .putfield 98, 155, 708, 0, 1049),
  (155, .aload_n 0, 156, 0, 0, 0),
  (156, .aload_n 0, 157, 0, 0, 0),
  (157, .getfield 43, 160, 725, 0, 1066),
  (160, .invokestatic 209, 163, 138, 0, 1212),
  (163, .i2l, 164, 0, 0, 0),
  (164, .invokevirtual 119, 167, 135, 0, 1338),
  (167, .aload_n 0, 168, 0, 0, 0),
  (168, .aload_n 0, 169, 0, 0, 0),
  (169, .getfield 43, 172, 725, 0, 1066),
  (172, .invokestatic 362, 175, 229, 0, 1566),
  (175, .i2l, 176, 0, 0, 0),
  (176, .invokevirtual 119, 179, 135, 0, 1338),
  (179, .aload_n 0, 180, 0, 0, 0),
  (180, .getfield 43, 183, 725, 0, 1066),
  (183, .bipush 42, 185, 0, 42, 0),
  (185, .iaload, 186, 0, 0, 0),
  (186, .aload_n 0, 187, 0, 0, 0),
  (187, .getfield 9, 190, 704, 0, 1045),
  (190, .bipush 42, 192, 0, 42, 0),
  (192, .iaload, 193, 0, 0, 0),
  (193, .isub, 194, 0, 0, 0),
  (194, .ireturn, 195, 0, 0, 0)]
def kX11_keep : List mj_E := [
  (0, .aload_n 0, 1, 0, 0, 0),
  (1, .iconst 0, 2, 0, 0, 0),
  (2, .putfield 95, 5, 709, 0, 1050),
  (5, .iload_n 1, 6, 0, 0, 0),
  (6, .iconst 0, 7, 0, 0, 0),
  (7, .iconst 1, 8, 0, 1, 0),
  (8, .invokestatic 101, 11, 132, 0, 1197),
  (11, .ifCond .ne 5, 14, 16, 0, 0),
  (14, .iconst 0, 15, 0, 0, 0),
  (15, .ireturn, 16, 0, 0, 0),
  (16, .aload_n 0, 17, 0, 0, 0),
  (17, .getfield 92, 20, 749, 0, 1090),
  (20, .iload_n 1, 21, 0, 0, 0),
  (21, .iconst 1, 22, 0, 1, 0),
  (22, .bastore, 23, 0, 0, 0),
  (23, .aload_n 0, 24, 0, 0, 0),
  (24, .getfield 9, 27, 704, 0, 1045),
  (27, .aload_n 0, 28, 0, 0, 0),
  (28, .getfield 89, 31, 748, 0, 1089),
  (31, .bipush 43, 33, 0, 43, 0),
  (33, .iload_n 1, 34, 0, 0, 0),
  (34, .imul, 35, 0, 0, 0),
  (35, .invokestatic 225, 38, 170, 0, 1251),
  (38, .iconst 1, 39, 0, 1, 0),
  (39, .ireturn, 40, 0, 0, 0)]
def kX11_again : List mj_E := [
  (0, .aload_n 0, 1, 0, 0, 0),
  (1, .iconst 0, 2, 0, 0, 0),
  (2, .putfield 95, 5, 709, 0, 1050),
  (5, .iload_n 1, 6, 0, 0, 0),
  (6, .iconst 0, 7, 0, 0, 0),
  (7, .iconst 1, 8, 0, 1, 0),
  (8, .invokestatic 101, 11, 132, 0, 1197),
  (11, .ifCond .eq 12, 14, 23, 0, 0),
  (14, .aload_n 0, 15, 0, 0, 0),
  (15, .getfield 92, 18, 749, 0, 1090),
  (18, .iload_n 1, 19, 0, 0, 0),
  (19, .baload, 20, 0, 0, 0),
  (20, .ifCond .ne 5, 23, 25, 0, 0),
  (23, .iconst 0, 24, 0, 0, 0),
  (24, .ireturn, 25, 0, 0, 0),
  (25, .iconst 0, 26, 0, 0, 0),
  (26, .istore_n 2, 27, 0, 0, 0),
  (27, .iload_n 2, 28, 0, 0, 0),
  (28, .bipush 43, 30, 0, 43, 0),
  (30, .if_icmp .ge 26, 33, 56, 0, 0),
  (33, .aload_n 0, 34, 0, 0, 0),
  (34, .getfield 9, 37, 704, 0, 1045),
  (37, .iload_n 2, 38, 0, 0, 0),
  (38, .aload_n 0, 39, 0, 0, 0),
  (39, .getfield 89, 42, 748, 0, 1089),
  (42, .bipush 43, 44, 0, 43, 0),
  (44, .iload_n 1, 45, 0, 0, 0),
  (45, .imul, 46, 0, 0, 0),
  (46, .iload_n 2, 47, 0, 0, 0),
  (47, .iadd, 48, 0, 0, 0),
  (48, .iaload, 49, 0, 0, 0),
  (49, .iastore, 50, 0, 0, 0),
  (50, .iinc 2 1, 53, 0, 1, 0),
  (53, .goto (-26), 56, 27, 0, 0),
  (56, .aload_n 0, 57, 0, 0, 0),
  (57, .iconst 0, 58, 0, 0, 0),
  (58, .putfield 249, 61, 723, 0, 1064),
  (61, .iconst 1, 62, 0, 1, 0),
  (62, .ireturn, 63, 0, 0, 0)]
def kX11_count : List mj_E := [
  (0, .aload_n 0, 1, 0, 0, 0),
  (1, .iconst 0, 2, 0, 0, 0),
  (2, .putfield 95, 5, 709, 0, 1050),
  (5, .iload_n 1, 6, 0, 0, 0),
  (6, .tableswitch 128 0 10 #[58, 66, 74, 82, 90, 95, 103, 108, 113, 118, 123], 64, 0, 0, 0),
  (64, .aload_n 0, 65, 0, 0, 0),
  (65, .getfield 9, 68, 704, 0, 1045),
  (68, .invokestatic 209, 71, 138, 0, 1212),
  (71, .ireturn, 72, 0, 0, 0),
  (72, .aload_n 0, 73, 0, 0, 0),
  (73, .getfield 9, 76, 704, 0, 1045),
  (76, .bipush 40, 78, 0, 40, 0),
  (78, .iaload, 79, 0, 0, 0),
  (79, .ireturn, 80, 0, 0, 0),
  (80, .aload_n 0, 81, 0, 0, 0),
  (81, .getfield 9, 84, 704, 0, 1045),
  (84, .bipush 41, 86, 0, 41, 0),
  (86, .iaload, 87, 0, 0, 0),
  (87, .ireturn, 88, 0, 0, 0),
  (88, .aload_n 0, 89, 0, 0, 0),
  (89, .getfield 9, 92, 704, 0, 1045),
  (92, .bipush 42, 94, 0, 42, 0),
  (94, .iaload, 95, 0, 0, 0),
  (95, .ireturn, 96, 0, 0, 0),
  (96, .aload_n 0, 97, 0, 0, 0),
  (97, .getfield 27, 100, 712, 0, 1053),
  (100, .ireturn, 101, 0, 0, 0),
  (101, .aload_n 0, 102, 0, 0, 0),
  (102, .getfield 9, 105, 704, 0, 1045),
  (105, .invokestatic 362, 108, 229, 0, 1566),
  (108, .ireturn, 109, 0, 0, 0),
  (109, .aload_n 0, 110, 0, 0, 0),
  (110, .getfield 321, 113, 740, 0, 1081),
  (113, .ireturn, 114, 0, 0, 0),
  (114, .aload_n 0, 115, 0, 0, 0),
  (115, .getfield 331, 118, 743, 0, 1084),
  (118, .ireturn, 119, 0, 0, 0),
  (119, .aload_n 0, 120, 0, 0, 0),
  (120, .getfield 249, 123, 723, 0, 1064),
  (123, .ireturn, 124, 0, 0, 0),
  (124, .aload_n 0, 125, 0, 0, 0),
  (125, .getfield 98, 128, 708, 0, 1049),
  (128, .ireturn, 129, 0, 0, 0),
  (129, .aload_n 0, 130, 0, 0, 0),
  (130, .getfield 161, 133, 706, 0, 1047),
  (133, .ireturn, 134, 0, 0, 0),
  (134, .iconst (-1), 135, 0, (-1), 0),
  (135, .ireturn, 136, 0, 0, 0)]
def kX11_row : List mj_E := [
  (0, .aload_n 0, 1, 0, 0, 0),
  (1, .iconst 0, 2, 0, 0, 0),
  (2, .putfield 95, 5, 709, 0, 1050),
  (5, .iload_n 1, 6, 0, 0, 0),
  (6, .iconst 0, 7, 0, 0, 0),
  (7, .aload_n 0, 8, 0, 0, 0),
  (8, .getfield 98, 11, 708, 0, 1049),
  (11, .iconst 1, 12, 0, 1, 0),
  (12, .isub, 13, 0, 0, 0),
  (13, .invokestatic 101, 16, 132, 0, 1197),
  (16, .ifCond .eq 12, 19, 28, 0, 0),
  (19, .aload_n 0, 20, 0, 0, 0),
  (20, .getfield 17, 23, 707, 0, 1048),
  (23, .iload_n 1, 24, 0, 0, 0),
  (24, .laload, 25, 0, 0, 0),
  (25, .goto 8, 28, 33, 0, 0),
  (28, .aload_n 0, 29, 0, 0, 0),
  (29, .invokevirtual 246, 32, 134, 0, 1285),
  (32, .i2l, 33, 0, 0, 0),
  (33, .lreturn, 34, 0, 0, 0)]
def kJ6_compare_7cf53 : List mj_E := [
  (0, .iload_n 0, 1, 0, 0, 0),
  (1, .iload_n 1, 2, 0, 0, 0),
  (2, .if_icmp .ge 7, 5, 9, 0, 0),
  (5, .iconst (-1), 6, 0, (-1), 0),
  (6, .goto 13, 9, 19, 0, 0),
  (9, .iload_n 0, 10, 0, 0, 0),
  (10, .iload_n 1, 11, 0, 0, 0),
  (11, .if_icmp .ne 7, 14, 18, 0, 0),
  (14, .iconst 0, 15, 0, 0, 0),
  (15, .goto 4, 18, 19, 0, 0),
  (18, .iconst 1, 19, 0, 1, 0),
  (19, .ireturn, 20, 0, 0, 0)]
def kJ6_bitCount_0f7a4 : List mj_E := [
  (0, .iload_n 0, 1, 0, 0, 0),
  (1, .iload_n 0, 2, 0, 0, 0),
  (2, .iconst 1, 3, 0, 1, 0),
  (3, .iushr, 4, 0, 0, 0),
  (4, .ldc_w 265, 7, 0, 1431655765, 525),
  (7, .iand, 8, 0, 0, 0),
  (8, .isub, 9, 0, 0, 0),
  (9, .istore_n 0, 10, 0, 0, 0),
  (10, .iload_n 0, 11, 0, 0, 0),
  (11, .ldc_w 266, 14, 0, 858993459, 526),
  (14, .iand, 15, 0, 0, 0),
  (15, .iload_n 0, 16, 0, 0, 0),
  (16, .iconst 2, 17, 0, 2, 0),
  (17, .iushr, 18, 0, 0, 0),
  (18, .ldc_w 266, 21, 0, 858993459, 526),
  (21, .iand, 22, 0, 0, 0),
  (22, .iadd, 23, 0, 0, 0),
  (23, .istore_n 0, 24, 0, 0, 0),
  (24, .iload_n 0, 25, 0, 0, 0),
  (25, .iload_n 0, 26, 0, 0, 0),
  (26, .iconst 4, 27, 0, 4, 0),
  (27, .iushr, 28, 0, 0, 0),
  (28, .iadd, 29, 0, 0, 0),
  (29, .ldc_w 267, 32, 0, 252645135, 527),
  (32, .iand, 33, 0, 0, 0),
  (33, .istore_n 0, 34, 0, 0, 0),
  (34, .iload_n 0, 35, 0, 0, 0),
  (35, .iload_n 0, 36, 0, 0, 0),
  (36, .bipush 8, 38, 0, 8, 0),
  (38, .iushr, 39, 0, 0, 0),
  (39, .iadd, 40, 0, 0, 0),
  (40, .istore_n 0, 41, 0, 0, 0),
  (41, .iload_n 0, 42, 0, 0, 0),
  (42, .iload_n 0, 43, 0, 0, 0),
  (43, .bipush 16, 45, 0, 16, 0),
  (45, .iushr, 46, 0, 0, 0),
  (46, .iadd, 47, 0, 0, 0),
  (47, .istore_n 0, 48, 0, 0, 0),
  (48, .iload_n 0, 49, 0, 0, 0),
  (49, .bipush 63, 51, 0, 63, 0),
  (51, .iand, 52, 0, 0, 0),
  (52, .ireturn, 53, 0, 0, 0)]
def kJ13_compare_74951 : List mj_E := [
  (0, .lload_n 0, 1, 0, 0, 0),
  (1, .lload_n 2, 2, 0, 0, 0),
  (2, .lcmp, 3, 0, 0, 0),
  (3, .ifCond .ge 7, 6, 10, 0, 0),
  (6, .iconst (-1), 7, 0, (-1), 0),
  (7, .goto 14, 10, 21, 0, 0),
  (10, .lload_n 0, 11, 0, 0, 0),
  (11, .lload_n 2, 12, 0, 0, 0),
  (12, .lcmp, 13, 0, 0, 0),
  (13, .ifCond .ne 7, 16, 20, 0, 0),
  (16, .iconst 0, 17, 0, 0, 0),
  (17, .goto 4, 20, 21, 0, 0),
  (20, .iconst 1, 21, 0, 1, 0),
  (21, .ireturn, 22, 0, 0, 0)]
def kJ9_abs_067f4 : List mj_E := [
  (0, .lload_n 0, 1, 0, 0, 0),
  (1, .lconst 0, 2, 0, 0, 0),
  (2, .lcmp, 3, 0, 0, 0),
  (3, .ifCond .ge 8, 6, 11, 0, 0),
  (6, .lload_n 0, 7, 0, 0, 0),
  (7, .lneg, 8, 0, 0, 0),
  (8, .goto 4, 11, 12, 0, 0),
  (11, .lload_n 0, 12, 0, 0, 0),
  (12, .lreturn, 13, 0, 0, 0)]
def kJ9_max_7cf53 : List mj_E := [
  (0, .iload_n 0, 1, 0, 0, 0),
  (1, .iload_n 1, 2, 0, 0, 0),
  (2, .if_icmp .lt 7, 5, 9, 0, 0),
  (5, .iload_n 0, 6, 0, 0, 0),
  (6, .goto 4, 9, 10, 0, 0),
  (9, .iload_n 1, 10, 0, 0, 0),
  (10, .ireturn, 11, 0, 0, 0)]
def kJ9_min_7cf53 : List mj_E := [
  (0, .iload_n 0, 1, 0, 0, 0),
  (1, .iload_n 1, 2, 0, 0, 0),
  (2, .if_icmp .gt 7, 5, 9, 0, 0),
  (5, .iload_n 0, 6, 0, 0, 0),
  (6, .goto 4, 9, 10, 0, 0),
  (9, .iload_n 1, 10, 0, 0, 0),
  (10, .ireturn, 11, 0, 0, 0)]
def kJ7_fill_d0a16 : List mj_E := [
  (0, .iconst 0, 1, 0, 0, 0),
  (1, .istore_n 3, 2, 0, 0, 0),
  (2, .aload_n 0, 3, 0, 0, 0),
  (3, .arraylength, 4, 0, 0, 0),
  (4, .istore 4, 6, 0, 0, 0),
  (6, .iload_n 3, 7, 0, 0, 0),
  (7, .iload 4, 9, 0, 0, 0),
  (9, .if_icmp .ge 13, 12, 22, 0, 0),
  (12, .aload_n 0, 13, 0, 0, 0),
  (13, .iload_n 3, 14, 0, 0, 0),
  (14, .lload_n 1, 15, 0, 0, 0),
  (15, .lastore, 16, 0, 0, 0),
  (16, .iinc 3 1, 19, 0, 1, 0),
  (19, .goto (-13), 22, 6, 0, 0),
  (22, .return_, 23, 0, 0, 0)]
def kJ7_fill_53178 : List mj_E := [
  (0, .iconst 0, 1, 0, 0, 0),
  (1, .istore_n 2, 2, 0, 0, 0),
  (2, .aload_n 0, 3, 0, 0, 0),
  (3, .arraylength, 4, 0, 0, 0),
  (4, .istore_n 3, 5, 0, 0, 0),
  (5, .iload_n 2, 6, 0, 0, 0),
  (6, .iload_n 3, 7, 0, 0, 0),
  (7, .if_icmp .ge 13, 10, 20, 0, 0),
  (10, .aload_n 0, 11, 0, 0, 0),
  (11, .iload_n 2, 12, 0, 0, 0),
  (12, .iload_n 1, 13, 0, 0, 0),
  (13, .iastore, 14, 0, 0, 0),
  (14, .iinc 2 1, 17, 0, 1, 0),
  (17, .goto (-12), 20, 5, 0, 0),
  (20, .return_, 21, 0, 0, 0)]
def mj_cods : List (List mj_E) := [
  kX0_clear,
  kX0_take,
  kX1_add,
  kX1_clear,
  kX1_fitting,
  kX1_whereSo,
  kX1_isSo,
  kX2_release,
  kX2_deadline,
  kX2_overlap,
  kX2_group,
  kX3_remember,
  kX3_bringBack,
  kX3_keepUnder,
  kX3_bringKept,
  kX4_clear,
  kX4_add,
  kX4_addFraction,
  kX4_commonDivisor,
  kX5_append,
  kX5_cutTo,
  kX5_clear,
  kX5_signAt,
  kX5_digitAt,
  kX5_readTies,
  kX5_readLines,
  kX5_readLine,
  kX5_readNumber,
  kX5_actLength,
  kX5_firstBadAct,
  kX6_add,
  kX6_clear,
  kX6_fit,
  kX6_mostAlike,
  kX7_gather,
  kX7_gatherOf,
  kX7_greatest,
  kX7_findPlace,
  kX7_reach,
  kX7_goOnFromPart,
  kX7_goOnFromPlace,
  kX7_goOnFromSlot,
  kX7_settle,
  kX8_copyFrom,
  kX8_clear,
  kX8_add,
  kX8_isAhead,
  kX8_leadBy,
  kX9_copyFrom,
  kX9_isThere,
  kX9_thereSet,
  kX9_leastFree,
  kX9_doneOfAll,
  kX9_enter,
  kX9_lookAtNext,
  kX9_releaseOf,
  kX9_deadlineOf,
  kX9_overlapOf,
  kX9_groupOf,
  kX9_isReady,
  kX9_hasRun,
  kX9_readySet,
  kX9_firstOf,
  kX9_goBy,
  kX9_goByMany,
  kX9_takeProcessors,
  kX9_letGo,
  kX9_mayLeaveFrom,
  kX9_turnEarly,
  kX9_weightSum,
  kX9_heaviestOf,
  kX9_lagUpper,
  kX9_compareLags,
  kX9_hasLagsOf,
  kX10_sign,
  kX10_end,
  kX10_joins,
  kX10_ties,
  kX10_task,
  kX10_part,
  kX10_sheet,
  kX10_entry,
  kX10_slot,
  kX10_slots,
  kX10_processors,
  kX10_leaves,
  kX10_hurries,
  kX10_rememberedIfDone,
  kX10_shift,
  kX10_answerOfAct,
  kX10_undo,
  kX10_lag,
  kX10_use,
  kX10_order,
  kX10_behind,
  kX10_ahead,
  kX10_runs,
  kX10_when,
  kX10_misses,
  kX10_round,
  kX10_share,
  kX10_pairs,
  kX10_countPairs,
  kX10_lags,
  kX10_flow,
  kX10_waits,
  kX10_missesWhenKept,
  kX10_room,
  kX10_fewest,
  kX10_heard,
  kX10_forget,
  kX10_fits,
  kX10_asks,
  kX10_saw,
  kX10_denies,
  kX10_weights,
  kX10_looks,
  kX10_odds,
  kX10_divisors,
  kX10_rests,
  kX10_isBest,
  kX10_gain,
  kX10_law,
  kX10_firstMissBy,
  kX10_years,
  kX10_nextDraw,
  kX10_drawOf,
  kX10_keep,
  kX10_again,
  kX10_count,
  kX10_row,
  kX11_thrown,
  kX11_in,
  kX11_has,
  kX11_lost,
  kX11_tell,
  kX11_isThere,
  kX11_isTask,
  kX11_thereOf,
  kX11_common,
  kX11_tellPart,
  kX11_layUse,
  kX11_releaseOf,
  kX11_deadlineOf,
  kX11_overlapOf,
  kX11_lengthOf,
  kX11_groupOf,
  kX11_isReady,
  kX11_leadBy,
  kX11_isAhead,
  kX11_layOrder,
  kX11_sign,
  kX11_end,
  kX11_begin,
  kX11_beginText,
  kX11_here,
  kX11_fine,
  kX11_fault,
  kX11_passes,
  kX11_oneOf,
  kX11_wasRight,
  kX11_numberOf,
  kX11_readLine,
  kX11_joins,
  kX11_isTie,
  kX11_rightTies,
  kX11_ties,
  kX11_task,
  kX11_part,
  kX11_sheet,
  kX11_lay,
  kX11_remember,
  kX11_goSlot,
  kX11_slot,
  kX11_goSlots,
  kX11_slots,
  kX11_refusesProcessors,
  kX11_processors,
  kX11_refusesLeaving,
  kX11_goLeave,
  kX11_leaves,
  kX11_hurries,
  kX11_shift,
  kX11_readAct,
  kX11_act,
  kX11_undo,
  kX11_lagUp,
  kX11_lag,
  kX11_use,
  kX11_order,
  kX11_greatestLag,
  kX11_behind,
  kX11_ahead,
  kX11_runs,
  kX11_when,
  kX11_misses,
  kX11_round,
  kX11_share,
  kX11_pairs,
  kX11_lags,
  kX11_layDue,
  kX11_finds,
  kX11_hasRoom,
  kX11_flow,
  kX11_waits,
  kX11_room,
  kX11_fewest,
  kX11_lowOf,
  kX11_highOf,
  kX11_heard,
  kX11_forget,
  kX11_isSo,
  kX11_fitting,
  kX11_fits,
  kX11_asks,
  kX11_saw,
  kX11_denies,
  kX11_isWeight,
  kX11_weights,
  kX11_looks,
  kX11_odds,
  kX11_take,
  kX11_divisors,
  kX11_gets,
  kX11_isBest,
  kX11_rests,
  kX11_lay60,
  kX11_law,
  kX11_draw,
  kX11_doneOf,
  kX11_years,
  kX11_keep,
  kX11_again,
  kX11_count,
  kX11_row,
  kJ6_compare_7cf53,
  kJ6_bitCount_0f7a4,
  kJ13_compare_74951,
  kJ9_abs_067f4,
  kJ9_max_7cf53,
  kJ9_min_7cf53,
  kJ7_fill_d0a16,
  kJ7_fill_53178]
end
section
/-! a small machine over a heap that is a function: its steps, its calls, and rules for going through it -/
abbrev mj_C : Type := (Nat × vp_A) ⊕ (Nat × List Value)
abbrev mj_H : Type := Nat → mj_C
abbrev mj_L : Type := List (Option Value)
abbrev mj_B : Type := Nat → List Value → mj_H → Option Value → mj_H → Prop
def mj_up (h : mj_H) (a : Nat) (c : mj_C) : mj_H := fun i => if i = a then c else h i
def mj_upL (f : Nat → Int64) (k : Nat) (x : Int64) : Nat → Int64 := fun j => if j = k then x else f j
def mj_at : List mj_E → Nat → Option (Instr × Nat × Nat × Int32)
  | [], _ => none
  | (p, i, nx, aux, cv, _) :: r, pc => match Nat.beq p pc with
    | true => some (i, nx, aux, cv)
    | false => mj_at r pc
def mj_blank (L : mj_L) : Nat → mj_L
  | 0 => L
  | j + 1 => match L[j]? with
    | some (some (.long _)) => L.set j none
    | some (some (.double _)) => L.set j none
    | _ => L
def mj_set1 (L : mj_L) (i : Nat) (v : Value) : mj_L := (mj_blank L i).set i (some v)
def mj_set2 (L : mj_L) (i : Nat) (v : Value) : mj_L := ((mj_blank L i).set i (some v)).set (i + 1) none
def mj_one : Value → Bool
  | .long _ => false
  | .double _ => false
  | _ => true
def mj_ldi (L : mj_L) (i nx : Nat) (st : List Value) : Option (Nat × mj_L × List Value) := match L[i]? with
  | some (some (.int x)) => some (nx, L, .int x :: st)
  | _ => none
def mj_ldl (L : mj_L) (i nx : Nat) (st : List Value) : Option (Nat × mj_L × List Value) := match L[i]? with
  | some (some (.long x)) => some (nx, L, .long x :: st)
  | _ => none
def mj_lda (L : mj_L) (i nx : Nat) (st : List Value) : Option (Nat × mj_L × List Value) := match L[i]? with
  | some (some (.ref x)) => some (nx, L, .ref x :: st)
  | _ => none
def mj_sti (L : mj_L) (i nx : Nat) (st : List Value) : Option (Nat × mj_L × List Value) := match st with
  | .int x :: r => match Nat.ble (i + 1) L.length with
    | true => some (nx, mj_set1 L i (.int x), r)
    | false => none
  | _ => none
def mj_sta (L : mj_L) (i nx : Nat) (st : List Value) : Option (Nat × mj_L × List Value) := match st with
  | .ref x :: r => match Nat.ble (i + 1) L.length with
    | true => some (nx, mj_set1 L i (.ref x), r)
    | false => none
  | _ => none
def mj_stl (L : mj_L) (i nx : Nat) (st : List Value) : Option (Nat × mj_L × List Value) := match st with
  | .long x :: r => match Nat.ble (i + 2) L.length with
    | true => some (nx, mj_set2 L i (.long x), r)
    | false => none
  | _ => none
def mj_inc (L : mj_L) (i nx : Nat) (cv : Int32) (st : List Value) : Option (Nat × mj_L × List Value) := match L[i]? with
  | some (some (.int x)) => match Nat.ble (i + 1) L.length with
    | true => some (nx, mj_set1 L i (.int (x + cv)), st)
    | false => none
  | _ => none
/-- two ints, the upper one second -/
def mj_op2 (f : Int32 → Int32 → Int32) (L : mj_L) (nx : Nat) (st : List Value) : Option (Nat × mj_L × List Value) := match st with
  | .int y :: .int x :: r => some (nx, L, .int (f x y) :: r)
  | _ => none
def mj_op2l (f : Int64 → Int64 → Int64) (L : mj_L) (nx : Nat) (st : List Value) : Option (Nat × mj_L × List Value) := match st with
  | .long y :: .long x :: r => some (nx, L, .long (f x y) :: r)
  | _ => none
def mj_op1 (f : Int32 → Value) (L : mj_L) (nx : Nat) (st : List Value) : Option (Nat × mj_L × List Value) := match st with
  | .int x :: r => some (nx, L, f x :: r)
  | _ => none
def mj_op1l (f : Int64 → Value) (L : mj_L) (nx : Nat) (st : List Value) : Option (Nat × mj_L × List Value) := match st with
  | .long x :: r => some (nx, L, f x :: r)
  | _ => none
def mj_ushr (x y : Int32) : Int32 := (x.toUInt32 >>> (y.toUInt32 &&& Int32.toUInt32 31)).toInt32
/-- what touches no heap and can't fail -/
def mj_pure (i : Instr) (nx aux : Nat) (cv : Int32) (L : mj_L) (st : List Value) : Option (Nat × mj_L × List Value) := match i with
  | .iconst _ => some (nx, L, .int cv :: st)
  | .bipush _ => some (nx, L, .int cv :: st)
  | .sipush _ => some (nx, L, .int cv :: st)
  | .ldc _ => some (nx, L, .int cv :: st)
  | .ldc_w _ => some (nx, L, .int cv :: st)
  | .ldc2_w _ => some (nx, L, .long (Int64.ofNat aux) :: st)
  | .lconst n => match n.val with
    | 0 => some (nx, L, .long 0 :: st)
    | _ => some (nx, L, .long 1 :: st)
  | .iload_n k => mj_ldi L k.val nx st
  | .iload k => mj_ldi L k nx st
  | .lload_n k => mj_ldl L k.val nx st
  | .lload k => mj_ldl L k nx st
  | .aload_n k => mj_lda L k.val nx st
  | .aload k => mj_lda L k nx st
  | .istore_n k => mj_sti L k.val nx st
  | .istore k => mj_sti L k nx st
  | .lstore_n k => mj_stl L k.val nx st
  | .lstore k => mj_stl L k nx st
  | .astore_n k => mj_sta L k.val nx st
  | .astore k => mj_sta L k nx st
  | .iinc k _ => mj_inc L k nx cv st
  | .iadd => match st with
    | .int y :: .int x :: r => some (nx, L, .int (x + y) :: r)
    | _ => none
  | .isub => match st with
    | .int y :: .int x :: r => some (nx, L, .int (x - y) :: r)
    | _ => none
  | .imul => match st with
    | .int y :: .int x :: r => some (nx, L, .int (x * y) :: r)
    | _ => none
  | .iand => match st with
    | .int y :: .int x :: r => some (nx, L, .int (x &&& y) :: r)
    | _ => none
  | .ior => match st with
    | .int y :: .int x :: r => some (nx, L, .int (x ||| y) :: r)
    | _ => none
  | .ixor => match st with
    | .int y :: .int x :: r => some (nx, L, .int (x ^^^ y) :: r)
    | _ => none
  | .ishl => match st with
    | .int y :: .int x :: r => some (nx, L, .int (x <<< (y &&& 31)) :: r)
    | _ => none
  | .ishr => match st with
    | .int y :: .int x :: r => some (nx, L, .int (x >>> (y &&& 31)) :: r)
    | _ => none
  | .iushr => match st with
    | .int y :: .int x :: r => some (nx, L, .int (mj_ushr x y) :: r)
    | _ => none
  | .ladd => match st with
    | .long y :: .long x :: r => some (nx, L, .long (x + y) :: r)
    | _ => none
  | .lsub => match st with
    | .long y :: .long x :: r => some (nx, L, .long (x - y) :: r)
    | _ => none
  | .lmul => match st with
    | .long y :: .long x :: r => some (nx, L, .long (x * y) :: r)
    | _ => none
  | .i2l => match st with
    | .int x :: r => some (nx, L, .long x.toInt64 :: r)
    | _ => none
  | .i2b => match st with
    | .int x :: r => some (nx, L, .int x.toInt8.toInt32 :: r)
    | _ => none
  | .i2s => match st with
    | .int x :: r => some (nx, L, .int x.toInt16.toInt32 :: r)
    | _ => none
  | .i2c => match st with
    | .int x :: r => some (nx, L, .int (x.toUInt32 % 65536).toInt32 :: r)
    | _ => none
  | .l2i => match st with
    | .long x :: r => some (nx, L, .int x.toInt32 :: r)
    | _ => none
  | .lneg => match st with
    | .long x :: r => some (nx, L, .long (-x) :: r)
    | _ => none
  | .lcmp => match st with
    | .long y :: .long x :: r => some (nx, L, .int (lg_cmp x y) :: r)
    | _ => none
  | .dup => match st with
    | v :: r => match mj_one v with
      | true => some (nx, L, v :: v :: r)
      | false => none
    | _ => none
  | .pop => match st with
    | v :: r => match mj_one v with
      | true => some (nx, L, r)
      | false => none
    | _ => none
  | .dup_x1 => match st with
    | v :: w :: r => match mj_one v && mj_one w with
      | true => some (nx, L, v :: w :: v :: r)
      | false => none
    | _ => none
  | .dup2 => match st with
    | v :: w :: r => match mj_one v && mj_one w with
      | true => some (nx, L, v :: w :: v :: w :: r)
      | false => none
    | _ => none
  | .goto _ => some (aux, L, st)
  | _ => none
/-- a branch's question -/
def mj_ask (i : Instr) (st : List Value) : Option (Prop × List Value) := match i with
  | .ifCond q _ => match st with
    | .int x :: r => match q with
      | .eq => some (x = 0, r)
      | .ne => some (¬ x = 0, r)
      | .lt => some (x < 0, r)
      | .ge => some (0 ≤ x, r)
      | .gt => some (0 < x, r)
      | .le => some (x ≤ 0, r)
    | _ => none
  | .if_icmp q _ => match st with
    | .int y :: .int x :: r => match q with
      | .eq => some (x = y, r)
      | .ne => some (¬ x = y, r)
      | .lt => some (x < y, r)
      | .ge => some (y ≤ x, r)
      | .gt => some (y < x, r)
      | .le => some (x ≤ y, r)
    | _ => none
  | _ => none
/-- division, with its condition -/
def mj_dv (i : Instr) (st : List Value) : Option (Prop × List Value) := match i with
  | .idiv => match st with
    | .int y :: .int x :: r => some (¬ y = 0, .int (x / y) :: r)
    | _ => none
  | .irem => match st with
    | .int y :: .int x :: r => some (¬ y = 0, .int (x - x / y * y) :: r)
    | _ => none
  | .ldiv => match st with
    | .long y :: .long x :: r => some (¬ y = 0, .long (x / y) :: r)
    | _ => none
  | .lrem => match st with
    | .long y :: .long x :: r => some (¬ y = 0, .long (x - x / y * y) :: r)
    | _ => none
  | _ => none
/-- a switch's target -/
def mj_sw (i : Instr) (pc : Nat) (st : List Value) : Option (Int × List Value) := match i with
  | .lookupswitch d ps => match st with
    | .int x :: r => some ((pc : Int) + Op.lookupswitch.offset ps.toList d x.toInt, r)
    | _ => none
  | .tableswitch d lo hi offs => match st with
    | .int x :: r => some ((pc : Int) + (if x.toInt < lo ∨ hi < x.toInt then d else offs.toList.getD (x.toInt - lo).toNat 0), r)
    | _ => none
  | _ => none
def mj_fty (ci k : Nat) : FieldType := match ci with
  | 0 => tyX0 k
  | 1 => tyX1 k
  | 3 => tyX3 k
  | 4 => tyX4 k
  | 5 => tyX5 k
  | 6 => tyX6 k
  | 7 => tyX7 k
  | 8 => tyX8 k
  | 9 => tyX9 k
  | 10 => tyX10 k
  | 11 => tyX11 k
  | _ => .int
def mj_fit (ty : FieldType) (v : Value) : Bool := match ty with
  | .int => match v with
    | .int _ => true
    | _ => false
  | .long => match v with
    | .long _ => true
    | _ => false
  | .array _ => match v with
    | .ref _ => true
    | _ => false
  | .object _ => match v with
    | .ref _ => true
    | _ => false
  | _ => false
/-- a step that reads or writes cells: from the stack and the heap to the new ones -/
def mj_mem (i : Instr) (aux : Nat) (st : List Value) (h : mj_H) (st' : List Value) (h' : mj_H) : Prop := match i with
  | .getfield _ => ∃ a fs v r, st = .ref a :: r ∧ h a = .inr (aux / 64, fs) ∧ fs[aux % 64]? = some v ∧ st' = v :: r ∧ h' = h
  | .putfield _ => ∃ a fs v r, st = v :: .ref a :: r ∧ h a = .inr (aux / 64, fs) ∧ aux % 64 < fs.length ∧ mj_fit (mj_fty (aux / 64) (aux % 64)) v = true ∧ st' = r ∧ h' = mj_up h a (.inr (aux / 64, fs.set (aux % 64) v))
  | .iaload => ∃ a j n f r, st = .int j :: .ref a :: r ∧ (h a = .inl (0, n, .inl f) ∨ h a = .inl (6, n, .inl f)) ∧ vp_in j n ∧ st' = .int (f j.toNatClampNeg) :: r ∧ h' = h
  | .laload => ∃ a j n f r, st = .int j :: .ref a :: r ∧ h a = .inl (1, n, .inr (.inl f)) ∧ vp_in j n ∧ st' = .long (f j.toNatClampNeg) :: r ∧ h' = h
  | .baload => ∃ a j n f r, st = .int j :: .ref a :: r ∧ (h a = .inl (2, n, .inl f) ∨ h a = .inl (3, n, .inl f)) ∧ vp_in j n ∧ st' = .int (f j.toNatClampNeg) :: r ∧ h' = h
  | .caload => ∃ a j n f r, st = .int j :: .ref a :: r ∧ h a = .inl (4, n, .inl f) ∧ vp_in j n ∧ st' = .int (f j.toNatClampNeg) :: r ∧ h' = h
  | .aaload => ∃ a j n f b r, st = .int j :: .ref a :: r ∧ h a = .inl (5, n, .inr (.inr (.inr (.inr f)))) ∧ vp_in j n ∧ f j.toNatClampNeg = some b ∧ st' = .ref b :: r ∧ h' = h
  | .iastore => ∃ a j n f x r, st = .int x :: .int j :: .ref a :: r ∧ h a = .inl (0, n, .inl f) ∧ vp_in j n ∧ st' = r ∧ h' = mj_up h a (.inl (0, n, .inl (upd f j.toNatClampNeg x)))
  | .lastore => ∃ a j n f x r, st = .long x :: .int j :: .ref a :: r ∧ h a = .inl (1, n, .inr (.inl f)) ∧ vp_in j n ∧ st' = r ∧ h' = mj_up h a (.inl (1, n, .inr (.inl (vp_updL f j.toNatClampNeg x))))
  | .bastore => ∃ a j n f x r, st = .int x :: .int j :: .ref a :: r ∧ vp_in j n ∧ st' = r ∧ ((h a = .inl (2, n, .inl f) ∧ h' = mj_up h a (.inl (2, n, .inl (upd f j.toNatClampNeg (vp_nar .byte x))))) ∨ (h a = .inl (3, n, .inl f) ∧ h' = mj_up h a (.inl (3, n, .inl (upd f j.toNatClampNeg (vp_nar .boolean x))))))
  | .castore => ∃ a j n f x r, st = .int x :: .int j :: .ref a :: r ∧ h a = .inl (4, n, .inl f) ∧ vp_in j n ∧ st' = r ∧ h' = mj_up h a (.inl (4, n, .inl (upd f j.toNatClampNeg (vp_nar .char x))))
  | .arraylength => ∃ a t n f r, st = .ref a :: r ∧ h a = .inl (t, n, f) ∧ t < 6 ∧ st' = .int (Int32.ofNat n) :: r ∧ h' = h
  | .invokestatic _ => aux = 9999 ∧ ∃ a a0 n n0 f g sp dp k r, st = .int k :: .int dp :: .ref a :: .int sp :: .ref a0 :: r ∧ h a0 = .inl (0, n0, .inl f) ∧ h a = .inl (0, n, .inl g) ∧ (r.map fun v => v.category).sum ≤ 8 ∧ ¬ sp < 0 ∧ ¬ dp < 0 ∧ ¬ k < 0 ∧ sp.toNatClampNeg + k.toNatClampNeg ≤ n0 ∧ dp.toNatClampNeg + k.toNatClampNeg ≤ n ∧ st' = r ∧ h' = mj_up h a (.inl (0, n, .inl (va_cpy f g sp.toNatClampNeg dp.toNatClampNeg k.toNatClampNeg)))
  | .getstatic _ => h' = h ∧ ((aux = 5247 ∧ st' = .ref 247 :: st) ∨ (aux = 5248 ∧ st' = .ref 248 :: st))
  | _ => False
/-- a call: the arguments and what stays on the stack -/
def mj_call (i : Instr) (aux : Nat) (st : List Value) (h : mj_H) (as rest : List Value) : Prop :=
  ∃ sg : mj_S, mj_sigs[aux]? = some sg ∧ st = as.reverse ++ rest ∧ as.length = sg.2.2.2.2.1 ∧ (rest.map fun v => v.category).sum ≤ 8 ∧
    match i with
    | .invokestatic _ => sg.2.2.2.2.2.1 = true
    | .invokevirtual _ => sg.2.2.2.2.2.1 = false ∧ ∃ b bs fs, as = .ref b :: bs ∧ h b = .inr (sg.2.2.2.2.2.2.1, fs)
    | _ => False
def mj_ret (ty : Option FieldType) (i : Instr) (st : List Value) (v : Option Value) : Prop := match i with
  | .ireturn => ∃ x t, st = [.int x] ∧ v = some (.int x) ∧ ty = some t ∧ narrow t (.int x) = .int x
  | .lreturn => ∃ x, st = [.long x] ∧ v = some (.long x) ∧ ty = some .long
  | .return_ => st = [] ∧ v = none ∧ ty = none
  | _ => False
def mj_run (B : mj_B) (ty : Option FieldType) (cs : List mj_E) : Nat → (Option Value → mj_H → Prop) → mj_H → Nat → mj_L → List Value → Prop
  | 0, _, _, _, _, _ => False
  | n + 1, Q, h, pc, L, st => ∃ i nx aux cv, mj_at cs pc = some (i, nx, aux, cv) ∧
      ((∃ pc' L' st', mj_pure i nx aux cv L st = some (pc', L', st') ∧ mj_run B ty cs n Q h pc' L' st')
      ∨ (∃ q st', mj_ask i st = some (q, st') ∧ ((q ∧ mj_run B ty cs n Q h aux L st') ∨ (¬ q ∧ mj_run B ty cs n Q h nx L st')))
      ∨ (∃ q st', mj_dv i st = some (q, st') ∧ q ∧ mj_run B ty cs n Q h nx L st')
      ∨ (∃ (t : Nat) (st' : List Value), mj_sw i pc st = some ((t : Int), st') ∧ mj_run B ty cs n Q h t L st')
      ∨ (∃ st' h', mj_mem i aux st h st' h' ∧ mj_run B ty cs n Q h' nx L st')
      ∨ (∃ as rest r h', mj_call i aux st h as rest ∧ B aux as h r h' ∧ mj_run B ty cs n Q h' nx L (r.toList ++ rest))
      ∨ (∃ v, mj_ret ty i st v ∧ Q v h))
def mj_ents : List Value → mj_L
  | [] => []
  | v :: vs => match mj_one v with
    | true => some v :: mj_ents vs
    | false => some v :: none :: mj_ents vs
def mj_ent (as : List Value) (n : Nat) : mj_L := mj_ents as ++ List.replicate (n - (mj_ents as).length) none
def mj_big : Nat → mj_B
  | 0 => fun _ _ _ _ _ => False
  | d + 1 => fun k as h r h' => ∃ (sg : mj_S) (cs : List mj_E), mj_sigs[k]? = some sg ∧ mj_cods[k]? = some cs ∧ (mj_ents as).length ≤ sg.2.2.1 ∧ ∃ n, mj_run (mj_big d) sg.2.2.2.1 cs n (fun v g => v = r ∧ g = h') h 0 (mj_ent as sg.2.2.1) []
/-- a method's contract: depth, number, arguments, heap, what holds behind it -/
def mj_Mt (d k : Nat) (as : List Value) (h : mj_H) (Q : Option Value → mj_H → Prop) : Prop := ∃ r h', mj_big d k as h r h' ∧ Q r h'
def mj_Rn (d : Nat) (ty : Option FieldType) (cs : List mj_E) (Q : Option Value → mj_H → Prop) (h : mj_H) (pc : Nat) (L : mj_L) (st : List Value) : Prop := ∃ n, mj_run (mj_big d) ty cs n Q h pc L st
theorem mj_run_sp {B : mj_B} {ty : Option FieldType} {cs : List mj_E} : ∀ (n : Nat) {Q : Option Value → mj_H → Prop} {h : mj_H} {pc : Nat} {L : mj_L} {st : List Value}, mj_run B ty cs n Q h pc L st → ∃ r h', Q r h' ∧ mj_run B ty cs n (fun v g => v = r ∧ g = h') h pc L st := by
  intro n
  induction n with
  | zero => intro Q h pc L st hr; exact hr.elim
  | succ n ih =>
    intro Q h pc L st hr
    obtain ⟨i, nx, aux, cv, hat, hr⟩ := hr
    rcases hr with ⟨a, b, c, e, hr⟩ | ⟨q, c, e, hr⟩ | ⟨q, c, e, hq, hr⟩ | ⟨t, c, e, hr⟩ | ⟨c, g, e, hr⟩ | ⟨a, b, r1, g, e, hB, hr⟩ | ⟨v, e, hr⟩
    · obtain ⟨r, h', h1, h2⟩ := ih hr
      exact ⟨r, h', h1, i, nx, aux, cv, hat, Or.inl ⟨a, b, c, e, h2⟩⟩
    · rcases hr with ⟨hq, hr⟩ | ⟨hq, hr⟩
      · obtain ⟨r, h', h1, h2⟩ := ih hr
        exact ⟨r, h', h1, i, nx, aux, cv, hat, Or.inr (Or.inl ⟨q, c, e, Or.inl ⟨hq, h2⟩⟩)⟩
      · obtain ⟨r, h', h1, h2⟩ := ih hr
        exact ⟨r, h', h1, i, nx, aux, cv, hat, Or.inr (Or.inl ⟨q, c, e, Or.inr ⟨hq, h2⟩⟩)⟩
    · obtain ⟨r, h', h1, h2⟩ := ih hr
      exact ⟨r, h', h1, i, nx, aux, cv, hat, Or.inr (Or.inr (Or.inl ⟨q, c, e, hq, h2⟩))⟩
    · obtain ⟨r, h', h1, h2⟩ := ih hr
      exact ⟨r, h', h1, i, nx, aux, cv, hat, Or.inr (Or.inr (Or.inr (Or.inl ⟨t, c, e, h2⟩)))⟩
    · obtain ⟨r, h', h1, h2⟩ := ih hr
      exact ⟨r, h', h1, i, nx, aux, cv, hat, Or.inr (Or.inr (Or.inr (Or.inr (Or.inl ⟨c, g, e, h2⟩))))⟩
    · obtain ⟨r, h', h1, h2⟩ := ih hr
      exact ⟨r, h', h1, i, nx, aux, cv, hat, Or.inr (Or.inr (Or.inr (Or.inr (Or.inr (Or.inl ⟨a, b, r1, g, e, hB, h2⟩)))))⟩
    · exact ⟨v, h, hr, i, nx, aux, cv, hat, Or.inr (Or.inr (Or.inr (Or.inr (Or.inr (Or.inr ⟨v, e, rfl, rfl⟩)))))⟩
/-- more depth does no harm -/
theorem mj_run_mono {B B' : mj_B} (hB : ∀ k as h r h', B k as h r h' → B' k as h r h') {ty : Option FieldType} {cs : List mj_E} : ∀ (n : Nat) {Q : Option Value → mj_H → Prop} {h : mj_H} {pc : Nat} {L : mj_L} {st : List Value}, mj_run B ty cs n Q h pc L st → mj_run B' ty cs n Q h pc L st := by
  intro n
  induction n with
  | zero => intro Q h pc L st hr; exact hr.elim
  | succ n ih =>
    intro Q h pc L st hr
    obtain ⟨i, nx, aux, cv, hat, hr⟩ := hr
    refine ⟨i, nx, aux, cv, hat, ?_⟩
    rcases hr with ⟨a, b, c, e, hr⟩ | ⟨q, c, e, hr⟩ | ⟨q, c, e, hq, hr⟩ | ⟨t, c, e, hr⟩ | ⟨c, g, e, hr⟩ | ⟨a, b, r1, g, e, hB1, hr⟩ | ⟨v, e, hr⟩
    · exact Or.inl ⟨a, b, c, e, ih hr⟩
    · rcases hr with ⟨hq, hr⟩ | ⟨hq, hr⟩
      · exact Or.inr (Or.inl ⟨q, c, e, Or.inl ⟨hq, ih hr⟩⟩)
      · exact Or.inr (Or.inl ⟨q, c, e, Or.inr ⟨hq, ih hr⟩⟩)
    · exact Or.inr (Or.inr (Or.inl ⟨q, c, e, hq, ih hr⟩))
    · exact Or.inr (Or.inr (Or.inr (Or.inl ⟨t, c, e, ih hr⟩)))
    · exact Or.inr (Or.inr (Or.inr (Or.inr (Or.inl ⟨c, g, e, ih hr⟩))))
    · exact Or.inr (Or.inr (Or.inr (Or.inr (Or.inr (Or.inl ⟨a, b, r1, g, e, hB _ _ _ _ _ hB1, ih hr⟩)))))
    · exact Or.inr (Or.inr (Or.inr (Or.inr (Or.inr (Or.inr ⟨v, e, hr⟩)))))
theorem mj_big_succ : ∀ (d k : Nat) (as : List Value) (h : mj_H) (r : Option Value) (h' : mj_H), mj_big d k as h r h' → mj_big (d + 1) k as h r h' := by
  intro d
  induction d with
  | zero => intro k as h r h' q; exact q.elim
  | succ d ih =>
    intro k as h r h' q
    obtain ⟨sg, cs, h1, h2, h3, n, h4⟩ := q
    exact ⟨sg, cs, h1, h2, h3, n, mj_run_mono ih n h4⟩
theorem mj_big_le {d d' : Nat} (hd : d ≤ d') {k : Nat} {as : List Value} {h : mj_H} {r : Option Value} {h' : mj_H} (q : mj_big d k as h r h') : mj_big d' k as h r h' := by
  induction hd with
  | refl => exact q
  | step _ ih => exact mj_big_succ _ _ _ _ _ _ ih
theorem mj_Mt.le {d d' : Nat} (hd : d ≤ d') {k : Nat} {as : List Value} {h : mj_H} {Q : Option Value → mj_H → Prop} (q : mj_Mt d k as h Q) : mj_Mt d' k as h Q := by
  obtain ⟨r, h', h1, h2⟩ := q
  exact ⟨r, h', mj_big_le hd h1, h2⟩
theorem mj_Mt.imp {d : Nat} {k : Nat} {as : List Value} {h : mj_H} {Q Q' : Option Value → mj_H → Prop} (q : mj_Mt d k as h Q) (hq : ∀ r g, Q r g → Q' r g) : mj_Mt d k as h Q' := by
  obtain ⟨r, h', h1, h2⟩ := q
  exact ⟨r, h', h1, hq _ _ h2⟩
/-- a method's body gives its contract -/
theorem mj_of {d k : Nat} {as : List Value} {h : mj_H} {Q : Option Value → mj_H → Prop} (sg : mj_S) (cs : List mj_E) (h1 : mj_sigs[k]? = some sg) (h2 : mj_cods[k]? = some cs) (h3 : Nat.ble (mj_ents as).length sg.2.2.1 = true)
    (q : mj_Rn d sg.2.2.2.1 cs Q h 0 (mj_ent as sg.2.2.1) []) : mj_Mt (d + 1) k as h Q := by
  obtain ⟨n, q⟩ := q
  obtain ⟨r, h', h4, h5⟩ := mj_run_sp n q
  exact ⟨r, h', ⟨sg, cs, h1, h2, Nat.le_of_ble_eq_true h3, n, h5⟩, h4⟩
section mjRules
variable {d : Nat} {ty : Option FieldType} {cs : List mj_E} {Q : Option Value → mj_H → Prop} {h : mj_H} {pc : Nat} {L : mj_L} {st : List Value}
/-- many plain steps -/
def mj_go (cs : List mj_E) : Nat → Nat → mj_L → List Value → Option (Nat × mj_L × List Value)
  | 0, pc, L, st => some (pc, L, st)
  | n + 1, pc, L, st => match mj_at cs pc with
    | some (i, nx, aux, cv) => match mj_pure i nx aux cv L st with
      | some (pc', L', st') => mj_go cs n pc' L' st'
      | none => none
    | none => none
theorem mj_step {i : Instr} {nx aux : Nat} {cv : Int32} {pc' : Nat} {L' : mj_L} {st' : List Value} (h1 : mj_at cs pc = some (i, nx, aux, cv)) (h2 : mj_pure i nx aux cv L st = some (pc', L', st')) (k : mj_Rn d ty cs Q h pc' L' st') : mj_Rn d ty cs Q h pc L st := by
  obtain ⟨n, k⟩ := k
  exact ⟨n + 1, i, nx, aux, cv, h1, Or.inl ⟨_, _, _, h2, k⟩⟩
theorem mj_steps (n : Nat) : ∀ {pc : Nat} {L : mj_L} {st : List Value} {pc' : Nat} {L' : mj_L} {st' : List Value}, mj_go cs n pc L st = some (pc', L', st') → mj_Rn d ty cs Q h pc' L' st' → mj_Rn d ty cs Q h pc L st := by
  induction n with
  | zero =>
    intro pc L st pc' L' st' h1 k
    simp only [mj_go, Option.some.injEq, Prod.mk.injEq] at h1
    obtain ⟨rfl, rfl, rfl⟩ := h1
    exact k
  | succ n ih =>
    intro pc L st pc' L' st' h1 k
    rw [mj_go] at h1
    split at h1
    next i nx aux cv e1 =>
      split at h1
      next p2 L2 s2 e2 => exact mj_step e1 e2 (ih h1 k)
      next => cases h1
    next => cases h1
theorem mj_if {i : Instr} {nx aux : Nat} {cv : Int32} {q : Prop} {st' : List Value} (h1 : mj_at cs pc = some (i, nx, aux, cv)) (h2 : mj_ask i st = some (q, st')) (k1 : q → mj_Rn d ty cs Q h aux L st') (k2 : ¬ q → mj_Rn d ty cs Q h nx L st') : mj_Rn d ty cs Q h pc L st := by
  by_cases hq : q
  · obtain ⟨n, k⟩ := k1 hq
    exact ⟨n + 1, i, nx, aux, cv, h1, Or.inr (Or.inl ⟨_, _, h2, Or.inl ⟨hq, k⟩⟩)⟩
  · obtain ⟨n, k⟩ := k2 hq
    exact ⟨n + 1, i, nx, aux, cv, h1, Or.inr (Or.inl ⟨_, _, h2, Or.inr ⟨hq, k⟩⟩)⟩
theorem mj_div {i : Instr} {nx aux : Nat} {cv : Int32} {q : Prop} {st' : List Value} (h1 : mj_at cs pc = some (i, nx, aux, cv)) (h2 : mj_dv i st = some (q, st')) (hq : q) (k : mj_Rn d ty cs Q h nx L st') : mj_Rn d ty cs Q h pc L st := by
  obtain ⟨n, k⟩ := k
  exact ⟨n + 1, i, nx, aux, cv, h1, Or.inr (Or.inr (Or.inl ⟨_, _, h2, hq, k⟩))⟩
theorem mj_swi {i : Instr} {nx aux : Nat} {cv : Int32} {x : Int} {st' : List Value} (t : Nat) (h1 : mj_at cs pc = some (i, nx, aux, cv)) (h2 : mj_sw i pc st = some (x, st')) (hx : x = (t : Int)) (k : mj_Rn d ty cs Q h t L st') : mj_Rn d ty cs Q h pc L st := by
  obtain ⟨n, k⟩ := k
  subst hx
  exact ⟨n + 1, i, nx, aux, cv, h1, Or.inr (Or.inr (Or.inr (Or.inl ⟨_, _, h2, k⟩)))⟩
theorem mj_me {i : Instr} {nx aux : Nat} {cv : Int32} {st' : List Value} {h' : mj_H} (h1 : mj_at cs pc = some (i, nx, aux, cv)) (h2 : mj_mem i aux st h st' h') (k : mj_Rn d ty cs Q h' nx L st') : mj_Rn d ty cs Q h pc L st := by
  obtain ⟨n, k⟩ := k
  exact ⟨n + 1, i, nx, aux, cv, h1, Or.inr (Or.inr (Or.inr (Or.inr (Or.inl ⟨_, _, h2, k⟩))))⟩
theorem mj_gs1 {ix nx : Nat} {cv : Int32} (h1 : mj_at cs pc = some (.getstatic ix, nx, 5247, cv)) (kk : mj_Rn d ty cs Q h nx L (.ref 247 :: st)) : mj_Rn d ty cs Q h pc L st :=
  mj_me h1 ⟨rfl, Or.inl ⟨rfl, rfl⟩⟩ kk
theorem mj_gs2 {ix nx : Nat} {cv : Int32} (h1 : mj_at cs pc = some (.getstatic ix, nx, 5248, cv)) (kk : mj_Rn d ty cs Q h nx L (.ref 248 :: st)) : mj_Rn d ty cs Q h pc L st :=
  mj_me h1 ⟨rfl, Or.inr ⟨rfl, rfl⟩⟩ kk
theorem mj_get {ix nx aux : Nat} {cv : Int32} {a ci k : Nat} {fs : List Value} {v : Value} {r : List Value} (ha : h a = .inr (ci, fs)) (h1 : mj_at cs pc = some (.getfield ix, nx, aux, cv)) (hc : aux / 64 = ci) (hk : aux % 64 = k) (hv : fs[k]? = some v) (kk : mj_Rn d ty cs Q h nx L (v :: r)) : mj_Rn d ty cs Q h pc L (.ref a :: r) := by
  subst hc; subst hk
  exact mj_me h1 ⟨a, fs, v, r, rfl, ha, hv, rfl, rfl⟩ kk
theorem mj_put {ix nx aux : Nat} {cv : Int32} {a ci k : Nat} {fs : List Value} {v : Value} {r : List Value} (ha : h a = .inr (ci, fs)) (h1 : mj_at cs pc = some (.putfield ix, nx, aux, cv)) (hc : aux / 64 = ci) (hk : aux % 64 = k) (hl : Nat.ble (k + 1) fs.length = true) (hf : mj_fit (mj_fty ci k) v = true) (kk : mj_Rn d ty cs Q (mj_up h a (.inr (ci, fs.set k v))) nx L r) : mj_Rn d ty cs Q h pc L (v :: .ref a :: r) := by
  subst hc; subst hk
  exact mj_me h1 ⟨a, fs, v, r, rfl, ha, Nat.le_of_ble_eq_true hl, hf, rfl, rfl⟩ kk
theorem mj_iald {nx aux : Nat} {cv : Int32} {a n : Nat} {f : Nat → Int32} {j : Int32} {r : List Value} (ha : h a = .inl (0, n, .inl f)) (hj : vp_in j n) (h1 : mj_at cs pc = some (.iaload, nx, aux, cv)) (kk : mj_Rn d ty cs Q h nx L (.int (f j.toNatClampNeg) :: r)) : mj_Rn d ty cs Q h pc L (.int j :: .ref a :: r) :=
  mj_me h1 ⟨a, j, n, f, r, rfl, Or.inl ha, hj, rfl, rfl⟩ kk
/-- a row that is only read -/
theorem mj_iald6 {nx aux : Nat} {cv : Int32} {a n : Nat} {f : Nat → Int32} {j : Int32} {r : List Value} (ha : h a = .inl (6, n, .inl f)) (hj : vp_in j n) (h1 : mj_at cs pc = some (.iaload, nx, aux, cv)) (kk : mj_Rn d ty cs Q h nx L (.int (f j.toNatClampNeg) :: r)) : mj_Rn d ty cs Q h pc L (.int j :: .ref a :: r) :=
  mj_me h1 ⟨a, j, n, f, r, rfl, Or.inr ha, hj, rfl, rfl⟩ kk
theorem mj_lald {nx aux : Nat} {cv : Int32} {a n : Nat} {f : Nat → Int64} {j : Int32} {r : List Value} (ha : h a = .inl (1, n, .inr (.inl f))) (hj : vp_in j n) (h1 : mj_at cs pc = some (.laload, nx, aux, cv)) (kk : mj_Rn d ty cs Q h nx L (.long (f j.toNatClampNeg) :: r)) : mj_Rn d ty cs Q h pc L (.int j :: .ref a :: r) :=
  mj_me h1 ⟨a, j, n, f, r, rfl, ha, hj, rfl, rfl⟩ kk
theorem mj_bald {nx aux : Nat} {cv : Int32} {a n : Nat} {f : Nat → Int32} {j : Int32} {r : List Value} (ha : h a = .inl (2, n, .inl f) ∨ h a = .inl (3, n, .inl f)) (hj : vp_in j n) (h1 : mj_at cs pc = some (.baload, nx, aux, cv)) (kk : mj_Rn d ty cs Q h nx L (.int (f j.toNatClampNeg) :: r)) : mj_Rn d ty cs Q h pc L (.int j :: .ref a :: r) :=
  mj_me h1 ⟨a, j, n, f, r, rfl, ha, hj, rfl, rfl⟩ kk
theorem mj_cald {nx aux : Nat} {cv : Int32} {a n : Nat} {f : Nat → Int32} {j : Int32} {r : List Value} (ha : h a = .inl (4, n, .inl f)) (hj : vp_in j n) (h1 : mj_at cs pc = some (.caload, nx, aux, cv)) (kk : mj_Rn d ty cs Q h nx L (.int (f j.toNatClampNeg) :: r)) : mj_Rn d ty cs Q h pc L (.int j :: .ref a :: r) :=
  mj_me h1 ⟨a, j, n, f, r, rfl, ha, hj, rfl, rfl⟩ kk
theorem mj_aald {nx aux : Nat} {cv : Int32} {a n b : Nat} {f : Nat → Option Nat} {j : Int32} {r : List Value} (ha : h a = .inl (5, n, .inr (.inr (.inr (.inr f))))) (hj : vp_in j n) (hb : f j.toNatClampNeg = some b) (h1 : mj_at cs pc = some (.aaload, nx, aux, cv)) (kk : mj_Rn d ty cs Q h nx L (.ref b :: r)) : mj_Rn d ty cs Q h pc L (.int j :: .ref a :: r) :=
  mj_me h1 ⟨a, j, n, f, b, r, rfl, ha, hj, hb, rfl, rfl⟩ kk
theorem mj_iast {nx aux : Nat} {cv : Int32} {a n : Nat} {f : Nat → Int32} {j x : Int32} {r : List Value} (ha : h a = .inl (0, n, .inl f)) (hj : vp_in j n) (h1 : mj_at cs pc = some (.iastore, nx, aux, cv)) (kk : mj_Rn d ty cs Q (mj_up h a (.inl (0, n, .inl (upd f j.toNatClampNeg x)))) nx L r) : mj_Rn d ty cs Q h pc L (.int x :: .int j :: .ref a :: r) :=
  mj_me h1 ⟨a, j, n, f, x, r, rfl, ha, hj, rfl, rfl⟩ kk
theorem mj_last {nx aux : Nat} {cv : Int32} {a n : Nat} {f : Nat → Int64} {j : Int32} {x : Int64} {r : List Value} (ha : h a = .inl (1, n, .inr (.inl f))) (hj : vp_in j n) (h1 : mj_at cs pc = some (.lastore, nx, aux, cv)) (kk : mj_Rn d ty cs Q (mj_up h a (.inl (1, n, .inr (.inl (vp_updL f j.toNatClampNeg x))))) nx L r) : mj_Rn d ty cs Q h pc L (.long x :: .int j :: .ref a :: r) :=
  mj_me h1 ⟨a, j, n, f, x, r, rfl, ha, hj, rfl, rfl⟩ kk
theorem mj_bast {nx aux : Nat} {cv : Int32} {a n : Nat} {f : Nat → Int32} {j x : Int32} {r : List Value} (ha : h a = .inl (2, n, .inl f)) (hj : vp_in j n) (h1 : mj_at cs pc = some (.bastore, nx, aux, cv)) (kk : mj_Rn d ty cs Q (mj_up h a (.inl (2, n, .inl (upd f j.toNatClampNeg (vp_nar .byte x))))) nx L r) : mj_Rn d ty cs Q h pc L (.int x :: .int j :: .ref a :: r) :=
  mj_me h1 ⟨a, j, n, f, x, r, rfl, hj, rfl, Or.inl ⟨ha, rfl⟩⟩ kk
theorem mj_zast {nx aux : Nat} {cv : Int32} {a n : Nat} {f : Nat → Int32} {j x : Int32} {r : List Value} (ha : h a = .inl (3, n, .inl f)) (hj : vp_in j n) (h1 : mj_at cs pc = some (.bastore, nx, aux, cv)) (kk : mj_Rn d ty cs Q (mj_up h a (.inl (3, n, .inl (upd f j.toNatClampNeg (vp_nar .boolean x))))) nx L r) : mj_Rn d ty cs Q h pc L (.int x :: .int j :: .ref a :: r) :=
  mj_me h1 ⟨a, j, n, f, x, r, rfl, hj, rfl, Or.inr ⟨ha, rfl⟩⟩ kk
theorem mj_cast {nx aux : Nat} {cv : Int32} {a n : Nat} {f : Nat → Int32} {j x : Int32} {r : List Value} (ha : h a = .inl (4, n, .inl f)) (hj : vp_in j n) (h1 : mj_at cs pc = some (.castore, nx, aux, cv)) (kk : mj_Rn d ty cs Q (mj_up h a (.inl (4, n, .inl (upd f j.toNatClampNeg (vp_nar .char x))))) nx L r) : mj_Rn d ty cs Q h pc L (.int x :: .int j :: .ref a :: r) :=
  mj_me h1 ⟨a, j, n, f, x, r, rfl, ha, hj, rfl, rfl⟩ kk
theorem mj_alen {nx aux : Nat} {cv : Int32} {a n t : Nat} {f : (Nat → Int32) ⊕ (Nat → Int64) ⊕ (Nat → UInt32) ⊕ (Nat → UInt64) ⊕ (Nat → Option Nat)} {r : List Value} (ha : h a = .inl (t, n, f)) (ht : Nat.ble (t + 1) 6 = true) (h1 : mj_at cs pc = some (.arraylength, nx, aux, cv)) (kk : mj_Rn d ty cs Q h nx L (.int (Int32.ofNat n) :: r)) : mj_Rn d ty cs Q h pc L (.ref a :: r) :=
  mj_me h1 ⟨a, t, n, f, r, rfl, ha, Nat.le_of_ble_eq_true ht, rfl, rfl⟩ kk
/-- System.arraycopy of ints, from 0 to 0 -/
theorem mj_copy {ix nx : Nat} {cv : Int32} {a a0 n n0 : Nat} {f g : Nat → Int32} {k : Int32} {r : List Value} (h0 : h a0 = .inl (0, n0, .inl f)) (ha : h a = .inl (0, n, .inl g)) (hr : Nat.ble (r.map fun v => v.category).sum 8 = true) (hk : ¬ k < 0) (hk0 : Nat.ble k.toNatClampNeg n0 = true) (hk1 : Nat.ble k.toNatClampNeg n = true) (h1 : mj_at cs pc = some (.invokestatic ix, nx, 9999, cv)) (kk : mj_Rn d ty cs Q (mj_up h a (.inl (0, n, .inl (va_cpy f g 0 0 k.toNatClampNeg)))) nx L r) : mj_Rn d ty cs Q h pc L (.int k :: .int 0 :: .ref a :: .int 0 :: .ref a0 :: r) :=
  mj_me h1 ⟨rfl, a, a0, n, n0, f, g, 0, 0, k, r, rfl, h0, ha, Nat.le_of_ble_eq_true hr, by decide, by decide, hk, by rw [show (0 : Int32).toNatClampNeg = 0 from rfl, Nat.zero_add]; exact Nat.le_of_ble_eq_true hk0, by rw [show (0 : Int32).toNatClampNeg = 0 from rfl, Nat.zero_add]; exact Nat.le_of_ble_eq_true hk1, rfl, rfl⟩ kk
theorem mj_rt {nx aux : Nat} {cv : Int32} {x : Int32} {t : FieldType} (h1 : mj_at cs pc = some (.ireturn, nx, aux, cv)) (ht : ty = some t) (hn : narrow t (.int x) = .int x) (hq : Q (some (.int x)) h) : mj_Rn d ty cs Q h pc L [.int x] :=
  ⟨1, _, nx, aux, cv, h1, Or.inr (Or.inr (Or.inr (Or.inr (Or.inr (Or.inr ⟨_, ⟨x, t, rfl, rfl, ht, hn⟩, hq⟩)))))⟩
theorem mj_rtl {nx aux : Nat} {cv : Int32} {x : Int64} (h1 : mj_at cs pc = some (.lreturn, nx, aux, cv)) (ht : ty = some .long) (hq : Q (some (.long x)) h) : mj_Rn d ty cs Q h pc L [.long x] :=
  ⟨1, _, nx, aux, cv, h1, Or.inr (Or.inr (Or.inr (Or.inr (Or.inr (Or.inr ⟨_, ⟨x, rfl, rfl, ht⟩, hq⟩)))))⟩
theorem mj_rtv {nx aux : Nat} {cv : Int32} (h1 : mj_at cs pc = some (.return_, nx, aux, cv)) (ht : ty = none) (hq : Q none h) : mj_Rn d ty cs Q h pc L [] :=
  ⟨1, _, nx, aux, cv, h1, Or.inr (Or.inr (Or.inr (Or.inr (Or.inr (Or.inr ⟨_, ⟨rfl, rfl, ht⟩, hq⟩)))))⟩
theorem mj_cs {ix nx aux : Nat} {cv : Int32} {sg : mj_S} {as rest : List Value} {P : Option Value → mj_H → Prop} (h1 : mj_at cs pc = some (.invokestatic ix, nx, aux, cv)) (hsg : mj_sigs[aux]? = some sg) (hst : st = as.reverse ++ rest) (hn : as.length = sg.2.2.2.2.1) (hr : Nat.ble (rest.map fun v => v.category).sum 8 = true) (hs : sg.2.2.2.2.2.1 = true) (hM : mj_Mt d aux as h P) (kk : ∀ r h', P r h' → mj_Rn d ty cs Q h' nx L (r.toList ++ rest)) : mj_Rn d ty cs Q h pc L st := by
  obtain ⟨r, h', hB, hP⟩ := hM
  obtain ⟨n, k⟩ := kk r h' hP
  exact ⟨n + 1, _, nx, aux, cv, h1, Or.inr (Or.inr (Or.inr (Or.inr (Or.inr (Or.inl ⟨as, rest, r, h', ⟨sg, hsg, hst, hn, Nat.le_of_ble_eq_true hr, hs⟩, hB, k⟩)))))⟩
theorem mj_cv {ix nx aux : Nat} {cv : Int32} {sg : mj_S} {b : Nat} {bs rest : List Value} {fs : List Value} {P : Option Value → mj_H → Prop} (hb : h b = .inr (sg.2.2.2.2.2.2.1, fs)) (h1 : mj_at cs pc = some (.invokevirtual ix, nx, aux, cv)) (hsg : mj_sigs[aux]? = some sg) (hst : st = (Value.ref b :: bs).reverse ++ rest) (hn : (Value.ref b :: bs).length = sg.2.2.2.2.1) (hr : Nat.ble (rest.map fun v => v.category).sum 8 = true) (hs : sg.2.2.2.2.2.1 = false) (hM : mj_Mt d aux (.ref b :: bs) h P) (kk : ∀ r h', P r h' → mj_Rn d ty cs Q h' nx L (r.toList ++ rest)) : mj_Rn d ty cs Q h pc L st := by
  obtain ⟨r, h', hB, hP⟩ := hM
  obtain ⟨n, k⟩ := kk r h' hP
  exact ⟨n + 1, _, nx, aux, cv, h1, Or.inr (Or.inr (Or.inr (Or.inr (Or.inr (Or.inl ⟨_, rest, r, h', ⟨sg, hsg, hst, hn, Nat.le_of_ble_eq_true hr, hs, b, bs, fs, rfl, hb⟩, hB, k⟩)))))⟩
end mjRules
end
section
/-! as many plain steps as there are, up to a stop -/
def mj_isin (pc : Nat) : List Nat → Bool
  | [] => false
  | x :: r => match Nat.beq x pc with
    | true => true
    | false => mj_isin pc r
def mj_gos (cs : List mj_E) (sp : List Nat) : Nat → Nat → mj_L → List Value → Nat × mj_L × List Value
  | 0, pc, L, st => (pc, L, st)
  | n + 1, pc, L, st => match mj_isin pc sp with
    | true => (pc, L, st)
    | false => match mj_at cs pc with
      | some (i, nx, aux, cv) => match mj_pure i nx aux cv L st with
        | some (pc', L', st') => mj_gos cs sp n pc' L' st'
        | none => (pc, L, st)
      | none => (pc, L, st)
def mj_gob (cs : List mj_E) (sp : List Nat) (n pc : Nat) (L : mj_L) (st : List Value) : Option (Nat × mj_L × List Value) := match mj_at cs pc with
  | some (i, nx, aux, cv) => match mj_pure i nx aux cv L st with
    | some (pc', L', st') => some (mj_gos cs sp n pc' L' st')
    | none => none
  | none => none
/-- begins where it stands -/
def mj_gon (cs : List mj_E) (sp : List Nat) (n pc : Nat) (L : mj_L) (st : List Value) : Option (Nat × mj_L × List Value) := match mj_isin pc sp with
  | true => none
  | false => mj_gob cs sp n pc L st
section mjAuto
variable {d : Nat} {ty : Option FieldType} {cs : List mj_E} {Q : Option Value → mj_H → Prop} {h : mj_H}
theorem mj_gos_ok (sp : List Nat) : ∀ (n : Nat) {pc : Nat} {L : mj_L} {st : List Value} {pc' : Nat} {L' : mj_L} {st' : List Value}, mj_gos cs sp n pc L st = (pc', L', st') → mj_Rn d ty cs Q h pc' L' st' → mj_Rn d ty cs Q h pc L st := by
  intro n
  induction n with
  | zero =>
    intro pc L st pc' L' st' h1 k
    simp only [mj_gos, Prod.mk.injEq] at h1
    obtain ⟨rfl, rfl, rfl⟩ := h1
    exact k
  | succ n ih =>
    intro pc L st pc' L' st' h1 k
    rw [mj_gos] at h1
    split at h1
    next =>
      simp only [Prod.mk.injEq] at h1
      obtain ⟨rfl, rfl, rfl⟩ := h1
      exact k
    next =>
      split at h1
      next i nx aux cv e1 =>
        split at h1
        next p2 L2 s2 e2 => exact mj_step e1 e2 (ih h1 k)
        next =>
          simp only [Prod.mk.injEq] at h1
          obtain ⟨rfl, rfl, rfl⟩ := h1
          exact k
      next =>
        simp only [Prod.mk.injEq] at h1
        obtain ⟨rfl, rfl, rfl⟩ := h1
        exact k
theorem mj_begin (sp : List Nat) (n : Nat) {pc : Nat} {L : mj_L} {st : List Value} {pc' : Nat} {L' : mj_L} {st' : List Value} (h1 : mj_gob cs sp n pc L st = some (pc', L', st')) (k : mj_Rn d ty cs Q h pc' L' st') : mj_Rn d ty cs Q h pc L st := by
  unfold mj_gob at h1
  split at h1
  next i nx aux cv e1 =>
    split at h1
    next p2 L2 s2 e2 =>
      simp only [Option.some.injEq] at h1
      exact mj_step e1 e2 (mj_gos_ok sp n h1 k)
    next => cases h1
  next => cases h1
theorem mj_auto (sp : List Nat) (n : Nat) {pc : Nat} {L : mj_L} {st : List Value} {pc' : Nat} {L' : mj_L} {st' : List Value} (h1 : mj_gon cs sp n pc L st = some (pc', L', st')) (k : mj_Rn d ty cs Q h pc' L' st') : mj_Rn d ty cs Q h pc L st := by
  unfold mj_gon at h1
  split at h1
  next => cases h1
  next => exact mj_begin sp n h1 k
end mjAuto
end
section
def mj_cls : List vw_C := [(RX0, TX0, 6), (RX1, TX1, 3), (RX2, TX2, 0), (RX3, TX3, 5), (RX4, TX4, 2), (RX5, TX5, 4), (RX6, TX6, 4), (RX7, TX7, 7), (RX8, TX8, 2), (RX9, TX9, 17), (RX10, TX10, 14), (RX11, TX11, 46)]
def ms_len (i : Instr) (n : Nat) : Nat := match i with
  | .bipush _ => 2
  | .sipush _ => 3
  | .iload _ => 2
  | .lload _ => 2
  | .aload _ => 2
  | .istore _ => 2
  | .lstore _ => 2
  | .astore _ => 2
  | .iinc _ _ => 3
  | .ifCond _ _ => 3
  | .if_icmp _ _ => 3
  | .goto _ => 3
  | .getfield _ => 3
  | .putfield _ => 3
  | .invokestatic _ => 3
  | .invokevirtual _ => 3
  | .ldc _ => 2
  | .ldc_w _ => 3
  | .ldc2_w _ => 3
  | .lookupswitch _ _ => n
  | .tableswitch _ _ _ _ => n
  | .new _ => n
  | .invokespecial _ => n
  | .getstatic _ => 3
  | _ => 1
def ms_in (wi : Nat) (w : Jvm.Cond) : Bool := decide (lw_tbl[wi]? = some w) && goodWord w
def ms_link (own : String) (ix aux wi : Nat) (fin : Bool) : Bool := match mj_cls[aux / 64]? with
  | some (_, T, N) => Nat.ble (aux % 64 + 1) N && ms_in wi (.fieldLink own ix (T (aux % 64)).1 (T (aux % 64)).2.1 (T (aux % 64)).2.2.1) && (!fin || !(T (aux % 64)).2.2.2)
  | none => false
def ms_mlink (own : String) (ix aux wi : Nat) : Bool := match Nat.beq aux 9999 with
  | true => ms_in wi (.methodLink own ix arraycopyName)
  | false => match mj_sigs[aux]? with
    | some sg => ms_in wi (.methodLink own ix sg.1)
    | none => false
def ms_chk (own : String) (bs : ByteArray) (q : mj_E) : Bool :=
  decide (decode bs q.1 = .ok (q.2.1, ms_len q.2.1 (q.2.2.1 - q.1))) && Nat.beq q.2.2.1 (q.1 + ms_len q.2.1 (q.2.2.1 - q.1)) && (match q.2.1 with
  | .iconst n => decide (Int32.ofInt n = q.2.2.2.2.1)
  | .bipush n => decide ((Int8.ofInt n).toInt32 = q.2.2.2.2.1)
  | .sipush n => decide ((Int16.ofInt n).toInt32 = q.2.2.2.2.1)
  | .iinc _ n => decide (Int32.ofInt n = q.2.2.2.2.1)
  | .ldc ix => ms_in q.2.2.2.2.2 (.constant own ix q.2.2.2.2.1)
  | .ldc_w ix => ms_in q.2.2.2.2.2 (.constant own ix q.2.2.2.2.1)
  | .ldc2_w ix => ms_in q.2.2.2.2.2 (.constantLong own ix (Int64.ofNat q.2.2.2.1))
  | .ifCond _ o => decide ((q.1 : Int) + o = (q.2.2.2.1 : Int))
  | .if_icmp _ o => decide ((q.1 : Int) + o = (q.2.2.2.1 : Int))
  | .goto o => decide ((q.1 : Int) + o = (q.2.2.2.1 : Int))
  | .lookupswitch _ ps => (ps.toList.zip (ps.toList.drop 1)).all (fun (a, next) => a.1 < next.1)
  | .tableswitch _ lo hi offs => decide (lo ≤ hi) && Nat.beq offs.size ((hi - lo).toNat + 1)
  | .getstatic ix => match Nat.beq q.2.2.2.1 5247 with
    | true => ms_in q.2.2.2.2.2 (.fieldLink own ix RX1 "LEAST" "[I")
    | false => ms_in q.2.2.2.2.2 (.fieldLink own ix RX1 "MOST" "[I")
  | .getfield ix => ms_link own ix q.2.2.2.1 q.2.2.2.2.2 false
  | .putfield ix => ms_link own ix q.2.2.2.1 q.2.2.2.2.2 true
  | .invokestatic ix => ms_mlink own ix q.2.2.2.1 q.2.2.2.2.2
  | .invokevirtual ix => ms_mlink own ix q.2.2.2.1 q.2.2.2.2.2
  | _ => true)
def ms_sig (sg : mj_S) : Bool :=
  ms_in sg.2.2.2.2.2.2.2.1 (.code sg.1 sg.2.1 sg.2.2.1 sg.2.2.2.1) && decide (sg.2.2.2.2.2.2.2.2.2.2 = sg.1.cls) && plainName sg.1.cls && decide (sg.1.cls ≠ "java/lang/invoke/MethodHandle") && decide (sg.1.cls ≠ "java/lang/invoke/VarHandle") && Nat.ble sg.2.2.1 41 && decide (Cond.initialized sg.1.cls ∈ lw_tbl) && goodWord (.initialized sg.1.cls) &&
  (match sg.2.2.2.2.2.1 with
  | true => ms_in sg.2.2.2.2.2.2.2.2.1 (.static sg.1) && decide ((parseMethodDescriptor sg.1.desc).map (fun d => d.parameters.length) = some sg.2.2.2.2.1)
  | false => ms_in sg.2.2.2.2.2.2.2.2.1 (.instanceMethod sg.1) && ms_in sg.2.2.2.2.2.2.2.2.2.1 (.selects sg.1.cls sg.1 sg.1) && decide ((parseMethodDescriptor sg.1.desc).map (fun d => d.parameters.length + 1) = some sg.2.2.2.2.1) && (match mj_cls[sg.2.2.2.2.2.2.1]? with
    | some r => decide (r.1 = sg.1.cls)
    | none => false))
end
section
def ms_T : List Jvm.Cond := lw_tbl.filter goodWord
theorem ms_T_good : GoodIn ms_T ms_T := fun _ hw => ⟨hw, good_of_word (List.mem_filter.mp hw).2⟩
theorem ms_in_ok {wi : Nat} {w : Jvm.Cond} (h : ms_in wi w = true) : w ∈ ms_T := by
  unfold ms_in at h
  simp only [Bool.and_eq_true, decide_eq_true_eq] at h
  exact List.mem_filter.mpr ⟨List.mem_of_getElem? h.1, h.2⟩
def ms_ws (sg : mj_S) : List Jvm.Cond := Cond.code sg.1 sg.2.1 sg.2.2.1 sg.2.2.2.1 :: ms_T
def ms_v (ad : Nat → Nat) : Value → Value
  | .ref a => .ref (ad a)
  | v => v
theorem ms_v_cat (ad : Nat → Nat) (v : Value) : (ms_v ad v).category = v.category := by cases v <;> rfl
def ms_c (ad : Nat → Nat) (cA : Nat → ClassId) : mj_C → va_E
  | .inl (t, n, .inr (.inr (.inr (.inr f)))) => .inl (cA t, n, .inr (.inr (.inr (.inr (fun k => (f k).map ad)))))
  | .inl (t, n, .inl f) => .inl (cA t, n, .inl f)
  | .inl (t, n, .inr (.inl f)) => .inl (cA t, n, .inr (.inl f))
  | .inl (t, n, .inr (.inr (.inl f))) => .inl (cA t, n, .inr (.inr (.inl f)))
  | .inl (t, n, .inr (.inr (.inr (.inl f)))) => .inl (cA t, n, .inr (.inr (.inr (.inl f))))
  | .inr (ci, fs) => .inr (ci, fs.map (ms_v ad))
def ms_cells (ad : Nat → Nat) (cA : Nat → ClassId) (N : Nat) (h : mj_H) : va_W := (List.range N).map fun i => (ad i, ms_c ad cA (h i))
theorem ms_cells_at {ad : Nat → Nat} {cA : Nat → ClassId} {N : Nat} {h : mj_H} {a : Nat} (ha : a < N) : (ms_cells ad cA N h)[a]? = some (ad a, ms_c ad cA (h a)) := by
  unfold ms_cells
  rw [List.getElem?_map, List.getElem?_range ha]
  rfl
theorem ms_cells_set {ad : Nat → Nat} {cA : Nat → ClassId} {N : Nat} {h : mj_H} {a : Nat} {c : mj_C} (ha : a < N) : (ms_cells ad cA N h).set a (ad a, ms_c ad cA c) = ms_cells ad cA N (mj_up h a c) := by
  apply List.ext_getElem?
  intro i
  rw [List.getElem?_set]
  have hl : (ms_cells ad cA N h).length = N := by simp [ms_cells]
  by_cases hi : i < N
  · rw [ms_cells_at hi, ms_cells_at hi]
    by_cases e : a = i
    · subst e
      simp [hl, ha, mj_up]
    · have e2 : ¬ i = a := fun q => e q.symm
      simp [e, mj_up, e2]
  · have h1 : (ms_cells ad cA N h)[i]? = none := List.getElem?_eq_none (by omega)
    have h2 : (ms_cells ad cA N (mj_up h a c))[i]? = none := List.getElem?_eq_none (by simp [ms_cells]; omega)
    rw [h1, h2]
    have : a ≠ i := by omega
    simp [this]
def ms_n6 : mj_C → Bool
  | .inl (t, _) => !(Nat.beq t 6)
  | .inr _ => true
/-- Hearsay's two rows, which nobody writes -/
def ms_lo (k : Nat) : Int32 := if k < 2 then 1 else 0
def ms_hi (k : Nat) : Int32 := if k < 2 then 12 else if k < 4 then 1 else 20
def ms_wf (N : Nat) (h : mj_H) : Prop := (∀ i, N ≤ i → h i = .inr (99, []) ∨ ∃ f, h i = .inl (6, 5, .inl f) ∧ ((i = 247 ∧ ∀ k, k < 5 → f k = ms_lo k) ∨ (i = 248 ∧ ∀ k, k < 5 → f k = ms_hi k))) ∧ ∀ i, i < N → ms_n6 (h i) = true
theorem ms_wf.lt {N : Nat} {h : mj_H} (hw : ms_wf N h) {a : Nat} {c : mj_C} (ha : h a = c) (hc : c ≠ .inr (99, [])) (h6 : ms_n6 c = true) : a < N := by
  rcases Nat.lt_or_ge a N with q | q
  · exact q
  · rcases hw.1 a q with z | ⟨f, z, -⟩
    · exact absurd (ha.symm.trans z) hc
    · rw [← ha, z] at h6
      cases h6
theorem ms_wf.six {N : Nat} {h : mj_H} (hw : ms_wf N h) {a n : Nat} {f : Nat → Int32} (ha : h a = .inl (6, n, .inl f)) : n = 5 ∧ ((a = 247 ∧ ∀ k, k < 5 → f k = ms_lo k) ∨ (a = 248 ∧ ∀ k, k < 5 → f k = ms_hi k)) := by
  rcases Nat.lt_or_ge a N with q | q
  · have z := hw.2 a q
    rw [ha] at z
    cases z
  · rcases hw.1 a q with z | ⟨g, z, z2⟩
    · rw [ha] at z
      cases z
    · rw [ha] at z
      cases z
      exact ⟨rfl, z2⟩
theorem ms_wf.up {N : Nat} {h : mj_H} (hw : ms_wf N h) {a : Nat} {c : mj_C} (ha : a < N) (h6 : ms_n6 c = true) : ms_wf N (mj_up h a c) := by
  refine ⟨fun i hi => ?_, fun i hi => ?_⟩
  · unfold mj_up
    rw [if_neg (by omega)]
    exact hw.1 i hi
  · unfold mj_up
    split
    · exact h6
    · exact hw.2 i hi
def ms_ll (ad : Nat → Nat) (L : mj_L) : List (Nat × Value) := (List.range L.length).filterMap fun i => match L[i]? with
  | some (some v) => some (i, ms_v ad v)
  | _ => none
theorem ms_ll_mem {ad : Nat → Nat} {L : mj_L} {i : Nat} {v : Value} (h : L[i]? = some (some v)) : (i, ms_v ad v) ∈ ms_ll ad L := by
  unfold ms_ll
  rw [List.mem_filterMap]
  refine ⟨i, List.mem_range.mpr (List.getElem?_eq_some_iff.mp h).1, ?_⟩
  rw [h]
theorem ms_ll_inv {ad : Nat → Nat} {L : mj_L} {q : Nat × Value} (h : q ∈ ms_ll ad L) : ∃ v, L[q.1]? = some (some v) ∧ q.2 = ms_v ad v := by
  unfold ms_ll at h
  rw [List.mem_filterMap] at h
  obtain ⟨i, -, h⟩ := h
  split at h
  next v e =>
    cases h
    exact ⟨v, e, rfl⟩
  next => cases h
def ms_L (ad : Nat → Nat) (nL : Nat) (L : mj_L) (ls : Array Slot) : Prop := L.length = nL ∧ lv_has ls nL (ms_ll ad L)
theorem ms_L.at {ad : Nat → Nat} {nL : Nat} {L : mj_L} {ls : Array Slot} (h : ms_L ad nL L ls) {i : Nat} {v : Value} (hv : L[i]? = some (some v)) : ls[i]? = some (.val (ms_v ad v)) := h.2.2.2 _ (ms_ll_mem hv)
theorem mj_blank_len (L : mj_L) (i : Nat) : (mj_blank L i).length = L.length := by
  cases i with
  | zero => rfl
  | succ j =>
    simp only [mj_blank]
    split <;> simp
theorem mj_blank_get {L : mj_L} {i j : Nat} {u : Value} (h : (mj_blank L i)[j]? = some (some u)) : L[j]? = some (some u) ∧ ¬ (j + 1 = i ∧ u.category = 2) := by
  cases i with
  | zero => exact ⟨h, fun q => by omega⟩
  | succ k =>
    simp only [mj_blank] at h
    split at h
    next x e =>
      rw [List.getElem?_set] at h
      by_cases hk : k = j
      · subst hk
        simp at h
      · rw [if_neg hk] at h
        exact ⟨h, fun q => hk (by omega)⟩
    next x e =>
      rw [List.getElem?_set] at h
      by_cases hk : k = j
      · subst hk
        simp at h
      · rw [if_neg hk] at h
        exact ⟨h, fun q => hk (by omega)⟩
    next n1 n2 =>
      refine ⟨h, fun q => ?_⟩
      obtain ⟨q1, q2⟩ := q
      have hk : k = j := by omega
      subst hk
      cases u with
      | long x => exact n1 x h
      | double x => exact n2 x h
      | _ => simp [Value.category] at q2
theorem ms_L.set1 {ad : Nat → Nat} {nL i : Nat} {L : mj_L} {v : Value} {ls' : Array Slot} (hn : L.length = nL) (h : lv_has ls' nL ((i, ms_v ad v) :: (ms_ll ad L).filter (fun q => !(q.1 == i) && !(q.1 + 1 == i && q.2.category == 2)))) : ms_L ad nL (mj_set1 L i v) ls' := by
  refine ⟨by simp [mj_set1, mj_blank_len, hn], h.1, h.2.1, fun q hq => ?_⟩
  obtain ⟨u, h1, h2⟩ := ms_ll_inv hq
  obtain ⟨j, w⟩ := q
  dsimp only at h1 h2
  subst h2
  unfold mj_set1 at h1
  rw [List.getElem?_set] at h1
  by_cases e : i = j
  · subst e
    rw [if_pos rfl] at h1
    split at h1
    next =>
      cases h1
      exact h.2.2 (i, ms_v ad v) List.mem_cons_self
    next => cases h1
  · rw [if_neg e] at h1
    obtain ⟨h3, h4⟩ := mj_blank_get h1
    refine h.2.2 (j, ms_v ad u) (List.mem_cons_of_mem _ (List.mem_filter.mpr ⟨ms_ll_mem h3, ?_⟩))
    dsimp only
    rw [ms_v_cat]
    simp only [Bool.and_eq_true, Bool.not_eq_true', beq_eq_false_iff_ne, ne_eq, Bool.and_eq_false_iff]
    refine ⟨fun q => e q.symm, ?_⟩
    by_cases e2 : j + 1 = i
    · exact Or.inr (fun q => h4 ⟨e2, q⟩)
    · exact Or.inl e2
theorem ms_L.set2 {ad : Nat → Nat} {nL i : Nat} {L : mj_L} {v : Value} {ls' : Array Slot} (hn : L.length = nL) (h : lv_has ls' nL ((i, ms_v ad v) :: (ms_ll ad L).filter (fun q => !(q.1 == i) && (!(q.1 == i + 1) && !(q.1 + 1 == i && q.2.category == 2))))) : ms_L ad nL (mj_set2 L i v) ls' := by
  refine ⟨by simp [mj_set2, mj_blank_len, hn], h.1, h.2.1, fun q hq => ?_⟩
  obtain ⟨u, h1, h2⟩ := ms_ll_inv hq
  obtain ⟨j, w⟩ := q
  dsimp only at h1 h2
  subst h2
  unfold mj_set2 at h1
  rw [List.getElem?_set] at h1
  by_cases e9 : i + 1 = j
  · subst e9
    rw [if_pos rfl] at h1
    split at h1
    next => cases h1
    next => cases h1
  rw [if_neg e9, List.getElem?_set] at h1
  by_cases e : i = j
  · subst e
    rw [if_pos rfl] at h1
    split at h1
    next =>
      cases h1
      exact h.2.2 (i, ms_v ad v) List.mem_cons_self
    next => cases h1
  · rw [if_neg e] at h1
    obtain ⟨h3, h4⟩ := mj_blank_get h1
    refine h.2.2 (j, ms_v ad u) (List.mem_cons_of_mem _ (List.mem_filter.mpr ⟨ms_ll_mem h3, ?_⟩))
    dsimp only
    rw [ms_v_cat]
    simp only [Bool.and_eq_true, Bool.not_eq_true', beq_eq_false_iff_ne, ne_eq, Bool.and_eq_false_iff]
    refine ⟨fun q => e q.symm, fun q => e9 q.symm, ?_⟩
    by_cases e2 : j + 1 = i
    · exact Or.inr (fun q => h4 ⟨e2, q⟩)
    · exact Or.inl e2
theorem ms_op2 {f : Int32 → Int32 → Int32} {L : mj_L} {nx : Nat} {st : List Value} {a : Nat} {b : mj_L} {c : List Value} (h : mj_op2 f L nx st = some (a, b, c)) : ∃ x y r, st = .int y :: .int x :: r ∧ a = nx ∧ b = L ∧ c = .int (f x y) :: r := by
  unfold mj_op2 at h
  split at h
  next y x r => cases h; exact ⟨x, y, r, rfl, rfl, rfl, rfl⟩
  next => cases h
theorem ms_op2l {f : Int64 → Int64 → Int64} {L : mj_L} {nx : Nat} {st : List Value} {a : Nat} {b : mj_L} {c : List Value} (h : mj_op2l f L nx st = some (a, b, c)) : ∃ x y r, st = .long y :: .long x :: r ∧ a = nx ∧ b = L ∧ c = .long (f x y) :: r := by
  unfold mj_op2l at h
  split at h
  next y x r => cases h; exact ⟨x, y, r, rfl, rfl, rfl, rfl⟩
  next => cases h
theorem ms_op1 {f : Int32 → Value} {L : mj_L} {nx : Nat} {st : List Value} {a : Nat} {b : mj_L} {c : List Value} (h : mj_op1 f L nx st = some (a, b, c)) : ∃ x r, st = .int x :: r ∧ a = nx ∧ b = L ∧ c = f x :: r := by
  unfold mj_op1 at h
  split at h
  next x r => cases h; exact ⟨x, r, rfl, rfl, rfl, rfl⟩
  next => cases h
theorem ms_op1l {f : Int64 → Value} {L : mj_L} {nx : Nat} {st : List Value} {a : Nat} {b : mj_L} {c : List Value} (h : mj_op1l f L nx st = some (a, b, c)) : ∃ x r, st = .long x :: r ∧ a = nx ∧ b = L ∧ c = f x :: r := by
  unfold mj_op1l at h
  split at h
  next x r => cases h; exact ⟨x, r, rfl, rfl, rfl, rfl⟩
  next => cases h
theorem ms_ldi {L : mj_L} {i nx : Nat} {st : List Value} {a : Nat} {b : mj_L} {c : List Value} (h : mj_ldi L i nx st = some (a, b, c)) : ∃ x, L[i]? = some (some (.int x)) ∧ a = nx ∧ b = L ∧ c = .int x :: st := by
  unfold mj_ldi at h
  split at h
  next x e => cases h; exact ⟨x, e, rfl, rfl, rfl⟩
  next => cases h
theorem ms_ldl {L : mj_L} {i nx : Nat} {st : List Value} {a : Nat} {b : mj_L} {c : List Value} (h : mj_ldl L i nx st = some (a, b, c)) : ∃ x, L[i]? = some (some (.long x)) ∧ a = nx ∧ b = L ∧ c = .long x :: st := by
  unfold mj_ldl at h
  split at h
  next x e => cases h; exact ⟨x, e, rfl, rfl, rfl⟩
  next => cases h
theorem ms_lda {L : mj_L} {i nx : Nat} {st : List Value} {a : Nat} {b : mj_L} {c : List Value} (h : mj_lda L i nx st = some (a, b, c)) : ∃ x, L[i]? = some (some (.ref x)) ∧ a = nx ∧ b = L ∧ c = .ref x :: st := by
  unfold mj_lda at h
  split at h
  next x e => cases h; exact ⟨x, e, rfl, rfl, rfl⟩
  next => cases h
theorem ms_sti {L : mj_L} {i nx : Nat} {st : List Value} {a : Nat} {b : mj_L} {c : List Value} (h : mj_sti L i nx st = some (a, b, c)) : ∃ x r, st = .int x :: r ∧ i < L.length ∧ a = nx ∧ b = mj_set1 L i (.int x) ∧ c = r := by
  unfold mj_sti at h
  split at h
  next x r =>
    split at h
    next e => cases h; exact ⟨x, _, rfl, Nat.le_of_ble_eq_true e, rfl, rfl, rfl⟩
    next => cases h
  next => cases h
theorem ms_sta {L : mj_L} {i nx : Nat} {st : List Value} {a : Nat} {b : mj_L} {c : List Value} (h : mj_sta L i nx st = some (a, b, c)) : ∃ x r, st = .ref x :: r ∧ i < L.length ∧ a = nx ∧ b = mj_set1 L i (.ref x) ∧ c = r := by
  unfold mj_sta at h
  split at h
  next x r =>
    split at h
    next e => cases h; exact ⟨x, _, rfl, Nat.le_of_ble_eq_true e, rfl, rfl, rfl⟩
    next => cases h
  next => cases h
theorem ms_stl {L : mj_L} {i nx : Nat} {st : List Value} {a : Nat} {b : mj_L} {c : List Value} (h : mj_stl L i nx st = some (a, b, c)) : ∃ x r, st = .long x :: r ∧ i + 1 < L.length ∧ a = nx ∧ b = mj_set2 L i (.long x) ∧ c = r := by
  unfold mj_stl at h
  split at h
  next x r =>
    split at h
    next e => cases h; exact ⟨x, _, rfl, Nat.le_of_ble_eq_true e, rfl, rfl, rfl⟩
    next => cases h
  next => cases h
theorem ms_inc {L : mj_L} {i nx : Nat} {cv : Int32} {st : List Value} {a : Nat} {b : mj_L} {c : List Value} (h : mj_inc L i nx cv st = some (a, b, c)) : ∃ x, L[i]? = some (some (.int x)) ∧ i < L.length ∧ a = nx ∧ b = mj_set1 L i (.int (x + cv)) ∧ c = st := by
  unfold mj_inc at h
  split at h
  next x e =>
    split at h
    next e1 => cases h; exact ⟨x, e, Nat.le_of_ble_eq_true e1, rfl, rfl, rfl⟩
    next => cases h
  next => cases h
theorem ms_one {v : Value} (h : mj_one v = true) : v.category = 1 := by cases v <;> first | rfl | cases h
section msPure
variable {p : Program} {l : Launch} {e : Env} {R : Room} {s : State} {m : MethodId} {args : Array Value} {below : List Frame} {meth : Method} {c : Code} {H : Heap} {locs : List Loc} {cells slots : Nat} {Q : State → Prop}
variable {own : String} {bs : ByteArray} {pc nx aux wi nL : Nat} {i : Instr} {cv : Int32} {L L' : mj_L} {st st' : List Value} {pc' : Nat} {ad : Nat → Nat} {ls : Array Slot}
theorem ms_split (hc : ms_chk own bs (pc, i, nx, aux, cv, wi) = true) : decode bs pc = .ok (i, ms_len i (nx - pc)) ∧ nx = pc + ms_len i (nx - pc) := by
  unfold ms_chk at hc
  simp only [Bool.and_eq_true, decide_eq_true_eq] at hc
  exact ⟨hc.1.1, Nat.eq_of_beq_eq_true hc.1.2⟩
theorem ms_pureW (hc : ms_chk own bs (pc, i, nx, aux, cv, wi) = true) (hp : mj_pure i nx aux cv L st = some (pc', L', st')) (hx : p.tables.exec = Jvm.exec) (hb : c.code = bs) (hown : s.vm.findClass own = some m.cls) (hts : ∀ w ∈ ms_T, w.before args s = true) (hl : ms_L ad nL L ls)
    (k : ∀ ls', ms_L ad nL L' ls' → W p l e R s m args below meth c H locs cells slots Q (F0 m pc' ls' (st'.map (ms_v ad)))) : W p l e R s m args below meth c H locs cells slots Q (F0 m pc ls (st.map (ms_v ad))) := by
  obtain ⟨hd, hn⟩ := ms_split hc
  cases i
  case iconst n =>
    cases hp
    simp only [ms_chk, Bool.and_eq_true, decide_eq_true_eq] at hc
    exact lv_iconst hx hb hd hc.2 (by rw [hn] at k; exact k ls hl)
  case bipush n =>
    cases hp
    simp only [ms_chk, Bool.and_eq_true, decide_eq_true_eq] at hc
    exact lv_bipush hx hb hd hc.2 (by rw [hn] at k; exact k ls hl)
  case sipush n =>
    cases hp
    simp only [ms_chk, Bool.and_eq_true, decide_eq_true_eq] at hc
    exact lv_sipush hx hb hd hc.2 (by rw [hn] at k; exact k ls hl)
  case ldc n =>
    cases hp
    simp only [ms_chk, Bool.and_eq_true, decide_eq_true_eq] at hc
    exact lv_ldc hx hb hown (hts _ (ms_in_ok hc.2)) hd (by rw [hn] at k; exact k ls hl)
  case ldc_w n =>
    cases hp
    simp only [ms_chk, Bool.and_eq_true, decide_eq_true_eq] at hc
    exact lv_ldcw hx hb hown (hts _ (ms_in_ok hc.2)) hd (by rw [hn] at k; exact k ls hl)
  case ldc2_w n =>
    cases hp
    simp only [ms_chk, Bool.and_eq_true, decide_eq_true_eq] at hc
    exact lv_ldc2 hx hb hown (hts _ (ms_in_ok hc.2)) hd (by rw [hn] at k; exact k ls hl)
  case lconst n =>
    match n, hp, hd with
    | 0, hp, hd => cases hp; exact lv_lconst hx hb hd rfl (by rw [hn] at k; exact k ls hl)
    | 1, hp, hd => cases hp; exact lv_lconst hx hb hd rfl (by rw [hn] at k; exact k ls hl)
  case iload_n n =>
    obtain ⟨x, h1, rfl, rfl, rfl⟩ := ms_ldi hp
    exact lv_iload_n hx hb hd rfl (hl.at h1) (by rw [hn] at k; exact k ls hl)
  case iload n =>
    obtain ⟨x, h1, rfl, rfl, rfl⟩ := ms_ldi hp
    exact lv_iload hx hb hd (hl.at h1) (by rw [hn] at k; exact k ls hl)
  case lload_n n =>
    obtain ⟨x, h1, rfl, rfl, rfl⟩ := ms_ldl hp
    exact lv_lload_n hx hb hd rfl (hl.at h1) (by rw [hn] at k; exact k ls hl)
  case lload n =>
    obtain ⟨x, h1, rfl, rfl, rfl⟩ := ms_ldl hp
    exact lv_lload hx hb hd (hl.at h1) (by rw [hn] at k; exact k ls hl)
  case aload_n n =>
    obtain ⟨x, h1, rfl, rfl, rfl⟩ := ms_lda hp
    exact lv_aload_n hx hb hd rfl (hl.at h1) (by rw [hn] at k; exact k ls hl)
  case aload n =>
    obtain ⟨x, h1, rfl, rfl, rfl⟩ := ms_lda hp
    exact lv_aload hx hb hd (hl.at h1) (by rw [hn] at k; exact k ls hl)
  case istore_n n =>
    obtain ⟨x, r, rfl, h1, rfl, rfl, rfl⟩ := ms_sti hp
    exact lv_istore_n hx hb hd rfl hl.2 (by rw [← hl.1]; exact h1) rfl (fun ls' h' => by rw [hn] at k; exact k ls' (ms_L.set1 hl.1 h'))
  case istore n =>
    obtain ⟨x, r, rfl, h1, rfl, rfl, rfl⟩ := ms_sti hp
    exact lv_istore hx hb hd hl.2 (by rw [← hl.1]; exact h1) rfl (fun ls' h' => by rw [hn] at k; exact k ls' (ms_L.set1 hl.1 h'))
  case lstore_n n =>
    obtain ⟨x, r, rfl, h1, rfl, rfl, rfl⟩ := ms_stl hp
    exact lv_lstore_n hx hb hd rfl hl.2 (by rw [← hl.1]; exact h1) rfl (fun ls' h' => by rw [hn] at k; exact k ls' (ms_L.set2 hl.1 h'))
  case lstore n =>
    obtain ⟨x, r, rfl, h1, rfl, rfl, rfl⟩ := ms_stl hp
    exact lv_lstore hx hb hd hl.2 (by rw [← hl.1]; exact h1) rfl (fun ls' h' => by rw [hn] at k; exact k ls' (ms_L.set2 hl.1 h'))
  case astore_n n =>
    obtain ⟨x, r, rfl, h1, rfl, rfl, rfl⟩ := ms_sta hp
    exact lv_astore_n hx hb hd rfl hl.2 (by rw [← hl.1]; exact h1) rfl (fun ls' h' => by rw [hn] at k; exact k ls' (ms_L.set1 hl.1 h'))
  case astore n =>
    obtain ⟨x, r, rfl, h1, rfl, rfl, rfl⟩ := ms_sta hp
    exact lv_astore hx hb hd hl.2 (by rw [← hl.1]; exact h1) rfl (fun ls' h' => by rw [hn] at k; exact k ls' (ms_L.set1 hl.1 h'))
  case iinc n v =>
    obtain ⟨x, h1, h2, rfl, rfl, rfl⟩ := ms_inc hp
    simp only [ms_chk, Bool.and_eq_true, decide_eq_true_eq] at hc
    obtain ⟨j, hj⟩ := List.getElem?_of_mem (ms_ll_mem (ad := ad) h1)
    exact lv_iinc hx hb hd hl.2 hj (by rw [hc.2]) (by rw [← hl.1]; exact h2) rfl (fun ls' h' => by rw [hn] at k; exact k ls' (ms_L.set1 hl.1 h'))
  case iadd => obtain ⟨x, y, r, rfl, rfl, rfl, rfl⟩ := ms_op2 (f := fun x y => x + y) hp; exact lv_iadd hx hb hd (by rw [hn] at k; exact k ls hl)
  case isub => obtain ⟨x, y, r, rfl, rfl, rfl, rfl⟩ := ms_op2 (f := fun x y => x - y) hp; exact lv_isub hx hb hd (by rw [hn] at k; exact k ls hl)
  case imul => obtain ⟨x, y, r, rfl, rfl, rfl, rfl⟩ := ms_op2 (f := fun x y => x * y) hp; exact lv_imul hx hb hd (by rw [hn] at k; exact k ls hl)
  case iand => obtain ⟨x, y, r, rfl, rfl, rfl, rfl⟩ := ms_op2 (f := fun x y => x &&& y) hp; exact lv_iand hx hb hd (by rw [hn] at k; exact k ls hl)
  case ior => obtain ⟨x, y, r, rfl, rfl, rfl, rfl⟩ := ms_op2 (f := fun x y => x ||| y) hp; exact lv_ior hx hb hd (by rw [hn] at k; exact k ls hl)
  case ixor => obtain ⟨x, y, r, rfl, rfl, rfl, rfl⟩ := ms_op2 (f := fun x y => x ^^^ y) hp; exact lv_ixor hx hb hd (by rw [hn] at k; exact k ls hl)
  case ishl => obtain ⟨x, y, r, rfl, rfl, rfl, rfl⟩ := ms_op2 (f := fun x y => x <<< (y &&& 31)) hp; exact lv_ishl hx hb hd (by rw [hn] at k; exact k ls hl)
  case ishr => obtain ⟨x, y, r, rfl, rfl, rfl, rfl⟩ := ms_op2 (f := fun x y => x >>> (y &&& 31)) hp; exact lv_ishr hx hb hd (by rw [hn] at k; exact k ls hl)
  case iushr => obtain ⟨x, y, r, rfl, rfl, rfl, rfl⟩ := ms_op2 (f := mj_ushr) hp; exact lv_iushr hx hb hd rfl (by rw [hn] at k; exact k ls hl)
  case ladd => obtain ⟨x, y, r, rfl, rfl, rfl, rfl⟩ := ms_op2l (f := fun x y => x + y) hp; exact lv_ladd hx hb hd (by rw [hn] at k; exact k ls hl)
  case lsub => obtain ⟨x, y, r, rfl, rfl, rfl, rfl⟩ := ms_op2l (f := fun x y => x - y) hp; exact lv_lsub hx hb hd (by rw [hn] at k; exact k ls hl)
  case lmul => obtain ⟨x, y, r, rfl, rfl, rfl, rfl⟩ := ms_op2l (f := fun x y => x * y) hp; exact lv_lmul hx hb hd (by rw [hn] at k; exact k ls hl)
  case i2l => obtain ⟨x, r, rfl, rfl, rfl, rfl⟩ := ms_op1 (f := fun x => .long x.toInt64) hp; exact lv_i2l hx hb hd rfl (by rw [hn] at k; exact k ls hl)
  case i2b => obtain ⟨x, r, rfl, rfl, rfl, rfl⟩ := ms_op1 (f := fun x => .int x.toInt8.toInt32) hp; exact lv_i2b hx hb hd rfl (by rw [hn] at k; exact k ls hl)
  case i2s => obtain ⟨x, r, rfl, rfl, rfl, rfl⟩ := ms_op1 (f := fun x => .int x.toInt16.toInt32) hp; exact lv_i2s hx hb hd rfl (by rw [hn] at k; exact k ls hl)
  case i2c => obtain ⟨x, r, rfl, rfl, rfl, rfl⟩ := ms_op1 (f := fun x => .int (x.toUInt32 % 65536).toInt32) hp; exact lv_i2c hx hb hd rfl (by rw [hn] at k; exact k ls hl)
  case l2i => obtain ⟨x, r, rfl, rfl, rfl, rfl⟩ := ms_op1l (f := fun x => .int x.toInt32) hp; exact lv_l2i hx hb hd rfl (by rw [hn] at k; exact k ls hl)
  case lneg => obtain ⟨x, r, rfl, rfl, rfl, rfl⟩ := ms_op1l (f := fun x => .long (-x)) hp; exact lv_lneg hx hb hd (by rw [hn] at k; exact k ls hl)
  case lcmp =>
    simp only [mj_pure] at hp
    split at hp
    next y x r => cases hp; exact W.lcmp hx hb hd (by rw [hn] at k; exact k ls hl)
    next => cases hp
  case dup =>
    simp only [mj_pure] at hp
    split at hp
    next v r =>
      split at hp
      next e1 => cases hp; exact lv_dup hx hb hd (by rw [ms_v_cat]; exact ms_one e1) (by rw [hn] at k; exact k ls hl)
      next => cases hp
    next => cases hp
  case pop =>
    simp only [mj_pure] at hp
    split at hp
    next v r =>
      split at hp
      next e1 => cases hp; exact lv_pop hx hb hd (by rw [ms_v_cat]; exact ms_one e1) (by rw [hn] at k; exact k ls hl)
      next => cases hp
    next => cases hp
  case dup_x1 =>
    simp only [mj_pure] at hp
    split at hp
    next v w r =>
      split at hp
      next e1 =>
        simp only [Bool.and_eq_true] at e1
        cases hp
        exact lv_dup_x1 hx hb hd (by rw [ms_v_cat]; exact ms_one e1.1) (by rw [ms_v_cat]; exact ms_one e1.2) (by rw [hn] at k; exact k ls hl)
      next => cases hp
    next => cases hp
  case dup2 =>
    simp only [mj_pure] at hp
    split at hp
    next v w r =>
      split at hp
      next e1 =>
        simp only [Bool.and_eq_true] at e1
        cases hp
        exact lv_dup2_11 hx hb hd (by rw [ms_v_cat]; exact ms_one e1.1) (by rw [ms_v_cat]; exact ms_one e1.2) (by rw [hn] at k; exact k ls hl)
      next => cases hp
    next => cases hp
  case goto o =>
    cases hp
    simp only [ms_chk, Bool.and_eq_true, decide_eq_true_eq] at hc
    exact lv_goto hx hb hd hc.2 (k ls hl)
  all_goals (cases hp)
end msPure
end
section
def ms_tys (cA : Nat → ClassId) : List (ClassId × FieldType) := [(cA 0, .int), (cA 1, .long), (cA 2, .byte), (cA 3, .boolean), (cA 4, .char), (cA 5, .object "FairSlots$World")]
def ms_lay : Prop := ∀ (ci : Nat) (C : String) (T : u_T) (N : Nat), mj_cls[ci]? = some (C, T, N) → (∀ w ∈ u_ws C T N, w ∈ ms_T) ∧ (∀ k, k < N → parseFieldDescriptor (T k).2.2.1 = some (mj_fty ci k)) ∧ ∀ a, a < N → ∀ b, b < N → a ≠ b → (T a).2.1 ≠ (T b).2.1
def ms_cpy : Prop := Cond.native arraycopyName ∈ ms_T ∧ Cond.static arraycopyName ∈ ms_T ∧ Cond.initialized "java/lang/System" ∈ ms_T
theorem ms_fit {ad : Nat → Nat} {ty : FieldType} {v : Value} (h : mj_fit ty v = true) : narrow ty (ms_v ad v) = ms_v ad v ∧ fits ty (ms_v ad v) = true := by
  cases ty <;> cases v <;> first | (exact ⟨rfl, rfl⟩) | (cases h)
/-- the two rows of a class, at their places -/
def ms_Z (ad : Nat → Nat) (A : Nat → Prop) (U : State) : Prop := va_Z RX1 "LEAST" "[I" (.ref (ad 247)) A U U.heap ∧ va_Z RX1 "MOST" "[I" (.ref (ad 248)) A U U.heap ∧ va_T .int (ad 247) 5 (fun j => .int (ms_lo j)) A U U.heap ∧ va_T .int (ad 248) 5 (fun j => .int (ms_hi j)) A U U.heap
theorem ms_Z.at {ad : Nat → Nat} {A B : Nat → Prop} {s U : State} {H : Heap} (h : ms_Z ad A s) (hq : ∀ a : Nat, a < s.heap.size → ¬ A a → H[a]? = s.heap[a]?) (hB : ∀ q, B q → A q) (hvm : s.vm.Alike U.vm) (hU : U.heap = H) : ms_Z ad B U := by
  subst hU
  exact ⟨((h.1.kept hq).narrow hB).moved hvm, ((h.2.1.kept hq).narrow hB).moved hvm, ((h.2.2.1.kept hq).narrow hB).moved hvm, ((h.2.2.2.kept hq).narrow hB).moved hvm⟩
def ms_Rel (D : va_G) (cA : Nat → ClassId) (ad : Nat → Nat) (N : Nat) (A : Nat → Prop) (H0 : Heap) (h : mj_H) (H : Heap) (locs : List Loc) : Prop :=
  va_P D mj_cls (ms_cells ad cA N h) H ∧ va_D A (ms_cells ad cA N h) ∧ va_S A H0 H locs ∧ ms_wf N h
section msMem
variable {p : Program} {l : Launch} {e : Env} {R : Room} {s : State} {m : MethodId} {args : Array Value} {below : List Frame} {meth : Method} {c : Code} {H : Heap} {locs : List Loc} {cells slots : Nat} {Q : State → Prop}
variable {own : String} {bs : ByteArray} {pc nx aux wi nL : Nat} {i : Instr} {cv : Int32} {L L' : mj_L} {st st' : List Value} {pc' : Nat} {ad : Nat → Nat} {ls : Array Slot} {D : va_G} {cA : Nat → ClassId} {N : Nat} {A : Nat → Prop} {H0 : Heap} {h h' : mj_H}
theorem ms_askW {q : Prop} (hc : ms_chk own bs (pc, i, nx, aux, cv, wi) = true) (hp : mj_ask i st = some (q, st')) (hx : p.tables.exec = Jvm.exec) (hb : c.code = bs)
    (k1 : q → W p l e R s m args below meth c H locs cells slots Q (F0 m aux ls (st'.map (ms_v ad)))) (k2 : ¬ q → W p l e R s m args below meth c H locs cells slots Q (F0 m nx ls (st'.map (ms_v ad)))) : W p l e R s m args below meth c H locs cells slots Q (F0 m pc ls (st.map (ms_v ad))) := by
  obtain ⟨hd, hn⟩ := ms_split hc
  cases i
  case ifCond q1 o =>
    simp only [ms_chk, Bool.and_eq_true, decide_eq_true_eq] at hc
    rw [hn] at k2
    simp only [mj_ask] at hp
    split at hp
    next x r =>
      cases q1 <;> cases hp
      · exact lv_if_eq hx hb hd hc.2 k1 k2
      · exact lv_if_ne hx hb hd hc.2 k1 (fun z => k2 (fun z2 => z2 z))
      · exact lv_if_lt hx hb hd hc.2 k1 k2
      · exact lv_if_ge hx hb hd hc.2 k1 k2
      · exact lv_if_gt hx hb hd hc.2 k1 k2
      · exact lv_if_le hx hb hd hc.2 k1 k2
    next => cases hp
  case if_icmp q1 o =>
    simp only [ms_chk, Bool.and_eq_true, decide_eq_true_eq] at hc
    rw [hn] at k2
    simp only [mj_ask] at hp
    split at hp
    next y x r =>
      cases q1 <;> cases hp
      · exact lv_icmp_eq hx hb hd hc.2 k1 k2
      · exact lv_icmp_ne hx hb hd hc.2 k1 (fun z => k2 (fun z2 => z2 z))
      · exact lv_icmp_lt hx hb hd hc.2 k1 k2
      · exact lv_icmp_ge hx hb hd hc.2 k1 k2
      · exact lv_icmp_gt hx hb hd hc.2 k1 k2
      · exact lv_icmp_le hx hb hd hc.2 k1 k2
    next => cases hp
  all_goals (cases hp)
theorem ms_dvW {q : Prop} (hc : ms_chk own bs (pc, i, nx, aux, cv, wi) = true) (hp : mj_dv i st = some (q, st')) (hq : q) (hx : p.tables.exec = Jvm.exec) (hb : c.code = bs)
    (k : W p l e R s m args below meth c H locs cells slots Q (F0 m nx ls (st'.map (ms_v ad)))) : W p l e R s m args below meth c H locs cells slots Q (F0 m pc ls (st.map (ms_v ad))) := by
  obtain ⟨hd, hn⟩ := ms_split hc
  cases i
  case idiv =>
    simp only [mj_dv] at hp
    split at hp
    next y x r => cases hp; exact lv_idiv hx hb hd hq (by rw [hn] at k; exact k)
    next => cases hp
  case irem =>
    simp only [mj_dv] at hp
    split at hp
    next y x r => cases hp; exact lv_irem hx hb hd hq (by rw [hn] at k; exact k)
    next => cases hp
  case ldiv =>
    simp only [mj_dv] at hp
    split at hp
    next y x r => cases hp; exact lv_ldiv hx hb hd hq (by rw [hn] at k; exact k)
    next => cases hp
  case lrem =>
    simp only [mj_dv] at hp
    split at hp
    next y x r => cases hp; exact lv_lrem hx hb hd hq (by rw [hn] at k; exact k)
    next => cases hp
  all_goals (cases hp)
theorem ms_swW {t : Nat} (hc : ms_chk own bs (pc, i, nx, aux, cv, wi) = true) (hp : mj_sw i pc st = some ((t : Int), st')) (hx : p.tables.exec = Jvm.exec) (hb : c.code = bs)
    (k : W p l e R s m args below meth c H locs cells slots Q (F0 m t ls (st'.map (ms_v ad)))) : W p l e R s m args below meth c H locs cells slots Q (F0 m pc ls (st.map (ms_v ad))) := by
  obtain ⟨hd, hn⟩ := ms_split hc
  cases i
  case lookupswitch df ps =>
    simp only [ms_chk, Bool.and_eq_true] at hc
    simp only [mj_sw] at hp
    split at hp
    next x r =>
      simp only [Option.some.injEq, Prod.mk.injEq] at hp
      obtain ⟨h1, rfl⟩ := hp
      exact lv_lookup hx hb hd hc.2 rfl h1 k
    next => cases hp
  case tableswitch df lo hi offs =>
    simp only [ms_chk, Bool.and_eq_true, decide_eq_true_eq] at hc
    simp only [mj_sw] at hp
    split at hp
    next x r =>
      simp only [Option.some.injEq, Prod.mk.injEq] at hp
      obtain ⟨h1, rfl⟩ := hp
      by_cases hr : x.toInt < lo ∨ hi < x.toInt
      · rw [if_pos hr] at h1
        exact lv_tableOut hx hb hd hr h1 k
      · rw [if_neg hr] at h1
        have hs := Nat.eq_of_beq_eq_true hc.2.2
        have hlt : (x.toInt - lo).toNat < offs.size := by omega
        have ho : offs[(x.toInt - lo).toNat]? = some (offs.toList.getD (x.toInt - lo).toNat 0) := by
          rw [Array.getElem?_eq_getElem hlt]
          simp [List.getD_eq_getElem?_getD, Array.getElem?_toList, Array.getElem?_eq_getElem hlt]
        exact lv_tableIn hx hb hd (fun z => hr (Or.inl z)) (fun z => hr (Or.inr z)) ho h1 k
    next => cases hp
  all_goals (cases hp)
theorem ms_memW (hc : ms_chk own bs (pc, i, nx, aux, cv, wi) = true) (hm : mj_mem i aux st h st' h') (hLay : ms_lay) (hCp : ms_cpy) (hx : p.tables.exec = Jvm.exec) (hb : c.code = bs) (hown : s.vm.findClass own = some m.cls) (hts : ∀ w ∈ ms_T, w.before args s = true) (hml : c.maxLocals = ls.size) (hfr : 1 ≤ R.frames) (hlo : 60 ≤ R.locals)
    (hK : va_K D mj_cls (ms_tys cA) s) (hZ : ms_Z ad A s) (h0 : H0 = s.heap) (hR : ms_Rel D cA ad N A H0 h H locs)
    (k : ∀ (H1 : Heap) (locs1 : List Loc), ms_Rel D cA ad N A H0 h' H1 locs1 → W p l e R s m args below meth c H1 locs1 cells slots Q (F0 m nx ls (st'.map (ms_v ad)))) : W p l e R s m args below meth c H locs cells slots Q (F0 m pc ls (st.map (ms_v ad))) := by
  obtain ⟨hd, hn⟩ := ms_split hc
  obtain ⟨hP, hD, hS, hW⟩ := hR
  cases i
  case getstatic ix =>
    subst h0
    obtain ⟨rfl, hm⟩ := hm
    simp only [ms_chk, Bool.and_eq_true] at hc
    obtain ⟨-, hc⟩ := hc
    have hk := k H locs ⟨hP, hD, hS, hW⟩
    rw [hn] at hk
    rcases hm with ⟨rfl, rfl⟩ | ⟨rfl, rfl⟩
    · exact va_gets hx hb hZ.1 hS hown (hts _ (ms_in_ok hc)) (fun x z => z) hd hk
    · exact va_gets hx hb hZ.2.1 hS hown (hts _ (ms_in_ok hc)) (fun x z => z) hd hk
  case getfield ix =>
    obtain ⟨a, fs, v, r, rfl, ha, hv, rfl, rfl⟩ := hm
    have hlt : a < N := hW.lt ha (fun z => by simp only [Sum.inr.injEq, Prod.mk.injEq] at z; rw [z.2] at hv; simp at hv) rfl
    simp only [ms_chk, Bool.and_eq_true, ms_link] at hc
    obtain ⟨-, hc⟩ := hc
    split at hc
    next C T M hcl =>
      simp only [Bool.and_eq_true] at hc
      have he := ms_cells_at (ad := ad) (cA := cA) (h := h') hlt
      rw [ha] at he
      have hk := k H locs ⟨hP, hD, hS, hW⟩
      rw [hn] at hk
      exact va_get hx hb hts (hLay _ _ _ _ hcl).1 hown hK hP a he hcl (aux % 64) (Nat.le_of_ble_eq_true hc.1.1) (hts _ (ms_in_ok hc.1.2)) (fun _ z => z) (by rw [List.getElem?_map, hv]; rfl) hd hk
    next => cases hc
  case putfield ix =>
    obtain ⟨a, fs, v, r, rfl, ha, hl, hf, rfl, rfl⟩ := hm
    have hlt : a < N := hW.lt ha (fun z => by simp only [Sum.inr.injEq, Prod.mk.injEq] at z; rw [z.2] at hl; simp at hl) rfl
    simp only [ms_chk, Bool.and_eq_true, ms_link] at hc
    obtain ⟨-, hc⟩ := hc
    split at hc
    next C T M hcl =>
      simp only [Bool.and_eq_true] at hc
      have he := ms_cells_at (ad := ad) (cA := cA) (h := h) hlt
      rw [ha] at he
      have hfin : (T (aux % 64)).2.2.2 = false := by
        have z := hc.2
        simpa using z
      have hlay := hLay _ _ _ _ hcl
      have hff := ms_fit (ad := ad) hf
      refine va_put hx hb hts hlay.1 (mj_fty (aux / 64)) hlay.2.1 hlay.2.2 hown hK hP hD hS a he hcl (aux % 64) (Nat.le_of_ble_eq_true hc.1.1) (hts _ (ms_in_ok hc.1.2)) (fun _ z => z) hfin (hlay.2.1 _ (Nat.le_of_ble_eq_true hc.1.1)) hff.1 hff.2 (by simpa using hl) hd (fun H1 locs1 hP1 hD1 hS1 => ?_)
      rw [show (fs.map (ms_v ad)).set (aux % 64) (ms_v ad v) = (fs.set (aux % 64) v).map (ms_v ad) from (List.map_set ..).symm] at hP1 hD1
      have e1 := ms_cells_set (ad := ad) (cA := cA) (h := h) (c := .inr (aux / 64, fs.set (aux % 64) v)) hlt
      rw [show (ad a, (Sum.inr (aux / 64, (fs.set (aux % 64) v).map (ms_v ad)) : va_E)) = (ad a, ms_c ad cA (.inr (aux / 64, fs.set (aux % 64) v))) from rfl, e1] at hP1 hD1
      have hk := k H1 locs1 ⟨hP1, hD1, hS1, hW.up hlt rfl⟩
      rw [hn] at hk
      exact hk
    next => cases hc
  case iaload =>
    obtain ⟨a, j, n, f, r, rfl, ha, hj, rfl, rfl⟩ := hm
    have hk := k H locs ⟨hP, hD, hS, hW⟩
    rw [hn] at hk
    rcases ha with ha | ha
    · have hlt : a < N := hW.lt ha (fun z => by cases z) rfl
      have he := ms_cells_at (ad := ad) (cA := cA) (h := h') hlt
      rw [ha] at he
      exact va_iald hx hb hK hP a 0 he rfl hj hd hk
    · subst h0
      obtain ⟨rfl, h5⟩ := hW.six ha
      have hlt5 : j.toNatClampNeg < 5 := Nat.not_le.mp fun q => hj (Or.inr q)
      rcases h5 with ⟨rfl, h5⟩ | ⟨rfl, h5⟩
      · exact va_ti hx hb hZ.2.2.1 hS hj (by rw [← h5 _ hlt5]; rfl) hd hk
      · exact va_ti hx hb hZ.2.2.2 hS hj (by rw [← h5 _ hlt5]; rfl) hd hk
  case laload =>
    obtain ⟨a, j, n, f, r, rfl, ha, hj, rfl, rfl⟩ := hm
    have hlt : a < N := hW.lt ha (fun z => by cases z) rfl
    have he := ms_cells_at (ad := ad) (cA := cA) (h := h') hlt
    rw [ha] at he
    have hk := k H locs ⟨hP, hD, hS, hW⟩
    rw [hn] at hk
    exact va_lald hx hb hK hP a 1 he rfl hj hd hk
  case baload =>
    obtain ⟨a, j, n, f, r, rfl, ha, hj, rfl, rfl⟩ := hm
    have hk := k H locs ⟨hP, hD, hS, hW⟩
    rw [hn] at hk
    rcases ha with ha | ha
    · have hlt : a < N := hW.lt ha (fun z => by cases z) rfl
      have he := ms_cells_at (ad := ad) (cA := cA) (h := h') hlt
      rw [ha] at he
      exact va_bald hx hb hK hP a 2 he rfl hj hd hk
    · have hlt : a < N := hW.lt ha (fun z => by cases z) rfl
      have he := ms_cells_at (ad := ad) (cA := cA) (h := h') hlt
      rw [ha] at he
      exact va_zald hx hb hK hP a 3 he rfl hj hd hk
  case caload =>
    obtain ⟨a, j, n, f, r, rfl, ha, hj, rfl, rfl⟩ := hm
    have hlt : a < N := hW.lt ha (fun z => by cases z) rfl
    have he := ms_cells_at (ad := ad) (cA := cA) (h := h') hlt
    rw [ha] at he
    have hk := k H locs ⟨hP, hD, hS, hW⟩
    rw [hn] at hk
    exact va_cald hx hb hK hP a 4 he rfl hj hd hk
  case aaload =>
    obtain ⟨a, j, n, f, b, r, rfl, ha, hj, hfb, rfl, rfl⟩ := hm
    have hlt : a < N := hW.lt ha (fun z => by cases z) rfl
    have he := ms_cells_at (ad := ad) (cA := cA) (h := h') hlt
    rw [ha] at he
    have hk := k H locs ⟨hP, hD, hS, hW⟩
    rw [hn] at hk
    refine va_aldq (C := "FairSlots$World") hx hb hK hP a 5 he rfl hj hd ?_
    rw [hfb]
    exact hk
  case iastore =>
    obtain ⟨a, j, n, f, x, r, rfl, ha, hj, rfl, rfl⟩ := hm
    have hlt : a < N := hW.lt ha (fun z => by cases z) rfl
    have he := ms_cells_at (ad := ad) (cA := cA) (h := h) hlt
    rw [ha] at he
    refine va_iast hx hb hK hP hD hS a 0 he rfl hj hd (fun H1 locs1 hP1 hD1 hS1 => ?_)
    have e1 := ms_cells_set (ad := ad) (cA := cA) (h := h) (c := .inl (0, n, .inl (upd f j.toNatClampNeg x))) hlt
    have hk := k H1 locs1 ⟨e1 ▸ hP1, e1 ▸ hD1, hS1, hW.up hlt rfl⟩
    rw [hn] at hk
    exact hk
  case lastore =>
    obtain ⟨a, j, n, f, x, r, rfl, ha, hj, rfl, rfl⟩ := hm
    have hlt : a < N := hW.lt ha (fun z => by cases z) rfl
    have he := ms_cells_at (ad := ad) (cA := cA) (h := h) hlt
    rw [ha] at he
    refine va_last hx hb hK hP hD hS a 1 he rfl hj hd (fun H1 locs1 hP1 hD1 hS1 => ?_)
    have e1 := ms_cells_set (ad := ad) (cA := cA) (h := h) (c := .inl (1, n, .inr (.inl (vp_updL f j.toNatClampNeg x)))) hlt
    have hk := k H1 locs1 ⟨e1 ▸ hP1, e1 ▸ hD1, hS1, hW.up hlt rfl⟩
    rw [hn] at hk
    exact hk
  case bastore =>
    obtain ⟨a, j, n, f, x, r, rfl, hj, rfl, ha⟩ := hm
    rcases ha with ⟨ha, rfl⟩ | ⟨ha, rfl⟩
    · have hlt : a < N := hW.lt ha (fun z => by cases z) rfl
      have he := ms_cells_at (ad := ad) (cA := cA) (h := h) hlt
      rw [ha] at he
      refine va_bast hx hb hK hP hD hS a 2 he rfl hj hd (fun H1 locs1 hP1 hD1 hS1 => ?_)
      have e1 := ms_cells_set (ad := ad) (cA := cA) (h := h) (c := .inl (2, n, .inl (upd f j.toNatClampNeg (vp_nar .byte x)))) hlt
      have hk := k H1 locs1 ⟨e1 ▸ hP1, e1 ▸ hD1, hS1, hW.up hlt rfl⟩
      rw [hn] at hk
      exact hk
    · have hlt : a < N := hW.lt ha (fun z => by cases z) rfl
      have he := ms_cells_at (ad := ad) (cA := cA) (h := h) hlt
      rw [ha] at he
      refine va_zast hx hb hK hP hD hS a 3 he rfl hj hd (fun H1 locs1 hP1 hD1 hS1 => ?_)
      have e1 := ms_cells_set (ad := ad) (cA := cA) (h := h) (c := .inl (3, n, .inl (upd f j.toNatClampNeg (vp_nar .boolean x)))) hlt
      have hk := k H1 locs1 ⟨e1 ▸ hP1, e1 ▸ hD1, hS1, hW.up hlt rfl⟩
      rw [hn] at hk
      exact hk
  case castore =>
    obtain ⟨a, j, n, f, x, r, rfl, ha, hj, rfl, rfl⟩ := hm
    have hlt : a < N := hW.lt ha (fun z => by cases z) rfl
    have he := ms_cells_at (ad := ad) (cA := cA) (h := h) hlt
    rw [ha] at he
    refine va_cast hx hb hK hP hD hS a 4 he rfl hj hd (fun H1 locs1 hP1 hD1 hS1 => ?_)
    have e1 := ms_cells_set (ad := ad) (cA := cA) (h := h) (c := .inl (4, n, .inl (upd f j.toNatClampNeg (vp_nar .char x)))) hlt
    have hk := k H1 locs1 ⟨e1 ▸ hP1, e1 ▸ hD1, hS1, hW.up hlt rfl⟩
    rw [hn] at hk
    exact hk
  case arraylength =>
    obtain ⟨a, t, n, f, r, rfl, ha, ht, rfl, rfl⟩ := hm
    have hlt : a < N := hW.lt ha (fun z => by cases z) (by
      show (!(Nat.beq t 6)) = true
      cases hz : Nat.beq t 6 with
      | false => rfl
      | true => have := Nat.eq_of_beq_eq_true hz; omega)
    have he := ms_cells_at (ad := ad) (cA := cA) (h := h') hlt
    rw [ha] at he
    have hk := k H locs ⟨hP, hD, hS, hW⟩
    rw [hn] at hk
    have hty : ∃ ty, (ms_tys cA)[t]? = some (cA t, ty) := by
      match t, ht with
      | 0, _ => exact ⟨_, rfl⟩
      | 1, _ => exact ⟨_, rfl⟩
      | 2, _ => exact ⟨_, rfl⟩
      | 3, _ => exact ⟨_, rfl⟩
      | 4, _ => exact ⟨_, rfl⟩
      | 5, _ => exact ⟨_, rfl⟩
    obtain ⟨ty, hty⟩ := hty
    rcases f with f | f | f | f | f
    · exact va_alen hx hb hK hP a t he hty rfl hd hk
    · exact va_alen hx hb hK hP a t he hty rfl hd hk
    · exact va_alen hx hb hK hP a t he hty rfl hd hk
    · exact va_alen hx hb hK hP a t he hty rfl hd hk
    · exact va_alen hx hb hK hP a t he hty rfl hd hk
  case invokestatic ix =>
    obtain ⟨rfl, a, a0, n, n0, f, g, sp, dp, kk, r, rfl, h0, ha, hr, h1, h2, h3, h4, h5, rfl, rfl⟩ := hm
    have hlt : a < N := hW.lt ha (fun z => by cases z) rfl
    have hlt0 : a0 < N := hW.lt h0 (fun z => by cases z) rfl
    have he := ms_cells_at (ad := ad) (cA := cA) (h := h) hlt
    rw [ha] at he
    have he0 := ms_cells_at (ad := ad) (cA := cA) (h := h) hlt0
    rw [h0] at he0
    simp only [ms_chk, Bool.and_eq_true, ms_mlink] at hc
    have hcat : ((st'.map (ms_v ad)).map fun v => v.category) = st'.map fun v => v.category := by
      rw [List.map_map]
      exact List.map_congr_left (fun v _ => ms_v_cat ad v)
    have hnw : nativeFrameWords "java/lang/System" "arraycopy" 5 = 7 := by decide +kernel
    have hloc : ((st'.map (ms_v ad)).map fun v => v.category).sum + (nativeFrameWords "java/lang/System" "arraycopy" 5 + 11) ≤ R.locals := by
      rw [hcat, hnw]
      omega
    refine va_copyi hx hb hml hown (hts _ (ms_in_ok hc.2)) (hts _ hCp.1) (hts _ hCp.2.1) (hts _ hCp.2.2) hK hP hD hS a0 a 0 0 he0 he rfl rfl rfl h1 h2 h3 h4 h5 (fun _ _ => rfl) hfr hloc hd (fun H1 locs1 hP1 hD1 hS1 => ?_)
    have e1 := ms_cells_set (ad := ad) (cA := cA) (h := h) (c := .inl (0, n, .inl (va_cpy f g sp.toNatClampNeg dp.toNatClampNeg kk.toNatClampNeg))) hlt
    have hk := k H1 locs1 ⟨e1 ▸ hP1, e1 ▸ hD1, hS1, hW.up hlt rfl⟩
    rw [hn] at hk
    exact hk
  all_goals (exact hm.elim)
end msMem
end
section
def ms_room (d : Nat) : Room := { frames := d, cells := 0, slots := 0, locals := 60 * d }
def ms_OK : Prop := ∀ (k : Nat) (sg : mj_S) (cs : List mj_E), mj_sigs[k]? = some sg → mj_cods[k]? = some cs → ms_sig sg = true ∧ cs.all (ms_chk sg.2.2.2.2.2.2.2.2.2.2 sg.2.1) = true
theorem mj_at_in {own : String} {bs : ByteArray} : ∀ {cs : List mj_E} {pc : Nat} {i : Instr} {nx aux : Nat} {cv : Int32}, cs.all (ms_chk own bs) = true → mj_at cs pc = some (i, nx, aux, cv) → ∃ wi, ms_chk own bs (pc, i, nx, aux, cv, wi) = true := by
  intro cs
  induction cs with
  | nil => intro pc i nx aux cv _ h; cases h
  | cons q r ih =>
    intro pc i nx aux cv ha h
    obtain ⟨p1, i1, n1, a1, c1, w1⟩ := q
    simp only [List.all_cons, Bool.and_eq_true] at ha
    simp only [mj_at] at h
    split at h
    next e =>
      cases h
      have e := Nat.eq_of_beq_eq_true e
      subst e
      exact ⟨w1, ha.1⟩
    next => exact ih ha.2 h
/-- what is kept of a heap that has no more than N cells -/
theorem mj_mem_wf {N : Nat} {i : Instr} {aux : Nat} {st st' : List Value} {h h' : mj_H} (hw : ms_wf N h) (hm : mj_mem i aux st h st' h') : ms_wf N h' := by
  cases i
  case getstatic ix => obtain ⟨rfl, -⟩ := hm; exact hw
  case getfield ix => obtain ⟨a, fs, v, r, -, -, -, -, rfl⟩ := hm; exact hw
  case putfield ix =>
    obtain ⟨a, fs, v, r, -, ha, hl, -, -, rfl⟩ := hm
    exact hw.up (hw.lt ha (fun z => by simp only [Sum.inr.injEq, Prod.mk.injEq] at z; rw [z.2] at hl; simp at hl) rfl) rfl
  case iaload => obtain ⟨a, j, n, f, r, -, -, -, -, rfl⟩ := hm; exact hw
  case laload => obtain ⟨a, j, n, f, r, -, -, -, -, rfl⟩ := hm; exact hw
  case baload => obtain ⟨a, j, n, f, r, -, -, -, -, rfl⟩ := hm; exact hw
  case caload => obtain ⟨a, j, n, f, r, -, -, -, -, rfl⟩ := hm; exact hw
  case aaload => obtain ⟨a, j, n, f, b, r, -, -, -, -, -, rfl⟩ := hm; exact hw
  case iastore => obtain ⟨a, j, n, f, x, r, -, ha, -, -, rfl⟩ := hm; exact hw.up (hw.lt ha (fun z => by cases z) rfl) rfl
  case lastore => obtain ⟨a, j, n, f, x, r, -, ha, -, -, rfl⟩ := hm; exact hw.up (hw.lt ha (fun z => by cases z) rfl) rfl
  case bastore =>
    obtain ⟨a, j, n, f, x, r, -, -, -, ha⟩ := hm
    rcases ha with ⟨ha, rfl⟩ | ⟨ha, rfl⟩
    · exact hw.up (hw.lt ha (fun z => by cases z) rfl) rfl
    · exact hw.up (hw.lt ha (fun z => by cases z) rfl) rfl
  case castore => obtain ⟨a, j, n, f, x, r, -, ha, -, -, rfl⟩ := hm; exact hw.up (hw.lt ha (fun z => by cases z) rfl) rfl
  case arraylength => obtain ⟨a, t, n, f, r, -, -, -, -, rfl⟩ := hm; exact hw
  case invokestatic ix =>
    obtain ⟨-, a, a0, n, n0, f, g, sp, dp, kk, r, -, h0, ha, -, -, -, -, -, -, -, rfl⟩ := hm
    exact hw.up (hw.lt ha (fun z => by cases z) rfl) rfl
  all_goals (exact hm.elim)
theorem mj_run_wf {N : Nat} {B : mj_B} (hB : ∀ k as h r h', ms_wf N h → B k as h r h' → ms_wf N h') {ty : Option FieldType} {cs : List mj_E} : ∀ (n : Nat) {Q : Option Value → mj_H → Prop} {h : mj_H} {pc : Nat} {L : mj_L} {st : List Value}, ms_wf N h → mj_run B ty cs n Q h pc L st → mj_run B ty cs n (fun v g => Q v g ∧ ms_wf N g) h pc L st := by
  intro n
  induction n with
  | zero => intro Q h pc L st _ hr; exact hr.elim
  | succ n ih =>
    intro Q h pc L st hw hr
    obtain ⟨i, nx, aux, cv, hat, hr⟩ := hr
    refine ⟨i, nx, aux, cv, hat, ?_⟩
    rcases hr with ⟨a, b, c, e, hr⟩ | ⟨q, c, e, hr⟩ | ⟨q, c, e, hq, hr⟩ | ⟨t, c, e, hr⟩ | ⟨c, g, e, hr⟩ | ⟨a, b, r1, g, e, hB1, hr⟩ | ⟨v, e, hr⟩
    · exact Or.inl ⟨a, b, c, e, ih hw hr⟩
    · rcases hr with ⟨hq, hr⟩ | ⟨hq, hr⟩
      · exact Or.inr (Or.inl ⟨q, c, e, Or.inl ⟨hq, ih hw hr⟩⟩)
      · exact Or.inr (Or.inl ⟨q, c, e, Or.inr ⟨hq, ih hw hr⟩⟩)
    · exact Or.inr (Or.inr (Or.inl ⟨q, c, e, hq, ih hw hr⟩))
    · exact Or.inr (Or.inr (Or.inr (Or.inl ⟨t, c, e, ih hw hr⟩)))
    · exact Or.inr (Or.inr (Or.inr (Or.inr (Or.inl ⟨c, g, e, ih (mj_mem_wf hw e) hr⟩))))
    · exact Or.inr (Or.inr (Or.inr (Or.inr (Or.inr (Or.inl ⟨a, b, r1, g, e, hB1, ih (hB _ _ _ _ _ hw hB1) hr⟩)))))
    · exact Or.inr (Or.inr (Or.inr (Or.inr (Or.inr (Or.inr ⟨v, e, hr, hw⟩)))))
theorem mj_big_wf {N : Nat} : ∀ (d k : Nat) (as : List Value) (h : mj_H) (r : Option Value) (h' : mj_H), ms_wf N h → mj_big d k as h r h' → ms_wf N h' := by
  intro d
  induction d with
  | zero => intro k as h r h' _ q; exact q.elim
  | succ d ih =>
    intro k as h r h' hw q
    obtain ⟨sg, cs, h1, h2, h3, n, h4⟩ := q
    obtain ⟨r2, h2', ⟨⟨-, e2⟩, h5⟩, -⟩ := mj_run_sp n (mj_run_wf ih n hw h4)
    rw [← e2]
    exact h5
def ms_B (D : va_G) (cA : Nat → ClassId) (ad : Nat → Nat) (N : Nat) (h : mj_H) (A : Nat → Prop) (U : State) : Prop := va_P D mj_cls (ms_cells ad cA N h) U.heap ∧ va_K D mj_cls (ms_tys cA) U ∧ va_D A (ms_cells ad cA N h)
def ms_Pc (D : va_G) (cA : Nat → ClassId) (ad : Nat → Nat) (N sz : Nat) (as : List Value) (h : mj_H) : Array Value → State → Prop := va_Pc (as.map (ms_v ad)) (fun U => U.heap.size = sz ∧ ms_B D cA ad N h (fun _ => True) U ∧ ms_Z ad (va_A (ms_cells ad cA N h) sz) U)
def ms_Qc (D : va_G) (cA : Nat → ClassId) (ad : Nat → Nat) (N sz : Nat) (h : mj_H) (r : Option Value) (h' : mj_H) : Array Value → State → Outcome → State → Prop := fun _ st oc t => (oc = .returned (r.map (ms_v ad)) ∧ ms_B D cA ad N h' (va_A (ms_cells ad cA N h) sz) t) ∧ va_F (va_A (ms_cells ad cA N h) sz) st t
theorem ms_blind {D : va_G} {cA : Nat → ClassId} {ad : Nat → Nat} {N sz : Nat} {as : List Value} {h : mj_H} : FrameBlind (ms_Pc D cA ad N sz as h) := by
  intro a U g mk q
  obtain ⟨q0, q1, ⟨qP, qK, qD⟩, qZ⟩ := q
  exact ⟨q0, q1, ⟨qP, va_K.moved (u := U) (U := U.calling g mk a) (Vm.Alike.refl U.vm) qK, qD⟩, ms_Z.at (U := U.calling g mk a) (H := U.heap) qZ (fun _ _ _ => rfl) (fun _ z => z) (Vm.Alike.refl U.vm) rfl⟩
theorem ms_cats (ad : Nat → Nat) (r : List Value) : ((r.map (ms_v ad)).map fun v => v.category) = r.map fun v => v.category := by
  rw [List.map_map]
  exact List.map_congr_left (fun v _ => ms_v_cat ad v)
set_option maxRecDepth 20000 in
theorem mj_sigs_len : mj_sigs.length ≤ 9999 := by decide +kernel
section msCall
variable {p : Program} {l : Launch} {e : Env} {R : Room} {s : State} {m : MethodId} {args : Array Value} {below : List Frame} {meth : Method} {c : Code} {H : Heap} {locs : List Loc} {cells slots : Nat} {Q : State → Prop}
variable {own : String} {bs : ByteArray} {pc nx aux wi nL : Nat} {i : Instr} {cv : Int32} {L : mj_L} {st : List Value} {ad : Nat → Nat} {ls : Array Slot} {D : va_G} {cA : Nat → ClassId} {N : Nat} {A : Nat → Prop} {h h' : mj_H}
theorem ms_goes {v : Option Value} {Bt : State → Prop} {A0 A1 : Nat → Prop} {H0 : Heap} {free : Addr → Prop} {st0 rest : List Value} (hr : va_Run p l e R s m args below meth c H locs cells slots 0 0 (F0 m pc ls st0) rest (fun st oc t => (oc = .returned v ∧ Bt t) ∧ va_F A1 st t) free) (hS : va_S A0 H0 H locs) (hA : ∀ q, q < H.size → A1 q → A0 q) (hf : ∀ q, free q → A0 q)
    (kk : ∀ (t : State) (H1 : Heap) (locs1 : List Loc), t.heap = H1 → s.vm.Alike t.vm → Bt t → va_S A0 H0 H1 locs1 → W p l e R s m args below meth c H1 locs1 cells slots Q (F0 m (pc + 3) ls (v.toList ++ rest))) : W p l e R s m args below meth c H locs cells slots Q (F0 m pc ls st0) := by
  intro T hT X
  obtain ⟨v', st₀, t, T', L, h0, X', hL, e1, e2, ⟨⟨hv, hb⟩, hz, hk⟩, st⟩ := hr T hT X
  cases hv
  rw [h0] at hz hk
  obtain ⟨t2, a1, b1⟩ := kk t T'.heap (locs ++ L) e1.symm (by rw [← e2]; exact X'.warmed.alike) hb
    ⟨Nat.le_trans hS.1 (by rw [e1]; exact hz), fun q h1 h2 => by rw [e1, hk q (Nat.lt_of_lt_of_le h1 hS.1) (fun z => h2 (hA q (Nat.lt_of_lt_of_le h1 hS.1) z))]; exact hS.2.1 q h1 h2, fun q hq => by
      rcases List.mem_append.mp hq with h | h
      · exact hS.2.2 q h
      · exact hf _ (hL q h)⟩ T' rfl X'
  exact ⟨t2, st t2 a1, b1⟩
theorem ms_callW {d : Nat} {as rest : List Value} {r : Option Value} (hOK : ms_OK) (hc : ms_chk own bs (pc, i, nx, aux, cv, wi) = true) (hca : mj_call i aux st h as rest)
    (hM : ∀ (sg : mj_S), mj_sigs[aux]? = some sg → ∀ sz, Met l sg.1 (ms_ws sg) (ms_room d) (ms_Pc D cA ad N sz as h) (ms_Qc D cA ad N sz h r h') 0 0 (va_A (ms_cells ad cA N h) sz))
    (hx : p.tables.exec = Jvm.exec) (hb : c.code = bs) (hown : s.vm.findClass own = some m.cls) (hts : ∀ w ∈ ms_T, w.before args s = true) (hml : c.maxLocals = nL) (hls : ls.size = nL) (hfr : d + 1 ≤ R.frames) (hlo : 60 * (d + 1) ≤ R.locals)
    (hA : ∀ q : Nat, s.heap.size ≤ q → A q) (hK : va_K D mj_cls (ms_tys cA) s) (hZ : ms_Z ad A s) (hR : ms_Rel D cA ad N A s.heap h H locs) (hw' : ms_wf N h') (hcell : 0 ≤ R.cells ∧ 0 ≤ R.slots)
    (hcs : ∃ cs, mj_cods[aux]? = some cs)
    (k : ∀ (H1 : Heap) (locs1 : List Loc), ms_Rel D cA ad N A s.heap h' H1 locs1 → W p l e R s m args below meth c H1 locs1 0 0 Q (F0 m nx ls ((r.toList ++ rest).map (ms_v ad)))) : W p l e R s m args below meth c H locs 0 0 Q (F0 m pc ls (st.map (ms_v ad))) := by
  obtain ⟨hd, hn⟩ := ms_split hc
  obtain ⟨hP, hD, hS, hW⟩ := hR
  obtain ⟨sg, hsg, hst, hlen, hrest, hkind⟩ := hca
  obtain ⟨cs, hcs⟩ := hcs
  have hS0 := (hOK aux sg cs hsg hcs).1
  have hFc : ∀ q, va_A (ms_cells ad cA N h) H.size q → A q := by
    intro q hq
    rcases hq with ⟨j, e1, hq⟩ | hq
    · exact hD.2 j _ hq
    · exact hA q (Nat.le_trans hS.1 hq)
  have hrr : 2 * (F0 m pc ls (st.map (ms_v ad))).monitorRoom + ((rest.map (ms_v ad)).map fun v => v.category).sum ≤ 8 := lv_room (by rw [ms_cats]; exact hrest)
  simp only [ms_sig, Bool.and_eq_true, decide_eq_true_eq] at hS0
  obtain ⟨⟨⟨⟨⟨⟨⟨⟨z1, z2⟩, z3⟩, z4⟩, z5⟩, z6⟩, z7⟩, z8⟩, z9⟩ := hS0
  have hcode : Cond.code sg.1 sg.2.1 sg.2.2.1 sg.2.2.2.1 ∈ ms_T := ms_in_ok z1
  have hini : Cond.initialized sg.1.cls ∈ ms_T := List.mem_filter.mpr ⟨z7, z8⟩
  have hmL := Nat.le_of_ble_eq_true z6
  have hgood : GoodIn ms_T (ms_ws sg) := by
    intro w hw
    rcases List.mem_cons.mp hw with rfl | hw
    · exact ms_T_good _ hcode
    · exact ms_T_good _ hw
  have hroom : (ms_room d).frames + 1 ≤ R.frames ∧ 8 + (sg.2.2.1 + 11) + (ms_room d).locals ≤ R.locals := by
    refine ⟨hfr, ?_⟩
    show 8 + (sg.2.2.1 + 11) + 60 * d ≤ R.locals
    omega
  have hfin : va_Run p l e R s m args below meth c H locs 0 0 0 0 (F0 m pc ls (st.map (ms_v ad))) (rest.map (ms_v ad)) (ms_Qc D cA ad N H.size h r h' ((as.map (ms_v ad)).toArray)) (va_A (ms_cells ad cA N h) H.size) := by
    cases i
    case invokestatic ix =>
      simp only [hkind, Bool.and_eq_true, decide_eq_true_eq] at z9
      simp only [ms_chk, Bool.and_eq_true, ms_mlink] at hc
      obtain ⟨-, hc⟩ := hc
      split at hc
      next e9 =>
        exfalso
        have e9 := Nat.eq_of_beq_eq_true e9
        subst e9
        have := mj_sigs_len
        have h9 := (List.getElem?_eq_some_iff.mp hsg).1
        omega
      next =>
        rw [hsg] at hc
        have hlink := ms_in_ok hc
        refine va_runS (As := as.map (ms_v ad)) (Ts := ms_T) ⟨hx, hb, hml, hown, hts⟩ (hM sg hsg H.size) ⟨callB_of sg.2.2.2.2.1 hts hgood rfl rfl rfl (hts _ hini) (hts _ hlink) ⟨z4, z5, z9.2⟩ hroom, hts _ (ms_in_ok z9.1)⟩ ⟨ms_blind, fun U hU hWU => ⟨rfl, by rw [hU], ⟨by rw [hU]; exact hP, va_K.moved hWU.alike hK, hD.weaken (fun _ _ _ _ => trivial)⟩, hZ.at hS.2.1 hFc hWU.alike hU⟩⟩ rfl (by simpa using hlen) hls ?_ hrr hd ⟨by simpa using hcell.1, by simpa using hcell.2⟩
        show st.map (ms_v ad) = _
        rw [hst, List.map_append, List.map_reverse]
    case invokevirtual ix =>
      obtain ⟨hkind, b, bs', fs, rfl, hbc⟩ := hkind
      simp only [hkind, Bool.and_eq_true, decide_eq_true_eq] at z9
      simp only [ms_chk, Bool.and_eq_true, ms_mlink] at hc
      obtain ⟨-, hc⟩ := hc
      split at hc
      next e9 =>
        exfalso
        have e9 := Nat.eq_of_beq_eq_true e9
        subst e9
        have := mj_sigs_len
        have h9 := (List.getElem?_eq_some_iff.mp hsg).1
        omega
      next =>
        rw [hsg] at hc
        have hlink := ms_in_ok hc
        obtain ⟨⟨⟨y1, y2⟩, y3⟩, y4⟩ := z9
        split at y4
        next q hq =>
          have y4 := of_decide_eq_true y4
          have hlt : b < N := hW.lt hbc (fun z => by
            simp only [Sum.inr.injEq, Prod.mk.injEq] at z
            rw [z.1] at hq
            cases hq) rfl
          have he := ms_cells_at (ad := ad) (cA := cA) (h := h) hlt
          rw [hbc] at he
          have hrv := va_recv hK hP hq he
          rw [y4] at hrv
          have hlen2 : bs'.length + 1 = sg.2.2.2.2.1 := by simpa using hlen
          have y3' : (parseMethodDescriptor sg.1.desc).map (fun d => d.parameters.length) = some bs'.length := by
            cases hz : parseMethodDescriptor sg.1.desc with
            | none => rw [hz] at y3; cases y3
            | some x =>
              rw [hz] at y3
              simp only [Option.map_some, Option.some.injEq] at y3 ⊢
              omega
          refine va_runV (As := bs'.map (ms_v ad)) (Ts := ms_T) ⟨hx, hb, hml, hown, hts⟩ (hM sg hsg H.size) ⟨callB_of bs'.length hts hgood rfl rfl rfl (hts _ hini) (hts _ hlink) ⟨z4, z5, y3'⟩ hroom, hts _ (ms_in_ok y1), hts _ (ms_in_ok y2)⟩ ⟨ms_blind, hrv, fun U hU hWU => ⟨rfl, by rw [hU], ⟨by rw [hU]; exact hP, va_K.moved hWU.alike hK, hD.weaken (fun _ _ _ _ => trivial)⟩, hZ.at hS.2.1 hFc hWU.alike hU⟩⟩ rfl (by simp) hls ?_ hrr hd ⟨by simpa using hcell.1, by simpa using hcell.2⟩
          show st.map (ms_v ad) = _
          rw [hst, List.map_append, List.reverse_cons, List.map_append, List.map_reverse, List.append_assoc]
          rfl
        next => cases y4
    all_goals (exact hkind.elim)
  have hnx : nx = pc + 3 := by
    cases i
    case invokestatic ix => exact hn
    case invokevirtual ix => exact hn
    all_goals (exact hkind.elim)
  refine ms_goes hfin hS (fun q _ z => hFc q z) hFc (fun t H1 locs1 ht hvm hBt hS1 => ?_)
  obtain ⟨hP1, hK1, hD1⟩ := hBt
  rw [ht] at hP1
  have hk := k H1 locs1 ⟨hP1, hD1.weaken (fun _ q _ z => hFc q.1 z), hS1, hw'⟩
  rw [hnx, List.map_append] at hk
  cases r with
  | none => exact hk
  | some x => exact hk
end msCall
end
section
theorem mj_ents_has {ad : Nat → Nat} : ∀ (as : List Value) (i : Nat) (j : Nat) (v : Value), (mj_ents as)[j]? = some (some v) → (i + j, ms_v ad v) ∈ lv_args i (as.map (ms_v ad)) := by
  intro as
  induction as with
  | nil => intro i j v h; simp [mj_ents] at h
  | cons a as ih =>
    intro i j v h
    rw [List.map_cons, lv_args, ms_v_cat]
    simp only [mj_ents] at h
    split at h
    next e =>
      have hc := ms_one e
      rw [if_neg (by omega)]
      cases j with
      | zero =>
        simp only [List.getElem?_cons_zero, Option.some.injEq] at h
        subst h
        exact List.mem_cons_self
      | succ j =>
        rw [List.getElem?_cons_succ] at h
        have := ih (i + 1) j v h
        rw [show i + 1 + j = i + (j + 1) by omega] at this
        exact List.mem_cons_of_mem _ this
    next e =>
      have hc : a.category = 2 := by cases a <;> first | rfl | cases e
      rw [if_pos hc]
      cases j with
      | zero =>
        simp only [List.getElem?_cons_zero, Option.some.injEq] at h
        subst h
        exact List.mem_cons_self
      | succ j =>
        rw [List.getElem?_cons_succ] at h
        cases j with
        | zero => simp at h
        | succ j =>
          rw [List.getElem?_cons_succ] at h
          have := ih (i + 2) j v h
          rw [show i + 2 + j = i + (j + 1 + 1) by omega] at this
          exact List.mem_cons_of_mem _ this
theorem mj_ents_len (ad : Nat → Nat) : ∀ (as : List Value), (lg_sl (as.map (ms_v ad))).length = (mj_ents as).length := by
  intro as
  induction as with
  | nil => rfl
  | cons a as ih =>
    have e0 : lg_sl ((a :: as).map (ms_v ad)) = (if (ms_v ad a).category = 2 then [.val (ms_v ad a), .second] else [.val (ms_v ad a)]) ++ lg_sl (as.map (ms_v ad)) := by
      simp [lg_sl]
    rw [e0, List.length_append, ih, ms_v_cat]
    cases a <;> simp [mj_ents, mj_one, Value.category] <;> omega
theorem ms_L_entry {ad : Nat → Nat} {as : List Value} {n : Nat} (hn : (mj_ents as).length ≤ n) : ms_L ad n (mj_ent as n) ((lg_sl (as.map (ms_v ad)) ++ List.replicate (n - (lg_sl (as.map (ms_v ad))).length) Slot.unset).toArray) := by
  have hl := lv_entry (as.map (ms_v ad)) (n := n) (by rw [mj_ents_len]; exact hn)
  refine ⟨?_, hl.1, hl.2.1, fun q hq => ?_⟩
  · simp only [mj_ent, List.length_append, List.length_replicate]
    omega
  · obtain ⟨v, h1, h2⟩ := ms_ll_inv hq
    obtain ⟨j, w⟩ := q
    dsimp only at h1 h2
    subst h2
    unfold mj_ent at h1
    rcases Nat.lt_or_ge j (mj_ents as).length with hj | hj
    · rw [List.getElem?_append_left hj] at h1
      have := mj_ents_has (ad := ad) as 0 j v h1
      rw [Nat.zero_add] at this
      exact hl.2.2 _ this
    · rw [List.getElem?_append_right hj] at h1
      have := List.eq_of_mem_replicate (List.mem_of_getElem? h1)
      cases this
/-- the small machine's runs are runs of the machine -/
theorem ms_runW (hOK : ms_OK) (hLay : ms_lay) (hCp : ms_cpy) {d : Nat} {l : Launch} {D : va_G} {cA : Nat → ClassId} {ad : Nat → Nat} {N : Nat}
    (ih : ∀ (k : Nat) (as : List Value) (h : mj_H) (r : Option Value) (h' : mj_H), mj_big d k as h r h' → ms_wf N h → ∀ (sg : mj_S), mj_sigs[k]? = some sg → ∀ sz, Met l sg.1 (ms_ws sg) (ms_room d) (ms_Pc D cA ad N sz as h) (ms_Qc D cA ad N sz h r h') 0 0 (va_A (ms_cells ad cA N h) sz))
    {p : Program} {e : Env} {s : State} {m : MethodId} {args : Array Value} {below : List Frame} {meth : Method} {c : Code} {own : String} {bs : ByteArray} {nL : Nat} {A : Nat → Prop} {ty : Option FieldType} {cs : List mj_E} {r : Option Value} {h' : mj_H} {free : Addr → Prop} {Qc : Array Value → State → Outcome → State → Prop}
    (hch : cs.all (ms_chk own bs) = true) (hx : p.tables.exec = Jvm.exec) (hb : c.code = bs) (hret : meth.sig.returnType = ty) (hlocks : meth.locks = false) (hown : s.vm.findClass own = some m.cls) (hts : ∀ w ∈ ms_T, w.before args s = true) (hml : c.maxLocals = nL)
    (hA : ∀ q : Nat, s.heap.size ≤ q → A q) (hfree : ∀ q, A q → free q) (hK : va_K D mj_cls (ms_tys cA) s) (hZ : ms_Z ad A s)
    (hQ : ∀ (H : Heap) (locs : List Loc) (t : State), ms_Rel D cA ad N A s.heap h' H locs → t.heap = H → s.WarmedH t.vm → Qc args s (.returned (r.map (ms_v ad))) t) :
    ∀ (n : Nat) (h : mj_H) (pc : Nat) (L : mj_L) (st : List Value) (H : Heap) (locs : List Loc) (ls : Array Slot), mj_run (mj_big d) ty cs n (fun v g => v = r ∧ g = h') h pc L st → ms_Rel D cA ad N A s.heap h H locs → ms_L ad nL L ls →
      W p l e (ms_room (d + 1)) s m args below meth c H locs 0 0 (MQ below Qc args s 0 0 free) (F0 m pc ls (st.map (ms_v ad))) := by
  intro n
  induction n with
  | zero => intro h pc L st H locs ls hr; exact hr.elim
  | succ n ihn =>
    intro h pc L st H locs ls hr hR hl
    obtain ⟨i, nx, aux, cv, hat, hr⟩ := hr
    obtain ⟨wi, hc⟩ := mj_at_in hch hat
    rcases hr with ⟨a, b, st', e1, hr⟩ | ⟨q, st', e1, hr⟩ | ⟨q, st', e1, hq, hr⟩ | ⟨t, st', e1, hr⟩ | ⟨st', g, e1, hr⟩ | ⟨as, rest, r1, g, e1, hB1, hr⟩ | ⟨v, e1, hv, hg⟩
    · exact ms_pureW hc e1 hx hb hown hts hl (fun ls' hl' => ihn _ _ _ _ _ _ _ hr hR hl')
    · refine ms_askW hc e1 hx hb (fun hq => ?_) (fun hq => ?_)
      · rcases hr with ⟨hq', hr⟩ | ⟨hq', hr⟩
        · exact ihn _ _ _ _ _ _ _ hr hR hl
        · exact absurd hq hq'
      · rcases hr with ⟨hq', hr⟩ | ⟨hq', hr⟩
        · exact absurd hq' hq
        · exact ihn _ _ _ _ _ _ _ hr hR hl
    · exact ms_dvW hc e1 hq hx hb (ihn _ _ _ _ _ _ _ hr hR hl)
    · exact ms_swW hc e1 hx hb (ihn _ _ _ _ _ _ _ hr hR hl)
    · refine ms_memW hc e1 hLay hCp hx hb hown hts (by rw [hml, hl.2.1]) ?_ ?_ hK hZ rfl hR (fun H1 locs1 hR1 => ihn _ _ _ _ _ _ _ hr hR1 hl)
      · show 1 ≤ d + 1
        omega
      · show 60 ≤ 60 * (d + 1)
        omega
    · have hw' := mj_big_wf d aux as h r1 g hR.2.2.2 hB1
      have hcs : ∃ cs, mj_cods[aux]? = some cs := by
        cases d with
        | zero => exact hB1.elim
        | succ d =>
          obtain ⟨sg, cs2, -, h2, -⟩ := hB1
          exact ⟨cs2, h2⟩
      exact ms_callW hOK hc e1 (fun sg hsg sz => ih aux as h r1 g hB1 hR.2.2.2 sg hsg sz) hx hb hown hts hml hl.2.1 (Nat.le_refl _) (Nat.le_refl _) hA hK hZ hR hw' ⟨Nat.zero_le _, Nat.zero_le _⟩ hcs (fun H1 locs1 hR1 => ihn _ _ _ _ _ _ _ hr hR1 hl)
    · obtain ⟨hd, hn⟩ := ms_split hc
      subst hv
      subst hg
      have hfr : ∀ q ∈ locs, free q.base := fun q hq => hfree _ (hR.2.2.1.2.2 q hq)
      cases i
      case ireturn =>
        obtain ⟨x, t, rfl, rfl, ht, hn2⟩ := e1
        exact W.zret hx hb (hret.trans ht) hn2 (fun t2 h2 hW2 => hQ H locs t2 hR h2 hW2) hfr hd hlocks
      case lreturn =>
        obtain ⟨x, rfl, rfl, ht⟩ := e1
        exact W.lret hx hb (hret.trans ht) (fun t2 h2 hW2 => hQ H locs t2 hR h2 hW2) hfr hd hlocks
      case return_ =>
        obtain ⟨rfl, rfl, ht⟩ := e1
        exact W.vret hx hb (hret.trans ht) (fun t2 h2 hW2 => hQ H locs t2 hR h2 hW2) hfr hd hlocks
      all_goals (exact e1.elim)
/-- a contract of the small machine is one of the machine, at any addresses -/
theorem ms_sound (hOK : ms_OK) (hLay : ms_lay) (hCp : ms_cpy) {l : Launch} {D : va_G} {cA : Nat → ClassId} {ad : Nat → Nat} {N : Nat} : ∀ (d k : Nat) (as : List Value) (h : mj_H) (r : Option Value) (h' : mj_H), mj_big d k as h r h' → ms_wf N h → ∀ (sg : mj_S), mj_sigs[k]? = some sg → ∀ sz, Met l sg.1 (ms_ws sg) (ms_room d) (ms_Pc D cA ad N sz as h) (ms_Qc D cA ad N sz h r h') 0 0 (va_A (ms_cells ad cA N h) sz) := by
  intro d
  induction d with
  | zero => intro k as h r h' q; exact q.elim
  | succ d ih =>
    intro k as h r h' q hw sg hsg sz
    obtain ⟨sg', cs, h1, h2, h3, n, h4⟩ := q
    cases hsg.symm.trans h1
    obtain ⟨hsig, hch⟩ := hOK k sg cs h1 h2
    simp only [ms_sig, Bool.and_eq_true, decide_eq_true_eq] at hsig
    obtain ⟨⟨⟨⟨⟨⟨⟨⟨z1, z2⟩, z3⟩, z4⟩, z5⟩, z6⟩, z7⟩, z8⟩, z9⟩ := hsig
    refine Met.ofW (cc := sg.2.1) (maxL := sg.2.2.1) (ret := sg.2.2.2.1) z3 rfl ?_
    intro p e s m args below meth c s₁ B hml hv
    obtain ⟨rfl, hsz, ⟨hP, hK, hD0⟩, hZ⟩ := hv
    have hts0 := atoms_spec (ws := ms_ws sg) B.pre
    have hts : ∀ w ∈ ms_T, w.before (as.map (ms_v ad)).toArray s = true := fun w hw => hts0 w (List.mem_cons_of_mem _ hw)
    have hown : s.vm.findClass sg.2.2.2.2.2.2.2.2.2.2 = some m.cls := by rw [z2]; exact findClass_of_methodNamed B.named
    subst hsz
    have hD := hD0.self (sz := s.heap.size)
    rw [lg_entry_eq]
    refine ms_runW (r := r) (h' := h') (Qc := ms_Qc D cA ad N s.heap.size h r h') (free := va_A (ms_cells ad cA N h) s.heap.size) hOK hLay hCp ih hch B.exec B.bytes B.returns B.notSynchronized hown hts hml (A := va_A (ms_cells ad cA N h) s.heap.size) (fun q hq => Or.inr hq) (fun q hq => hq) hK hZ ?_ n h 0 (mj_ent as sg.2.2.1) [] s.heap [] _ h4 ⟨hP, hD, va_S.rf, hw⟩ (ms_L_entry h3)
    intro H locs t hR ht hWt
    obtain ⟨hP1, hD1, hS1, hw1⟩ := hR
    exact ⟨⟨rfl, by rw [ht]; exact hP1, va_K.moved hWt.alike hK, hD1⟩, hS1.F ht⟩
end
section
abbrev fm_Sh : Type := (Nat × Nat) ⊕ (Nat × List (Nat × Nat))
abbrev fm_S : Type := (Nat → Nat → Int32) × (Nat → Nat → Int64) × (Nat → Nat → Option Nat)
def fm_list : List fm_Sh := [
  .inr (10, [(2, 1), (2, 12), (2, 23), (2, 34), (2, 38), (2, 40), (2, 42), (2, 44), (2, 46), (2, 49), (2, 53), (2, 54), (2, 61), (2, 62)]),
  .inr (9, [(2, 2), (2, 3), (2, 4), (2, 5), (2, 6), (2, 7), (2, 8), (2, 9), (2, 10), (2, 11), (0, 10), (0, 11), (0, 12), (0, 13), (0, 14), (0, 15), (0, 16)]),
  .inl (0, 8),
  .inl (0, 8),
  .inl (0, 8),
  .inl (0, 8),
  .inl (0, 8),
  .inl (0, 8),
  .inl (0, 8),
  .inl (0, 8),
  .inl (0, 8),
  .inl (0, 8),
  .inr (9, [(2, 13), (2, 14), (2, 15), (2, 16), (2, 17), (2, 18), (2, 19), (2, 20), (2, 21), (2, 22), (0, 10), (0, 11), (0, 12), (0, 13), (0, 14), (0, 15), (0, 16)]),
  .inl (0, 8),
  .inl (0, 8),
  .inl (0, 8),
  .inl (0, 8),
  .inl (0, 8),
  .inl (0, 8),
  .inl (0, 8),
  .inl (0, 8),
  .inl (0, 8),
  .inl (0, 8),
  .inr (9, [(2, 24), (2, 25), (2, 26), (2, 27), (2, 28), (2, 29), (2, 30), (2, 31), (2, 32), (2, 33), (0, 10), (0, 11), (0, 12), (0, 13), (0, 14), (0, 15), (0, 16)]),
  .inl (0, 8),
  .inl (0, 8),
  .inl (0, 8),
  .inl (0, 8),
  .inl (0, 8),
  .inl (0, 8),
  .inl (0, 8),
  .inl (0, 8),
  .inl (0, 8),
  .inl (0, 8),
  .inr (3, [(2, 35), (0, 1), (0, 2), (2, 36), (2, 37)]),
  .inl (5, 12),
  .inl (5, 2),
  .inl (3, 2),
  .inr (5, [(2, 39), (0, 1), (0, 2), (0, 3)]),
  .inl (4, 80),
  .inr (8, [(2, 41), (0, 1)]),
  .inl (0, 5),
  .inr (8, [(2, 43), (0, 1)]),
  .inl (0, 5),
  .inr (4, [(2, 45), (0, 1)]),
  .inl (1, 8),
  .inr (1, [(2, 47), (2, 48), (0, 2)]),
  .inl (0, 12),
  .inl (0, 12),
  .inr (6, [(2, 50), (2, 51), (2, 52), (0, 3)]),
  .inl (0, 10),
  .inl (0, 10),
  .inl (0, 151),
  .inr (0, [(0, 0), (0, 1), (1, 2), (1, 3), (1, 4), (1, 5)]),
  .inr (7, [(2, 55), (2, 56), (2, 57), (2, 58), (2, 59), (2, 60), (0, 6)]),
  .inl (0, 64),
  .inl (0, 64),
  .inl (0, 64),
  .inl (0, 8),
  .inl (0, 136),
  .inl (0, 136),
  .inl (0, 64),
  .inl (1, 9),
  .inr (98, []),
  .inr (98, []),
  .inr (9, [(2, 66), (2, 67), (2, 68), (2, 69), (2, 70), (2, 71), (2, 72), (2, 73), (2, 74), (2, 75), (0, 10), (0, 11), (0, 12), (0, 13), (0, 14), (0, 15), (0, 16)]),
  .inl (0, 8),
  .inl (0, 8),
  .inl (0, 8),
  .inl (0, 8),
  .inl (0, 8),
  .inl (0, 8),
  .inl (0, 8),
  .inl (0, 8),
  .inl (0, 8),
  .inl (0, 8),
  .inr (9, [(2, 77), (2, 78), (2, 79), (2, 80), (2, 81), (2, 82), (2, 83), (2, 84), (2, 85), (2, 86), (0, 10), (0, 11), (0, 12), (0, 13), (0, 14), (0, 15), (0, 16)]),
  .inl (0, 8),
  .inl (0, 8),
  .inl (0, 8),
  .inl (0, 8),
  .inl (0, 8),
  .inl (0, 8),
  .inl (0, 8),
  .inl (0, 8),
  .inl (0, 8),
  .inl (0, 8),
  .inr (9, [(2, 88), (2, 89), (2, 90), (2, 91), (2, 92), (2, 93), (2, 94), (2, 95), (2, 96), (2, 97), (0, 10), (0, 11), (0, 12), (0, 13), (0, 14), (0, 15), (0, 16)]),
  .inl (0, 8),
  .inl (0, 8),
  .inl (0, 8),
  .inl (0, 8),
  .inl (0, 8),
  .inl (0, 8),
  .inl (0, 8),
  .inl (0, 8),
  .inl (0, 8),
  .inl (0, 8),
  .inr (9, [(2, 99), (2, 100), (2, 101), (2, 102), (2, 103), (2, 104), (2, 105), (2, 106), (2, 107), (2, 108), (0, 10), (0, 11), (0, 12), (0, 13), (0, 14), (0, 15), (0, 16)]),
  .inl (0, 8),
  .inl (0, 8),
  .inl (0, 8),
  .inl (0, 8),
  .inl (0, 8),
  .inl (0, 8),
  .inl (0, 8),
  .inl (0, 8),
  .inl (0, 8),
  .inl (0, 8),
  .inr (9, [(2, 110), (2, 111), (2, 112), (2, 113), (2, 114), (2, 115), (2, 116), (2, 117), (2, 118), (2, 119), (0, 10), (0, 11), (0, 12), (0, 13), (0, 14), (0, 15), (0, 16)]),
  .inl (0, 8),
  .inl (0, 8),
  .inl (0, 8),
  .inl (0, 8),
  .inl (0, 8),
  .inl (0, 8),
  .inl (0, 8),
  .inl (0, 8),
  .inl (0, 8),
  .inl (0, 8),
  .inr (9, [(2, 121), (2, 122), (2, 123), (2, 124), (2, 125), (2, 126), (2, 127), (2, 128), (2, 129), (2, 130), (0, 10), (0, 11), (0, 12), (0, 13), (0, 14), (0, 15), (0, 16)]),
  .inl (0, 8),
  .inl (0, 8),
  .inl (0, 8),
  .inl (0, 8),
  .inl (0, 8),
  .inl (0, 8),
  .inl (0, 8),
  .inl (0, 8),
  .inl (0, 8),
  .inl (0, 8),
  .inr (9, [(2, 132), (2, 133), (2, 134), (2, 135), (2, 136), (2, 137), (2, 138), (2, 139), (2, 140), (2, 141), (0, 10), (0, 11), (0, 12), (0, 13), (0, 14), (0, 15), (0, 16)]),
  .inl (0, 8),
  .inl (0, 8),
  .inl (0, 8),
  .inl (0, 8),
  .inl (0, 8),
  .inl (0, 8),
  .inl (0, 8),
  .inl (0, 8),
  .inl (0, 8),
  .inl (0, 8),
  .inr (9, [(2, 143), (2, 144), (2, 145), (2, 146), (2, 147), (2, 148), (2, 149), (2, 150), (2, 151), (2, 152), (0, 10), (0, 11), (0, 12), (0, 13), (0, 14), (0, 15), (0, 16)]),
  .inl (0, 8),
  .inl (0, 8),
  .inl (0, 8),
  .inl (0, 8),
  .inl (0, 8),
  .inl (0, 8),
  .inl (0, 8),
  .inl (0, 8),
  .inl (0, 8),
  .inl (0, 8),
  .inr (9, [(2, 154), (2, 155), (2, 156), (2, 157), (2, 158), (2, 159), (2, 160), (2, 161), (2, 162), (2, 163), (0, 10), (0, 11), (0, 12), (0, 13), (0, 14), (0, 15), (0, 16)]),
  .inl (0, 8),
  .inl (0, 8),
  .inl (0, 8),
  .inl (0, 8),
  .inl (0, 8),
  .inl (0, 8),
  .inl (0, 8),
  .inl (0, 8),
  .inl (0, 8),
  .inl (0, 8),
  .inr (9, [(2, 165), (2, 166), (2, 167), (2, 168), (2, 169), (2, 170), (2, 171), (2, 172), (2, 173), (2, 174), (0, 10), (0, 11), (0, 12), (0, 13), (0, 14), (0, 15), (0, 16)]),
  .inl (0, 8),
  .inl (0, 8),
  .inl (0, 8),
  .inl (0, 8),
  .inl (0, 8),
  .inl (0, 8),
  .inl (0, 8),
  .inl (0, 8),
  .inl (0, 8),
  .inl (0, 8),
  .inr (9, [(2, 176), (2, 177), (2, 178), (2, 179), (2, 180), (2, 181), (2, 182), (2, 183), (2, 184), (2, 185), (0, 10), (0, 11), (0, 12), (0, 13), (0, 14), (0, 15), (0, 16)]),
  .inl (0, 8),
  .inl (0, 8),
  .inl (0, 8),
  .inl (0, 8),
  .inl (0, 8),
  .inl (0, 8),
  .inl (0, 8),
  .inl (0, 8),
  .inl (0, 8),
  .inl (0, 8),
  .inr (9, [(2, 187), (2, 188), (2, 189), (2, 190), (2, 191), (2, 192), (2, 193), (2, 194), (2, 195), (2, 196), (0, 10), (0, 11), (0, 12), (0, 13), (0, 14), (0, 15), (0, 16)]),
  .inl (0, 8),
  .inl (0, 8),
  .inl (0, 8),
  .inl (0, 8),
  .inl (0, 8),
  .inl (0, 8),
  .inl (0, 8),
  .inl (0, 8),
  .inl (0, 8),
  .inl (0, 8),
  .inr (9, [(2, 198), (2, 199), (2, 200), (2, 201), (2, 202), (2, 203), (2, 204), (2, 205), (2, 206), (2, 207), (0, 10), (0, 11), (0, 12), (0, 13), (0, 14), (0, 15), (0, 16)]),
  .inl (0, 8),
  .inl (0, 8),
  .inl (0, 8),
  .inl (0, 8),
  .inl (0, 8),
  .inl (0, 8),
  .inl (0, 8),
  .inl (0, 8),
  .inl (0, 8),
  .inl (0, 8),
  .inr (9, [(2, 209), (2, 210), (2, 211), (2, 212), (2, 213), (2, 214), (2, 215), (2, 216), (2, 217), (2, 218), (0, 10), (0, 11), (0, 12), (0, 13), (0, 14), (0, 15), (0, 16)]),
  .inl (0, 8),
  .inl (0, 8),
  .inl (0, 8),
  .inl (0, 8),
  .inl (0, 8),
  .inl (0, 8),
  .inl (0, 8),
  .inl (0, 8),
  .inl (0, 8),
  .inl (0, 8),
  .inr (11, [(2, 220), (2, 221), (0, 2), (2, 222), (0, 4), (0, 5), (3, 6), (3, 7), (0, 8), (1, 9), (1, 10), (2, 223), (3, 12), (0, 13), (0, 14), (0, 15), (0, 16), (2, 224), (2, 225), (0, 19), (2, 226), (2, 227), (0, 22), (0, 23), (0, 24), (2, 228), (2, 229), (2, 230), (0, 28), (2, 231), (2, 232), (2, 233), (2, 234), (2, 235), (2, 236), (2, 237), (0, 36), (2, 238), (2, 239), (0, 39), (2, 240), (2, 241), (0, 42), (0, 43), (2, 242), (2, 243)]),
  .inl (0, 43),
  .inl (2, 80),
  .inl (1, 16),
  .inl (0, 8),
  .inl (0, 24),
  .inl (0, 516),
  .inl (0, 43),
  .inl (0, 43),
  .inl (0, 160),
  .inl (0, 64),
  .inl (0, 192),
  .inl (0, 64),
  .inl (0, 8),
  .inl (3, 64),
  .inl (3, 8),
  .inl (3, 8),
  .inl (0, 12),
  .inl (0, 12),
  .inl (0, 10),
  .inl (0, 10),
  .inl (0, 151),
  .inl (3, 201),
  .inl (0, 86),
  .inl (3, 2),
  .inl (2, 5),
  .inl (2, 5),
  .inl (1, 1),
  .inl (6, 5),
  .inl (6, 5)]
def fm_sh (a : Nat) : fm_Sh := fm_list.getD a (.inr (99, []))
def fm_fld (S : fm_S) (a : Nat) (q : Nat × Nat) : Value := match q.1 with
  | 0 => .int (S.1 a q.2)
  | 1 => .long (S.2.1 a q.2)
  | 2 => .ref q.2
  | _ => va_rf (S.2.2 a q.2)
def fm_arr (S : fm_S) (a t n : Nat) : mj_C := match t with
  | 1 => .inl (1, n, .inr (.inl (S.2.1 a)))
  | 5 => .inl (5, n, .inr (.inr (.inr (.inr (S.2.2 a)))))
  | _ => .inl (t, n, .inl (S.1 a))
def fm_mk (S : fm_S) : mj_H := fun a => match fm_sh a with
  | .inl (t, n) => fm_arr S a t n
  | .inr (ci, fs) => .inr (ci, fs.map (fm_fld S a))
def fm_u (M : Nat → Nat → Int32) (a i : Nat) (x : Int32) : Nat → Nat → Int32 := fun a' => if a' = a then upd (M a) i x else M a'
def fm_ul (M : Nat → Nat → Int64) (a i : Nat) (x : Int64) : Nat → Nat → Int64 := fun a' => if a' = a then vp_updL (M a) i x else M a'
def fm_row (M : Nat → Nat → Int32) (a : Nat) (f : Nat → Int32) : Nat → Nat → Int32 := fun a' => if a' = a then f else M a'
def fm_ur (M : Nat → Nat → Option Nat) (a i : Nat) (x : Option Nat) : Nat → Nat → Option Nat := fun a' i' => if a' = a ∧ i' = i then x else M a' i'
theorem upd_same (f : Nat → Int32) (k : Nat) (x : Int32) : upd f k x k = x := by simp [upd]
theorem upd_ne {f : Nat → Int32} {k i : Nat} {x : Int32} (h : ¬ i = k) : upd f k x i = f i := by simp [upd, h]
theorem fm_u_row {M : Nat → Nat → Int32} {a i : Nat} {x : Int32} : fm_u M a i x a = upd (M a) i x := by simp [fm_u]
theorem fm_u_off {M : Nat → Nat → Int32} {a i b : Nat} {x : Int32} (h : ¬ b = a) : fm_u M a i x b = M b := by simp [fm_u, h]
theorem fm_row_row {M : Nat → Nat → Int32} {a : Nat} {f : Nat → Int32} : fm_row M a f a = f := by simp [fm_row]
theorem fm_row_off {M : Nat → Nat → Int32} {a b : Nat} {f : Nat → Int32} (h : ¬ b = a) : fm_row M a f b = M b := by simp [fm_row, h]
theorem fm_ul_row {M : Nat → Nat → Int64} {a i : Nat} {x : Int64} : fm_ul M a i x a = vp_updL (M a) i x := by simp [fm_ul]
theorem fm_ul_off {M : Nat → Nat → Int64} {a i b : Nat} {x : Int64} (h : ¬ b = a) : fm_ul M a i x b = M b := by simp [fm_ul, h]
theorem fm_a {S : fm_S} {a t n : Nat} (h : fm_sh a = .inl (t, n)) : fm_mk S a = fm_arr S a t n := by simp [fm_mk, h]
theorem fm_o {S : fm_S} {a ci : Nat} {fs : List (Nat × Nat)} (h : fm_sh a = .inr (ci, fs)) : fm_mk S a = .inr (ci, fs.map (fm_fld S a)) := by simp [fm_mk, h]
theorem fm_up_arr {S : fm_S} {a t n i : Nat} {x : Int32} (h : fm_sh a = .inl (t, n)) (ht : t = 0 ∨ t = 2 ∨ t = 3 ∨ t = 4) : mj_up (fm_mk S) a (.inl (t, n, .inl (upd (S.1 a) i x))) = fm_mk (fm_u S.1 a i x, S.2) := by
  funext b
  by_cases e : b = a
  · subst e
    simp only [mj_up, if_true, fm_a h]
    rcases ht with rfl | rfl | rfl | rfl <;> simp [fm_arr, fm_u]
  · simp only [mj_up, if_neg e, fm_mk]
    cases fm_sh b with
    | inl q =>
      simp only [fm_arr, fm_u_off e]
    | inr q =>
      have e9 : fm_fld S b = fm_fld (fm_u S.1 a i x, S.2) b := by funext p; simp only [fm_fld, fm_u_off e]
      simp only [e9]
theorem fm_up_row {S : fm_S} {a n : Nat} {f : Nat → Int32} (h : fm_sh a = .inl (0, n)) : mj_up (fm_mk S) a (.inl (0, n, .inl f)) = fm_mk (fm_row S.1 a f, S.2) := by
  funext b
  by_cases e : b = a
  · subst e
    simp only [mj_up, if_true, fm_a h]
    simp [fm_arr, fm_row]
  · simp only [mj_up, if_neg e, fm_mk]
    cases fm_sh b with
    | inl q =>
      simp only [fm_arr, fm_row_off e]
    | inr q =>
      have e9 : fm_fld S b = fm_fld (fm_row S.1 a f, S.2) b := by funext p; simp only [fm_fld, fm_row_off e]
      simp only [e9]
theorem fm_up_arl {S : fm_S} {a n i : Nat} {x : Int64} (h : fm_sh a = .inl (1, n)) : mj_up (fm_mk S) a (.inl (1, n, .inr (.inl (vp_updL (S.2.1 a) i x)))) = fm_mk (S.1, fm_ul S.2.1 a i x, S.2.2) := by
  funext b
  by_cases e : b = a
  · subst e
    simp only [mj_up, if_true, fm_a h]
    simp [fm_arr, fm_ul]
  · simp only [mj_up, if_neg e, fm_mk]
    cases fm_sh b with
    | inl q =>
      simp only [fm_arr, fm_ul_off e]
    | inr q =>
      have e9 : fm_fld S b = fm_fld (S.1, fm_ul S.2.1 a i x, S.2.2) b := by funext p; simp only [fm_fld, fm_ul_off e]
      simp only [e9]
theorem fm_ok (a : Nat) (ci : Nat) (fs : List (Nat × Nat)) (k j : Nat) (h : fm_sh a = .inr (ci, fs)) (hk : fs[k]? = some (0, j) ∨ fs[k]? = some (1, j) ∨ fs[k]? = some (3, j)) : j = k := by
  have hd : fm_list.all (fun q => match q with
      | .inl _ => true
      | .inr (_, fs) => fs.zipIdx.all (fun p => p.1.1 == 2 || p.1.2 == p.2)) = true := by decide +kernel
  unfold fm_sh at h
  rw [List.getD_eq_getElem?_getD] at h
  cases hz : fm_list[a]? with
  | none => rw [hz] at h; simp at h; rw [h.2] at hk; simp at hk
  | some q =>
    rw [hz] at h
    simp only [Option.getD_some] at h
    have h1 := List.all_eq_true.mp hd q (List.mem_of_getElem? hz)
    rw [h] at h1
    dsimp only at h1
    rw [List.all_eq_true] at h1
    have key : ∀ c, fs[k]? = some (c, j) → c = 2 ∨ j = k := by
      intro c hc
      have := h1 ((c, j), k) (by
        rw [List.mem_iff_getElem?]
        exact ⟨k, by rw [List.getElem?_zipIdx, hc]; simp⟩)
      simpa using this
    rcases hk with hk | hk | hk
    · exact (key 0 hk).resolve_left (by decide)
    · exact (key 1 hk).resolve_left (by decide)
    · exact (key 3 hk).resolve_left (by decide)
theorem fm_map_set {f g : Nat × Nat → Value} : ∀ (fs : List (Nat × Nat)) (k : Nat) (q : Nat × Nat) (v : Value), fs[k]? = some q → (∀ j p, fs[j]? = some p → j ≠ k → f p = g p) → g q = v → (fs.map f).set k v = fs.map g := by
  intro fs k q v hq h1 h2
  apply List.ext_getElem?
  intro j
  rw [List.getElem?_set]
  by_cases e : k = j
  · subst e
    rw [if_pos rfl, List.getElem?_map, hq]
    have : k < (fs.map f).length := by rw [List.length_map]; exact (List.getElem?_eq_some_iff.mp hq).1
    simp [this, h2]
    exact (List.getElem?_eq_some_iff.mp hq).1
  · rw [if_neg e, List.getElem?_map, List.getElem?_map]
    cases hz : fs[j]? with
    | none => rfl
    | some p => simp [h1 j p hz (fun q => e q.symm)]
theorem fm_up_fI {S : fm_S} {a ci k : Nat} {fs : List (Nat × Nat)} {x : Int32} (h : fm_sh a = .inr (ci, fs)) (hk : fs[k]? = some (0, k)) : mj_up (fm_mk S) a (.inr (ci, (fs.map (fm_fld S a)).set k (.int x))) = fm_mk (fm_u S.1 a k x, S.2) := by
  funext b
  by_cases e : b = a
  · subst e
    simp only [mj_up, if_true, fm_o h]
    rw [fm_map_set (g := fm_fld (fm_u S.1 b k x, S.2) b) fs k (0, k) (.int x) hk ?_ (by simp [fm_fld, fm_u, upd])]
    intro j p hj hne
    obtain ⟨c, y⟩ := p
    simp only [fm_fld, fm_u_row]
    match c, hj with
    | 0, hj =>
      have := fm_ok b ci fs j y h (Or.inl hj)
      subst this
      simp [upd, hne]
    | 1, hj => rfl
    | 2, hj => rfl
    | c + 3, hj => rfl
  · simp only [mj_up, if_neg e, fm_mk]
    cases fm_sh b with
    | inl q => simp only [fm_arr, fm_u_off e]
    | inr q =>
      have e9 : fm_fld S b = fm_fld (fm_u S.1 a k x, S.2) b := by funext p; simp only [fm_fld, fm_u_off e]
      simp only [e9]
theorem fm_up_fL {S : fm_S} {a ci k : Nat} {fs : List (Nat × Nat)} {x : Int64} (h : fm_sh a = .inr (ci, fs)) (hk : fs[k]? = some (1, k)) : mj_up (fm_mk S) a (.inr (ci, (fs.map (fm_fld S a)).set k (.long x))) = fm_mk (S.1, fm_ul S.2.1 a k x, S.2.2) := by
  funext b
  by_cases e : b = a
  · subst e
    simp only [mj_up, if_true, fm_o h]
    rw [fm_map_set (g := fm_fld (S.1, fm_ul S.2.1 b k x, S.2.2) b) fs k (1, k) (.long x) hk ?_ (by simp [fm_fld, fm_ul, vp_updL])]
    intro j p hj hne
    obtain ⟨c, y⟩ := p
    simp only [fm_fld, fm_ul_row]
    match c, hj with
    | 0, hj => rfl
    | 1, hj =>
      have := fm_ok b ci fs j y h (Or.inr (Or.inl hj))
      subst this
      simp [vp_updL, hne]
    | 2, hj => rfl
    | c + 3, hj => rfl
  · simp only [mj_up, if_neg e, fm_mk]
    cases fm_sh b with
    | inl q => simp only [fm_arr, fm_ul_off e]
    | inr q =>
      have e9 : fm_fld S b = fm_fld (S.1, fm_ul S.2.1 a k x, S.2.2) b := by funext p; simp only [fm_fld, fm_ul_off e]
      simp only [e9]
theorem fm_up_fR {S : fm_S} {a ci k : Nat} {fs : List (Nat × Nat)} {x : Nat} (h : fm_sh a = .inr (ci, fs)) (hk : fs[k]? = some (3, k)) : mj_up (fm_mk S) a (.inr (ci, (fs.map (fm_fld S a)).set k (.ref x))) = fm_mk (S.1, S.2.1, fm_ur S.2.2 a k (some x)) := by
  funext b
  by_cases e : b = a
  · subst e
    simp only [mj_up, if_true, fm_o h]
    rw [fm_map_set (g := fm_fld (S.1, S.2.1, fm_ur S.2.2 b k (some x)) b) fs k (3, k) (.ref x) hk ?_ (by simp [fm_fld, fm_ur, va_rf])]
    intro j p hj hne
    obtain ⟨c, y⟩ := p
    simp only [fm_fld]
    match c, hj with
    | 0, hj => rfl
    | 1, hj => rfl
    | 2, hj => rfl
    | 3, hj =>
      have := fm_ok b ci fs j y h (Or.inr (Or.inr hj))
      subst this
      simp [fm_ur, hne]
    | c + 4, hj =>
      exfalso
      have hd : fm_list.all (fun q => match q with
          | .inl _ => true
          | .inr (_, fs) => fs.all (fun p => Nat.ble p.1 3)) = true := by decide +kernel
      unfold fm_sh at h
      rw [List.getD_eq_getElem?_getD] at h
      cases hz : fm_list[b]? with
      | none => rw [hz] at h; simp at h; rw [h.2] at hj; simp at hj
      | some q =>
        rw [hz] at h
        simp only [Option.getD_some] at h
        have h1 := List.all_eq_true.mp hd q (List.mem_of_getElem? hz)
        rw [h] at h1
        dsimp only at h1
        have h2 := Nat.le_of_ble_eq_true (List.all_eq_true.mp h1 _ (List.mem_of_getElem? hj))
        dsimp only at h2
        omega
  · simp only [mj_up, if_neg e, fm_mk]
    cases fm_sh b with
    | inl q =>
      simp only [fm_arr]
      have e9 : fm_ur S.2.2 a k (some x) b = S.2.2 b := by funext i; simp [fm_ur, e]
      rw [e9]
    | inr q =>
      have e9 : fm_ur S.2.2 a k (some x) b = S.2.2 b := by funext i; simp [fm_ur, e]
      have e8 : fm_fld S b = fm_fld (S.1, S.2.1, fm_ur S.2.2 a k (some x)) b := by funext p; simp only [fm_fld, e9]
      simp only [e8]
section fmRules
variable {d : Nat} {ty : Option FieldType} {cs : List mj_E} {Q : Option Value → mj_H → Prop} {S : fm_S} {pc : Nat} {L : mj_L} {ix nx aux a ci k n : Nat} {fs : List (Nat × Nat)} {cv : Int32} {r : List Value}
theorem fm_gI (hs : fm_sh a = .inr (ci, fs)) (h1 : mj_at cs pc = some (.getfield ix, nx, aux, cv)) (hc : aux / 64 = ci) (hk : fs[aux % 64]? = some (0, k)) (kk : mj_Rn d ty cs Q (fm_mk S) nx L (.int (S.1 a k) :: r)) : mj_Rn d ty cs Q (fm_mk S) pc L (.ref a :: r) :=
  mj_get (fm_o hs) h1 hc rfl (by rw [List.getElem?_map, hk]; rfl) kk
theorem fm_gL (hs : fm_sh a = .inr (ci, fs)) (h1 : mj_at cs pc = some (.getfield ix, nx, aux, cv)) (hc : aux / 64 = ci) (hk : fs[aux % 64]? = some (1, k)) (kk : mj_Rn d ty cs Q (fm_mk S) nx L (.long (S.2.1 a k) :: r)) : mj_Rn d ty cs Q (fm_mk S) pc L (.ref a :: r) :=
  mj_get (fm_o hs) h1 hc rfl (by rw [List.getElem?_map, hk]; rfl) kk
theorem fm_gR (hs : fm_sh a = .inr (ci, fs)) (h1 : mj_at cs pc = some (.getfield ix, nx, aux, cv)) (hc : aux / 64 = ci) (hk : fs[aux % 64]? = some (2, k)) (kk : mj_Rn d ty cs Q (fm_mk S) nx L (.ref k :: r)) : mj_Rn d ty cs Q (fm_mk S) pc L (.ref a :: r) :=
  mj_get (fm_o hs) h1 hc rfl (by rw [List.getElem?_map, hk]; rfl) kk
theorem fm_gM {b : Nat} (hs : fm_sh a = .inr (ci, fs)) (h1 : mj_at cs pc = some (.getfield ix, nx, aux, cv)) (hc : aux / 64 = ci) (hk : fs[aux % 64]? = some (3, k)) (hb : S.2.2 a k = some b) (kk : mj_Rn d ty cs Q (fm_mk S) nx L (.ref b :: r)) : mj_Rn d ty cs Q (fm_mk S) pc L (.ref a :: r) :=
  mj_get (fm_o hs) h1 hc rfl (by rw [List.getElem?_map, hk]; simp [fm_fld, hb, va_rf]) kk
theorem fm_pI {x : Int32} (hs : fm_sh a = .inr (ci, fs)) (h1 : mj_at cs pc = some (.putfield ix, nx, aux, cv)) (hc : aux / 64 = ci) (hk : fs[aux % 64]? = some (0, k)) (hf : mj_fit (mj_fty ci (aux % 64)) (.int x) = true) (kk : mj_Rn d ty cs Q (fm_mk (fm_u S.1 a k x, S.2)) nx L r) : mj_Rn d ty cs Q (fm_mk S) pc L (.int x :: .ref a :: r) := by
  have hk2 := fm_ok a ci fs _ _ hs (Or.inl hk)
  refine mj_put (fm_o hs) h1 hc rfl (Nat.ble_eq_true_of_le (by rw [List.length_map]; exact (List.getElem?_eq_some_iff.mp hk).1)) hf ?_
  rw [← hk2] at hk ⊢
  rw [fm_up_fI hs hk]
  exact kk
theorem fm_pL {x : Int64} (hs : fm_sh a = .inr (ci, fs)) (h1 : mj_at cs pc = some (.putfield ix, nx, aux, cv)) (hc : aux / 64 = ci) (hk : fs[aux % 64]? = some (1, k)) (hf : mj_fit (mj_fty ci (aux % 64)) (.long x) = true) (kk : mj_Rn d ty cs Q (fm_mk (S.1, fm_ul S.2.1 a k x, S.2.2)) nx L r) : mj_Rn d ty cs Q (fm_mk S) pc L (.long x :: .ref a :: r) := by
  have hk2 := fm_ok a ci fs _ _ hs (Or.inr (Or.inl hk))
  refine mj_put (fm_o hs) h1 hc rfl (Nat.ble_eq_true_of_le (by rw [List.length_map]; exact (List.getElem?_eq_some_iff.mp hk).1)) hf ?_
  rw [← hk2] at hk ⊢
  rw [fm_up_fL hs hk]
  exact kk
theorem fm_pM {x : Nat} (hs : fm_sh a = .inr (ci, fs)) (h1 : mj_at cs pc = some (.putfield ix, nx, aux, cv)) (hc : aux / 64 = ci) (hk : fs[aux % 64]? = some (3, k)) (hf : mj_fit (mj_fty ci (aux % 64)) (.ref x) = true) (kk : mj_Rn d ty cs Q (fm_mk (S.1, S.2.1, fm_ur S.2.2 a k (some x))) nx L r) : mj_Rn d ty cs Q (fm_mk S) pc L (.ref x :: .ref a :: r) := by
  have hk2 := fm_ok a ci fs _ _ hs (Or.inr (Or.inr hk))
  refine mj_put (fm_o hs) h1 hc rfl (Nat.ble_eq_true_of_le (by rw [List.length_map]; exact (List.getElem?_eq_some_iff.mp hk).1)) hf ?_
  rw [← hk2] at hk ⊢
  rw [fm_up_fR hs hk]
  exact kk
theorem fm_ld {j : Int32} (hs : fm_sh a = .inl (0, n)) (h1 : mj_at cs pc = some (.iaload, nx, aux, cv)) (hj : vp_in j n) (kk : mj_Rn d ty cs Q (fm_mk S) nx L (.int (S.1 a j.toNatClampNeg) :: r)) : mj_Rn d ty cs Q (fm_mk S) pc L (.int j :: .ref a :: r) :=
  mj_iald (fm_a hs) hj h1 kk
theorem fm_ldc {j : Int32} (hs : fm_sh a = .inl (4, n)) (h1 : mj_at cs pc = some (.caload, nx, aux, cv)) (hj : vp_in j n) (kk : mj_Rn d ty cs Q (fm_mk S) nx L (.int (S.1 a j.toNatClampNeg) :: r)) : mj_Rn d ty cs Q (fm_mk S) pc L (.int j :: .ref a :: r) :=
  mj_cald (fm_a hs) hj h1 kk
theorem fm_ldb {j : Int32} (hs : fm_sh a = .inl (2, n)) (h1 : mj_at cs pc = some (.baload, nx, aux, cv)) (hj : vp_in j n) (kk : mj_Rn d ty cs Q (fm_mk S) nx L (.int (S.1 a j.toNatClampNeg) :: r)) : mj_Rn d ty cs Q (fm_mk S) pc L (.int j :: .ref a :: r) :=
  mj_bald (Or.inl (fm_a hs)) hj h1 kk
theorem fm_ldz {j : Int32} (hs : fm_sh a = .inl (3, n)) (h1 : mj_at cs pc = some (.baload, nx, aux, cv)) (hj : vp_in j n) (kk : mj_Rn d ty cs Q (fm_mk S) nx L (.int (S.1 a j.toNatClampNeg) :: r)) : mj_Rn d ty cs Q (fm_mk S) pc L (.int j :: .ref a :: r) :=
  mj_bald (Or.inr (fm_a hs)) hj h1 kk
theorem fm_ldl {j : Int32} (hs : fm_sh a = .inl (1, n)) (h1 : mj_at cs pc = some (.laload, nx, aux, cv)) (hj : vp_in j n) (kk : mj_Rn d ty cs Q (fm_mk S) nx L (.long (S.2.1 a j.toNatClampNeg) :: r)) : mj_Rn d ty cs Q (fm_mk S) pc L (.int j :: .ref a :: r) :=
  mj_lald (fm_a hs) hj h1 kk
theorem fm_lda {j : Int32} {b : Nat} (hs : fm_sh a = .inl (5, n)) (h1 : mj_at cs pc = some (.aaload, nx, aux, cv)) (hj : vp_in j n) (hb : S.2.2 a j.toNatClampNeg = some b) (kk : mj_Rn d ty cs Q (fm_mk S) nx L (.ref b :: r)) : mj_Rn d ty cs Q (fm_mk S) pc L (.int j :: .ref a :: r) :=
  mj_aald (fm_a hs) hj hb h1 kk
theorem fm_st {j x : Int32} (hs : fm_sh a = .inl (0, n)) (h1 : mj_at cs pc = some (.iastore, nx, aux, cv)) (hj : vp_in j n) (kk : mj_Rn d ty cs Q (fm_mk (fm_u S.1 a j.toNatClampNeg x, S.2)) nx L r) : mj_Rn d ty cs Q (fm_mk S) pc L (.int x :: .int j :: .ref a :: r) := by
  refine mj_iast (fm_a hs) hj h1 ?_
  rw [fm_up_arr hs (Or.inl rfl)]
  exact kk
theorem fm_stb {j x : Int32} (hs : fm_sh a = .inl (2, n)) (h1 : mj_at cs pc = some (.bastore, nx, aux, cv)) (hj : vp_in j n) (kk : mj_Rn d ty cs Q (fm_mk (fm_u S.1 a j.toNatClampNeg (vp_nar .byte x), S.2)) nx L r) : mj_Rn d ty cs Q (fm_mk S) pc L (.int x :: .int j :: .ref a :: r) := by
  refine mj_bast (fm_a hs) hj h1 ?_
  rw [fm_up_arr hs (Or.inr (Or.inl rfl))]
  exact kk
theorem fm_stz {j x : Int32} (hs : fm_sh a = .inl (3, n)) (h1 : mj_at cs pc = some (.bastore, nx, aux, cv)) (hj : vp_in j n) (kk : mj_Rn d ty cs Q (fm_mk (fm_u S.1 a j.toNatClampNeg (vp_nar .boolean x), S.2)) nx L r) : mj_Rn d ty cs Q (fm_mk S) pc L (.int x :: .int j :: .ref a :: r) := by
  refine mj_zast (fm_a hs) hj h1 ?_
  rw [fm_up_arr hs (Or.inr (Or.inr (Or.inl rfl)))]
  exact kk
theorem fm_stc {j x : Int32} (hs : fm_sh a = .inl (4, n)) (h1 : mj_at cs pc = some (.castore, nx, aux, cv)) (hj : vp_in j n) (kk : mj_Rn d ty cs Q (fm_mk (fm_u S.1 a j.toNatClampNeg (vp_nar .char x), S.2)) nx L r) : mj_Rn d ty cs Q (fm_mk S) pc L (.int x :: .int j :: .ref a :: r) := by
  refine mj_cast (fm_a hs) hj h1 ?_
  rw [fm_up_arr hs (Or.inr (Or.inr (Or.inr rfl)))]
  exact kk
theorem fm_stl {j : Int32} {x : Int64} (hs : fm_sh a = .inl (1, n)) (h1 : mj_at cs pc = some (.lastore, nx, aux, cv)) (hj : vp_in j n) (kk : mj_Rn d ty cs Q (fm_mk (S.1, fm_ul S.2.1 a j.toNatClampNeg x, S.2.2)) nx L r) : mj_Rn d ty cs Q (fm_mk S) pc L (.long x :: .int j :: .ref a :: r) := by
  refine mj_last (fm_a hs) hj h1 ?_
  rw [fm_up_arl hs]
  exact kk
theorem fm_len (hs : fm_sh a = .inl (0, n)) (h1 : mj_at cs pc = some (.arraylength, nx, aux, cv)) (kk : mj_Rn d ty cs Q (fm_mk S) nx L (.int (Int32.ofNat n) :: r)) : mj_Rn d ty cs Q (fm_mk S) pc L (.ref a :: r) :=
  mj_alen (fm_a hs) rfl h1 kk
theorem fm_lenl (hs : fm_sh a = .inl (1, n)) (h1 : mj_at cs pc = some (.arraylength, nx, aux, cv)) (kk : mj_Rn d ty cs Q (fm_mk S) nx L (.int (Int32.ofNat n) :: r)) : mj_Rn d ty cs Q (fm_mk S) pc L (.ref a :: r) :=
  mj_alen (fm_a hs) rfl h1 kk
theorem fm_cpy {a0 : Nat} (h0 : fm_sh a0 = .inl (0, n)) (hs : fm_sh a = .inl (0, n)) (hk : (nI k).toNatClampNeg = k ∧ ¬ nI k < 0 ∧ k ≤ n) (hr : Nat.ble (r.map fun v => v.category).sum 8 = true) (h1 : mj_at cs pc = some (.invokestatic ix, nx, 9999, cv)) (kk : mj_Rn d ty cs Q (fm_mk (fm_row S.1 a (va_cpy (S.1 a0) (S.1 a) 0 0 k), S.2)) nx L r) : mj_Rn d ty cs Q (fm_mk S) pc L (.int (nI k) :: .int 0 :: .ref a :: .int 0 :: .ref a0 :: r) := by
  refine mj_copy (fm_a h0) (fm_a hs) hr hk.2.1 (by rw [hk.1]; exact Nat.ble_eq_true_of_le hk.2.2) (by rw [hk.1]; exact Nat.ble_eq_true_of_le hk.2.2) h1 ?_
  rw [hk.1, fm_up_row hs]
  exact kk
end fmRules
/-- a World at b -/
def fm_W (b : Nat) : Prop := fm_sh b = .inr (9, [(2, b + 1), (2, b + 2), (2, b + 3), (2, b + 4), (2, b + 5), (2, b + 6), (2, b + 7), (2, b + 8), (2, b + 9), (2, b + 10), (0, 10), (0, 11), (0, 12), (0, 13), (0, 14), (0, 15), (0, 16)]) ∧ fm_sh (b + 1) = .inl (0, 8) ∧ fm_sh (b + 2) = .inl (0, 8) ∧ fm_sh (b + 3) = .inl (0, 8) ∧ fm_sh (b + 4) = .inl (0, 8) ∧ fm_sh (b + 5) = .inl (0, 8) ∧ fm_sh (b + 6) = .inl (0, 8) ∧ fm_sh (b + 7) = .inl (0, 8) ∧ fm_sh (b + 8) = .inl (0, 8) ∧ fm_sh (b + 9) = .inl (0, 8) ∧ fm_sh (b + 10) = .inl (0, 8)
/-- Ties at t -/
def fm_T (t : Nat) : Prop := fm_sh t = .inr (8, [(2, t + 1), (0, 1)]) ∧ fm_sh (t + 1) = .inl (0, 5)
theorem fm_W1 : fm_W 1 := ⟨by decide +kernel, by decide +kernel, by decide +kernel, by decide +kernel, by decide +kernel, by decide +kernel, by decide +kernel, by decide +kernel, by decide +kernel, by decide +kernel, by decide +kernel⟩
theorem fm_W12 : fm_W 12 := ⟨by decide +kernel, by decide +kernel, by decide +kernel, by decide +kernel, by decide +kernel, by decide +kernel, by decide +kernel, by decide +kernel, by decide +kernel, by decide +kernel, by decide +kernel⟩
theorem fm_W23 : fm_W 23 := ⟨by decide +kernel, by decide +kernel, by decide +kernel, by decide +kernel, by decide +kernel, by decide +kernel, by decide +kernel, by decide +kernel, by decide +kernel, by decide +kernel, by decide +kernel⟩
theorem fm_W65a : ∀ k, k < 14 → fm_sh (65 + 11 * k) = .inr (9, [(2, 65 + 11 * k + 1), (2, 65 + 11 * k + 2), (2, 65 + 11 * k + 3), (2, 65 + 11 * k + 4), (2, 65 + 11 * k + 5), (2, 65 + 11 * k + 6), (2, 65 + 11 * k + 7), (2, 65 + 11 * k + 8), (2, 65 + 11 * k + 9), (2, 65 + 11 * k + 10), (0, 10), (0, 11), (0, 12), (0, 13), (0, 14), (0, 15), (0, 16)]) := by decide +kernel
theorem fm_W65c : (List.range 10).all (fun j => (List.range 14).all (fun k => decide (fm_sh (65 + 11 * k + (j + 1)) = .inl (0, 8)))) = true := by decide +kernel
theorem fm_W65b (j : Nat) (hj : j < 10) (k : Nat) (hk : k < 14) : fm_sh (65 + 11 * k + (j + 1)) = .inl (0, 8) := of_decide_eq_true (List.all_eq_true.mp (List.all_eq_true.mp fm_W65c j (List.mem_range.mpr hj)) k (List.mem_range.mpr hk))
theorem fm_W65 : ∀ k, k < 14 → fm_W (65 + 11 * k) := fun k hk => ⟨fm_W65a k hk, fm_W65b 0 (by decide) k hk, fm_W65b 1 (by decide) k hk, fm_W65b 2 (by decide) k hk, fm_W65b 3 (by decide) k hk, fm_W65b 4 (by decide) k hk, fm_W65b 5 (by decide) k hk, fm_W65b 6 (by decide) k hk, fm_W65b 7 (by decide) k hk, fm_W65b 8 (by decide) k hk, fm_W65b 9 (by decide) k hk⟩
theorem fm_T40 : fm_T 40 := by unfold fm_T; decide +kernel
theorem fm_T42 : fm_T 42 := by unfold fm_T; decide +kernel
theorem fm_s0 : fm_sh 0 = .inr (10, [(2, 1), (2, 12), (2, 23), (2, 34), (2, 38), (2, 40), (2, 42), (2, 44), (2, 46), (2, 49), (2, 53), (2, 54), (2, 61), (2, 62)]) := by decide +kernel
theorem fm_s34 : fm_sh 34 = .inr (3, [(2, 35), (0, 1), (0, 2), (2, 36), (2, 37)]) := by decide +kernel
theorem fm_s35 : fm_sh 35 = .inl (5, 12) := by decide +kernel
theorem fm_s36 : fm_sh 36 = .inl (5, 2) := by decide +kernel
theorem fm_s37 : fm_sh 37 = .inl (3, 2) := by decide +kernel
theorem fm_s38 : fm_sh 38 = .inr (5, [(2, 39), (0, 1), (0, 2), (0, 3)]) := by decide +kernel
theorem fm_s39 : fm_sh 39 = .inl (4, 80) := by decide +kernel
theorem fm_s40 : fm_sh 40 = .inr (8, [(2, 41), (0, 1)]) := by decide +kernel
theorem fm_s41 : fm_sh 41 = .inl (0, 5) := by decide +kernel
theorem fm_s42 : fm_sh 42 = .inr (8, [(2, 43), (0, 1)]) := by decide +kernel
theorem fm_s43 : fm_sh 43 = .inl (0, 5) := by decide +kernel
theorem fm_s44 : fm_sh 44 = .inr (4, [(2, 45), (0, 1)]) := by decide +kernel
theorem fm_s45 : fm_sh 45 = .inl (1, 8) := by decide +kernel
theorem fm_s46 : fm_sh 46 = .inr (1, [(2, 47), (2, 48), (0, 2)]) := by decide +kernel
theorem fm_s47 : fm_sh 47 = .inl (0, 12) := by decide +kernel
theorem fm_s48 : fm_sh 48 = .inl (0, 12) := by decide +kernel
theorem fm_s49 : fm_sh 49 = .inr (6, [(2, 50), (2, 51), (2, 52), (0, 3)]) := by decide +kernel
theorem fm_s50 : fm_sh 50 = .inl (0, 10) := by decide +kernel
theorem fm_s51 : fm_sh 51 = .inl (0, 10) := by decide +kernel
theorem fm_s52 : fm_sh 52 = .inl (0, 151) := by decide +kernel
theorem fm_s53 : fm_sh 53 = .inr (0, [(0, 0), (0, 1), (1, 2), (1, 3), (1, 4), (1, 5)]) := by decide +kernel
theorem fm_s54 : fm_sh 54 = .inr (7, [(2, 55), (2, 56), (2, 57), (2, 58), (2, 59), (2, 60), (0, 6)]) := by decide +kernel
theorem fm_s55 : fm_sh 55 = .inl (0, 64) := by decide +kernel
theorem fm_s56 : fm_sh 56 = .inl (0, 64) := by decide +kernel
theorem fm_s57 : fm_sh 57 = .inl (0, 64) := by decide +kernel
theorem fm_s58 : fm_sh 58 = .inl (0, 8) := by decide +kernel
theorem fm_s59 : fm_sh 59 = .inl (0, 136) := by decide +kernel
theorem fm_s60 : fm_sh 60 = .inl (0, 136) := by decide +kernel
theorem fm_s61 : fm_sh 61 = .inl (0, 64) := by decide +kernel
theorem fm_s62 : fm_sh 62 = .inl (1, 9) := by decide +kernel
theorem fm_s219 : fm_sh 219 = .inr (11, [(2, 220), (2, 221), (0, 2), (2, 222), (0, 4), (0, 5), (3, 6), (3, 7), (0, 8), (1, 9), (1, 10), (2, 223), (3, 12), (0, 13), (0, 14), (0, 15), (0, 16), (2, 224), (2, 225), (0, 19), (2, 226), (2, 227), (0, 22), (0, 23), (0, 24), (2, 228), (2, 229), (2, 230), (0, 28), (2, 231), (2, 232), (2, 233), (2, 234), (2, 235), (2, 236), (2, 237), (0, 36), (2, 238), (2, 239), (0, 39), (2, 240), (2, 241), (0, 42), (0, 43), (2, 242), (2, 243)]) := by decide +kernel
theorem fm_s220 : fm_sh 220 = .inl (0, 43) := by decide +kernel
theorem fm_s221 : fm_sh 221 = .inl (2, 80) := by decide +kernel
theorem fm_s222 : fm_sh 222 = .inl (1, 16) := by decide +kernel
theorem fm_s223 : fm_sh 223 = .inl (0, 8) := by decide +kernel
theorem fm_s224 : fm_sh 224 = .inl (0, 24) := by decide +kernel
theorem fm_s225 : fm_sh 225 = .inl (0, 516) := by decide +kernel
theorem fm_s226 : fm_sh 226 = .inl (0, 43) := by decide +kernel
theorem fm_s227 : fm_sh 227 = .inl (0, 43) := by decide +kernel
theorem fm_s228 : fm_sh 228 = .inl (0, 160) := by decide +kernel
theorem fm_s229 : fm_sh 229 = .inl (0, 64) := by decide +kernel
theorem fm_s230 : fm_sh 230 = .inl (0, 192) := by decide +kernel
theorem fm_s231 : fm_sh 231 = .inl (0, 64) := by decide +kernel
theorem fm_s232 : fm_sh 232 = .inl (0, 8) := by decide +kernel
theorem fm_s233 : fm_sh 233 = .inl (3, 64) := by decide +kernel
theorem fm_s234 : fm_sh 234 = .inl (3, 8) := by decide +kernel
theorem fm_s235 : fm_sh 235 = .inl (3, 8) := by decide +kernel
theorem fm_s236 : fm_sh 236 = .inl (0, 12) := by decide +kernel
theorem fm_s237 : fm_sh 237 = .inl (0, 12) := by decide +kernel
theorem fm_s238 : fm_sh 238 = .inl (0, 10) := by decide +kernel
theorem fm_s239 : fm_sh 239 = .inl (0, 10) := by decide +kernel
theorem fm_s240 : fm_sh 240 = .inl (0, 151) := by decide +kernel
theorem fm_s241 : fm_sh 241 = .inl (3, 201) := by decide +kernel
theorem fm_s242 : fm_sh 242 = .inl (0, 86) := by decide +kernel
theorem fm_s243 : fm_sh 243 = .inl (3, 2) := by decide +kernel
theorem fm_s244 : fm_sh 244 = .inl (2, 5) := by decide +kernel
theorem fm_s245 : fm_sh 245 = .inl (2, 5) := by decide +kernel
theorem fm_s246 : fm_sh 246 = .inl (1, 1) := by decide +kernel
theorem fm_s247 : fm_sh 247 = .inl (6, 5) := by decide +kernel
theorem fm_s248 : fm_sh 248 = .inl (6, 5) := by decide +kernel
end
