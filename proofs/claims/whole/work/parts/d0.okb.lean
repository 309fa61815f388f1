set_option maxRecDepth 100000 in
theorem ms_k26 : okP ((yX5_readLine, cX5_readLine, 8, (some .int), 2, false, 5, 420, 419, 0, RX5), kX5_readLine) := ⟨by decide +kernel, by decide +kernel⟩
set_option maxRecDepth 100000 in
theorem ms_k27 : okP ((yX5_readNumber, cX5_readNumber, 3, (some .int), 1, false, 5, 428, 427, 1, RX5), kX5_readNumber) := ⟨by decide +kernel, by decide +kernel⟩
set_option maxRecDepth 100000 in
theorem ms_k28 : okP ((yX5_actLength, cX5_actLength, 2, (some .int), 2, false, 5, 623, 621, 622, RX5), kX5_actLength) := ⟨by decide +kernel, by decide +kernel⟩
set_option maxRecDepth 100000 in
theorem ms_k29 : okP ((yX5_firstBadAct, cX5_firstBadAct, 4, (some .int), 1, false, 5, 619, 617, 618, RX5), kX5_firstBadAct) := ⟨by decide +kernel, by decide +kernel⟩
set_option maxRecDepth 100000 in
theorem ms_k30 : okP ((yX6_add, cX6_add, 3, (some .int), 3, false, 6, 859, 857, 858, RX6), kX6_add) := ⟨by decide +kernel, by decide +kernel⟩
set_option maxRecDepth 100000 in
theorem ms_k31 : okP ((yX6_clear, cX6_clear, 2, (some .int), 1, false, 6, 867, 865, 866, RX6), kX6_clear) := ⟨by decide +kernel, by decide +kernel⟩
set_option maxRecDepth 100000 in
theorem ms_k32 : okP ((yX6_fit, cX6_fit, 4, (some .boolean), 3, false, 6, 875, 873, 874, RX6), kX6_fit) := ⟨by decide +kernel, by decide +kernel⟩
set_option maxRecDepth 100000 in
theorem ms_k33 : okP ((yX6_mostAlike, cX6_mostAlike, 6, (some .int), 2, false, 6, 884, 882, 883, RX6), kX6_mostAlike) := ⟨by decide +kernel, by decide +kernel⟩
set_option maxRecDepth 100000 in
theorem ms_k34 : okP ((yX7_gather, cX7_gather, 5, (some .int), 3, false, 7, 747, 745, 746, RX7), kX7_gather) := ⟨by decide +kernel, by decide +kernel⟩
set_option maxRecDepth 100000 in
theorem ms_k35 : okP ((yX7_gatherOf, cX7_gatherOf, 11, (some .int), 4, false, 7, 753, 752, 7, RX7), kX7_gatherOf) := ⟨by decide +kernel, by decide +kernel⟩
set_option maxRecDepth 100000 in
theorem ms_k36 : okP ((yX7_greatest, cX7_greatest, 4, (some .int), 2, false, 7, 763, 761, 762, RX7), kX7_greatest) := ⟨by decide +kernel, by decide +kernel⟩
set_option maxRecDepth 100000 in
theorem ms_k37 : okP ((yX7_findPlace, cX7_findPlace, 5, (some .boolean), 3, false, 7, 767, 766, 8, RX7), kX7_findPlace) := ⟨by decide +kernel, by decide +kernel⟩
set_option maxRecDepth 100000 in
theorem ms_k38 : okP ((yX7_reach, cX7_reach, 3, none, 3, false, 7, 771, 770, 9, RX7), kX7_reach) := ⟨by decide +kernel, by decide +kernel⟩
set_option maxRecDepth 100000 in
theorem ms_k39 : okP ((yX7_goOnFromPart, cX7_goOnFromPart, 4, none, 2, false, 7, 775, 774, 10, RX7), kX7_goOnFromPart) := ⟨by decide +kernel, by decide +kernel⟩
set_option maxRecDepth 100000 in
theorem ms_k40 : okP ((yX7_goOnFromPlace, cX7_goOnFromPlace, 2, none, 2, false, 7, 779, 778, 11, RX7), kX7_goOnFromPlace) := ⟨by decide +kernel, by decide +kernel⟩
set_option maxRecDepth 100000 in
theorem ms_k41 : okP ((yX7_goOnFromSlot, cX7_goOnFromSlot, 4, none, 2, false, 7, 787, 786, 13, RX7), kX7_goOnFromSlot) := ⟨by decide +kernel, by decide +kernel⟩
set_option maxRecDepth 100000 in
theorem ms_k42 : okP ((yX7_settle, cX7_settle, 5, none, 2, false, 7, 783, 782, 12, RX7), kX7_settle) := ⟨by decide +kernel, by decide +kernel⟩
set_option maxRecDepth 100000 in
theorem ms_k43 : okP ((yX8_copyFrom, cX8_copyFrom, 2, none, 2, false, 8, 492, 490, 491, RX8), kX8_copyFrom) := ⟨by decide +kernel, by decide +kernel⟩
set_option maxRecDepth 100000 in
theorem ms_k44 : okP ((yX8_clear, cX8_clear, 1, none, 1, false, 8, 484, 482, 483, RX8), kX8_clear) := ⟨by decide +kernel, by decide +kernel⟩
set_option maxRecDepth 100000 in
theorem ms_k45 : okP ((yX8_add, cX8_add, 3, (some .boolean), 2, false, 8, 488, 486, 487, RX8), kX8_add) := ⟨by decide +kernel, by decide +kernel⟩
