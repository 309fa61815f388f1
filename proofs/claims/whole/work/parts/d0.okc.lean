set_option maxRecDepth 100000 in
theorem ms_k46 : okP ((yX8_isAhead, cX8_isAhead, 6, (some .boolean), 4, false, 8, 535, 533, 534, RX8), kX8_isAhead) := ⟨by decide +kernel, by decide +kernel⟩
set_option maxRecDepth 100000 in
theorem ms_k47 : okP ((yX8_leadBy, cX8_leadBy, 4, (some .int), 4, true, 8, 538, 537, 0, RX8), kX8_leadBy) := ⟨by decide +kernel, by decide +kernel⟩
set_option maxRecDepth 100000 in
theorem ms_k48 : okP ((yX9_copyFrom, cX9_copyFrom, 2, none, 2, false, 9, 406, 404, 405, RX9), kX9_copyFrom) := ⟨by decide +kernel, by decide +kernel⟩
set_option maxRecDepth 100000 in
theorem ms_k49 : okP ((yX9_isThere, cX9_isThere, 2, (some .boolean), 2, false, 9, 501, 499, 500, RX9), kX9_isThere) := ⟨by decide +kernel, by decide +kernel⟩
set_option maxRecDepth 100000 in
theorem ms_k50 : okP ((yX9_thereSet, cX9_thereSet, 3, (some .int), 1, false, 9, 603, 601, 602, RX9), kX9_thereSet) := ⟨by decide +kernel, by decide +kernel⟩
set_option maxRecDepth 100000 in
theorem ms_k51 : okP ((yX9_leastFree, cX9_leastFree, 2, (some .int), 1, false, 9, 424, 422, 423, RX9), kX9_leastFree) := ⟨by decide +kernel, by decide +kernel⟩
set_option maxRecDepth 100000 in
theorem ms_k52 : okP ((yX9_doneOfAll, cX9_doneOfAll, 3, (some .int), 1, false, 9, 932, 930, 931, RX9), kX9_doneOfAll) := ⟨by decide +kernel, by decide +kernel⟩
set_option maxRecDepth 100000 in
theorem ms_k53 : okP ((yX9_enter, cX9_enter, 5, none, 5, false, 9, 440, 438, 439, RX9), kX9_enter) := ⟨by decide +kernel, by decide +kernel⟩
set_option maxRecDepth 100000 in
theorem ms_k54 : okP ((yX9_lookAtNext, cX9_lookAtNext, 6, none, 2, false, 9, 444, 443, 2, RX9), kX9_lookAtNext) := ⟨by decide +kernel, by decide +kernel⟩
set_option maxRecDepth 100000 in
theorem ms_k55 : okP ((yX9_releaseOf, cX9_releaseOf, 3, (some .int), 3, false, 9, 759, 757, 758, RX9), kX9_releaseOf) := ⟨by decide +kernel, by decide +kernel⟩
set_option maxRecDepth 100000 in
theorem ms_k56 : okP ((yX9_deadlineOf, cX9_deadlineOf, 3, (some .int), 3, false, 9, 595, 593, 594, RX9), kX9_deadlineOf) := ⟨by decide +kernel, by decide +kernel⟩
set_option maxRecDepth 100000 in
theorem ms_k57 : okP ((yX9_overlapOf, cX9_overlapOf, 3, (some .int), 3, false, 9, 599, 597, 598, RX9), kX9_overlapOf) := ⟨by decide +kernel, by decide +kernel⟩
set_option maxRecDepth 100000 in
theorem ms_k58 : okP ((yX9_groupOf, cX9_groupOf, 4, (some .int), 3, false, 9, 591, 589, 590, RX9), kX9_groupOf) := ⟨by decide +kernel, by decide +kernel⟩
set_option maxRecDepth 100000 in
theorem ms_k59 : okP ((yX9_isReady, cX9_isReady, 2, (some .boolean), 2, false, 9, 520, 518, 519, RX9), kX9_isReady) := ⟨by decide +kernel, by decide +kernel⟩
set_option maxRecDepth 100000 in
theorem ms_k60 : okP ((yX9_hasRun, cX9_hasRun, 2, (some .boolean), 2, false, 9, 545, 543, 544, RX9), kX9_hasRun) := ⟨by decide +kernel, by decide +kernel⟩
set_option maxRecDepth 100000 in
theorem ms_k61 : okP ((yX9_readySet, cX9_readySet, 4, (some .int), 2, false, 9, 516, 514, 515, RX9), kX9_readySet) := ⟨by decide +kernel, by decide +kernel⟩
set_option maxRecDepth 100000 in
theorem ms_k62 : okP ((yX9_firstOf, cX9_firstOf, 5, (some .int), 3, false, 9, 531, 529, 530, RX9), kX9_firstOf) := ⟨by decide +kernel, by decide +kernel⟩
set_option maxRecDepth 100000 in
theorem ms_k63 : okP ((yX9_goBy, cX9_goBy, 6, none, 3, false, 9, 512, 510, 511, RX9), kX9_goBy) := ⟨by decide +kernel, by decide +kernel⟩
set_option maxRecDepth 100000 in
theorem ms_k64 : okP ((yX9_goByMany, cX9_goByMany, 6, (some .int), 3, false, 9, 561, 559, 560, RX9), kX9_goByMany) := ⟨by decide +kernel, by decide +kernel⟩
set_option maxRecDepth 100000 in
theorem ms_k65 : okP ((yX9_takeProcessors, cX9_takeProcessors, 3, (some .int), 2, false, 9, 570, 568, 569, RX9), kX9_takeProcessors) := ⟨by decide +kernel, by decide +kernel⟩
set_option maxRecDepth 100000 in
theorem ms_k66 : okP ((yX9_letGo, cX9_letGo, 2, (some .int), 2, false, 9, 583, 581, 582, RX9), kX9_letGo) := ⟨by decide +kernel, by decide +kernel⟩
set_option maxRecDepth 100000 in
theorem ms_k67 : okP ((yX9_mayLeaveFrom, cX9_mayLeaveFrom, 4, (some .int), 2, false, 9, 587, 586, 4, RX9), kX9_mayLeaveFrom) := ⟨by decide +kernel, by decide +kernel⟩
