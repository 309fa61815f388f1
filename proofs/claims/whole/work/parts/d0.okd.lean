set_option maxRecDepth 100000 in
theorem ms_k68 : okP ((yX9_turnEarly, cX9_turnEarly, 2, (some .int), 2, false, 9, 611, 609, 610, RX9), kX9_turnEarly) := ⟨by decide +kernel, by decide +kernel⟩
set_option maxRecDepth 100000 in
theorem ms_k69 : okP ((yX9_weightSum, cX9_weightSum, 3, (some .int), 1, false, 9, 467, 465, 466, RX9), kX9_weightSum) := ⟨by decide +kernel, by decide +kernel⟩
set_option maxRecDepth 100000 in
theorem ms_k70 : okP ((yX9_heaviestOf, cX9_heaviestOf, 5, (some .int), 2, false, 9, 808, 806, 807, RX9), kX9_heaviestOf) := ⟨by decide +kernel, by decide +kernel⟩
set_option maxRecDepth 100000 in
theorem ms_k71 : okP ((yX9_lagUpper, cX9_lagUpper, 2, (some .int), 2, false, 9, 646, 644, 645, RX9), kX9_lagUpper) := ⟨by decide +kernel, by decide +kernel⟩
set_option maxRecDepth 100000 in
theorem ms_k72 : okP ((yX9_compareLags, cX9_compareLags, 7, (some .int), 3, false, 9, 677, 675, 676, RX9), kX9_compareLags) := ⟨by decide +kernel, by decide +kernel⟩
set_option maxRecDepth 100000 in
theorem ms_k73 : okP ((yX9_hasLagsOf, cX9_hasLagsOf, 3, (some .boolean), 2, false, 9, 708, 706, 707, RX9), kX9_hasLagsOf) := ⟨by decide +kernel, by decide +kernel⟩
set_option maxRecDepth 100000 in
theorem ms_k74 : okP ((yX10_sign, cX10_sign, 2, (some .int), 2, false, 10, 386, 384, 385, RX10), kX10_sign) := ⟨by decide +kernel, by decide +kernel⟩
set_option maxRecDepth 100000 in
theorem ms_k75 : okP ((yX10_end, cX10_end, 2, (some .boolean), 2, false, 10, 394, 392, 393, RX10), kX10_end) := ⟨by decide +kernel, by decide +kernel⟩
set_option maxRecDepth 100000 in
theorem ms_k76 : okP ((yX10_joins, cX10_joins, 2, (some .int), 1, false, 10, 402, 400, 401, RX10), kX10_joins) := ⟨by decide +kernel, by decide +kernel⟩
set_option maxRecDepth 100000 in
theorem ms_k77 : okP ((yX10_ties, cX10_ties, 2, (some .int), 1, false, 10, 476, 474, 475, RX10), kX10_ties) := ⟨by decide +kernel, by decide +kernel⟩
set_option maxRecDepth 100000 in
theorem ms_k78 : okP ((yX10_task, cX10_task, 3, (some .int), 3, false, 10, 960, 958, 959, RX10), kX10_task) := ⟨by decide +kernel, by decide +kernel⟩
set_option maxRecDepth 100000 in
theorem ms_k79 : okP ((yX10_part, cX10_part, 4, (some .int), 4, false, 10, 1028, 1026, 1027, RX10), kX10_part) := ⟨by decide +kernel, by decide +kernel⟩
set_option maxRecDepth 100000 in
theorem ms_k80 : okP ((yX10_sheet, cX10_sheet, 10, (some .int), 5, false, 10, 497, 495, 496, RX10), kX10_sheet) := ⟨by decide +kernel, by decide +kernel⟩
set_option maxRecDepth 100000 in
theorem ms_k81 : okP ((yX10_entry, cX10_entry, 2, (some .int), 2, true, 10, 504, 503, 0, RX10), kX10_entry) := ⟨by decide +kernel, by decide +kernel⟩
set_option maxRecDepth 100000 in
theorem ms_k82 : okP ((yX10_slot, cX10_slot, 2, (some .int), 1, false, 10, 508, 506, 507, RX10), kX10_slot) := ⟨by decide +kernel, by decide +kernel⟩
set_option maxRecDepth 100000 in
theorem ms_k83 : okP ((yX10_slots, cX10_slots, 4, (some .int), 2, false, 10, 557, 555, 556, RX10), kX10_slots) := ⟨by decide +kernel, by decide +kernel⟩
set_option maxRecDepth 100000 in
theorem ms_k84 : okP ((yX10_processors, cX10_processors, 2, (some .int), 2, false, 10, 566, 564, 565, RX10), kX10_processors) := ⟨by decide +kernel, by decide +kernel⟩
set_option maxRecDepth 100000 in
theorem ms_k85 : okP ((yX10_leaves, cX10_leaves, 2, (some .int), 2, false, 10, 579, 577, 578, RX10), kX10_leaves) := ⟨by decide +kernel, by decide +kernel⟩
set_option maxRecDepth 100000 in
theorem ms_k86 : okP ((yX10_hurries, cX10_hurries, 2, (some .int), 2, false, 10, 607, 605, 606, RX10), kX10_hurries) := ⟨by decide +kernel, by decide +kernel⟩
set_option maxRecDepth 100000 in
theorem ms_k87 : okP ((yX10_rememberedIfDone, cX10_rememberedIfDone, 2, (some .int), 2, false, 10, 575, 574, 3, RX10), kX10_rememberedIfDone) := ⟨by decide +kernel, by decide +kernel⟩
set_option maxRecDepth 100000 in
theorem ms_k88 : okP ((yX10_shift, cX10_shift, 6, (some .int), 1, false, 10, 615, 613, 614, RX10), kX10_shift) := ⟨by decide +kernel, by decide +kernel⟩
set_option maxRecDepth 100000 in
theorem ms_k89 : okP ((yX10_answerOfAct, cX10_answerOfAct, 3, (some .int), 2, false, 10, 627, 626, 5, RX10), kX10_answerOfAct) := ⟨by decide +kernel, by decide +kernel⟩
set_option maxRecDepth 100000 in
theorem ms_k90 : okP ((yX10_undo, cX10_undo, 1, (some .int), 1, false, 10, 634, 632, 633, RX10), kX10_undo) := ⟨by decide +kernel, by decide +kernel⟩
set_option maxRecDepth 100000 in
theorem ms_k91 : okP ((yX10_lag, cX10_lag, 2, (some .int), 2, false, 10, 642, 640, 641, RX10), kX10_lag) := ⟨by decide +kernel, by decide +kernel⟩
