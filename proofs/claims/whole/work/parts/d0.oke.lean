set_option maxRecDepth 100000 in
theorem ms_k92 : okP ((yX10_use, cX10_use, 2, (some .int), 1, false, 10, 661, 659, 660, RX10), kX10_use) := ⟨by decide +kernel, by decide +kernel⟩
set_option maxRecDepth 100000 in
theorem ms_k93 : okP ((yX10_order, cX10_order, 5, (some .int), 1, false, 10, 666, 664, 665, RX10), kX10_order) := ⟨by decide +kernel, by decide +kernel⟩
set_option maxRecDepth 100000 in
theorem ms_k94 : okP ((yX10_behind, cX10_behind, 3, (some .int), 1, false, 10, 673, 671, 672, RX10), kX10_behind) := ⟨by decide +kernel, by decide +kernel⟩
set_option maxRecDepth 100000 in
theorem ms_k95 : okP ((yX10_ahead, cX10_ahead, 5, (some .int), 2, false, 10, 685, 683, 684, RX10), kX10_ahead) := ⟨by decide +kernel, by decide +kernel⟩
set_option maxRecDepth 100000 in
theorem ms_k96 : okP ((yX10_runs, cX10_runs, 3, (some .int), 2, false, 10, 690, 688, 689, RX10), kX10_runs) := ⟨by decide +kernel, by decide +kernel⟩
set_option maxRecDepth 100000 in
theorem ms_k97 : okP ((yX10_when, cX10_when, 5, (some .int), 3, false, 10, 694, 692, 693, RX10), kX10_when) := ⟨by decide +kernel, by decide +kernel⟩
set_option maxRecDepth 100000 in
theorem ms_k98 : okP ((yX10_misses, cX10_misses, 3, (some .int), 1, false, 10, 699, 697, 698, RX10), kX10_misses) := ⟨by decide +kernel, by decide +kernel⟩
set_option maxRecDepth 100000 in
theorem ms_k99 : okP ((yX10_round, cX10_round, 3, (some .int), 1, false, 10, 703, 701, 702, RX10), kX10_round) := ⟨by decide +kernel, by decide +kernel⟩
set_option maxRecDepth 100000 in
theorem ms_k100 : okP ((yX10_share, cX10_share, 10, (some .int), 3, false, 10, 712, 710, 711, RX10), kX10_share) := ⟨by decide +kernel, by decide +kernel⟩
set_option maxRecDepth 100000 in
theorem ms_k101 : okP ((yX10_pairs, cX10_pairs, 7, (some .int), 2, false, 10, 720, 718, 719, RX10), kX10_pairs) := ⟨by decide +kernel, by decide +kernel⟩
set_option maxRecDepth 100000 in
theorem ms_k102 : okP ((yX10_countPairs, cX10_countPairs, 5, none, 2, false, 10, 724, 723, 6, RX10), kX10_countPairs) := ⟨by decide +kernel, by decide +kernel⟩
set_option maxRecDepth 100000 in
theorem ms_k103 : okP ((yX10_lags, cX10_lags, 4, (some .int), 2, false, 10, 731, 729, 730, RX10), kX10_lags) := ⟨by decide +kernel, by decide +kernel⟩
set_option maxRecDepth 100000 in
theorem ms_k104 : okP ((yX10_flow, cX10_flow, 3, (some .int), 2, false, 10, 743, 741, 742, RX10), kX10_flow) := ⟨by decide +kernel, by decide +kernel⟩
set_option maxRecDepth 100000 in
theorem ms_k105 : okP ((yX10_waits, cX10_waits, 4, (some .int), 2, false, 10, 791, 789, 790, RX10), kX10_waits) := ⟨by decide +kernel, by decide +kernel⟩
set_option maxRecDepth 100000 in
theorem ms_k106 : okP ((yX10_missesWhenKept, cX10_missesWhenKept, 4, (some .boolean), 3, false, 10, 795, 794, 14, RX10), kX10_missesWhenKept) := ⟨by decide +kernel, by decide +kernel⟩
