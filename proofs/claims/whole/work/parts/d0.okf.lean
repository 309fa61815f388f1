set_option maxRecDepth 100000 in
theorem ms_k107 : okP ((yX10_room, cX10_room, 8, (some .int), 1, false, 10, 799, 797, 798, RX10), kX10_room) := ⟨by decide +kernel, by decide +kernel⟩
set_option maxRecDepth 100000 in
theorem ms_k108 : okP ((yX10_fewest, cX10_fewest, 8, (some .int), 1, false, 10, 804, 802, 803, RX10), kX10_fewest) := ⟨by decide +kernel, by decide +kernel⟩
set_option maxRecDepth 100000 in
theorem ms_k109 : okP ((yX10_heard, cX10_heard, 3, (some .int), 3, false, 10, 812, 810, 811, RX10), kX10_heard) := ⟨by decide +kernel, by decide +kernel⟩
set_option maxRecDepth 100000 in
theorem ms_k110 : okP ((yX10_forget, cX10_forget, 1, (some .int), 1, false, 10, 824, 822, 823, RX10), kX10_forget) := ⟨by decide +kernel, by decide +kernel⟩
set_option maxRecDepth 100000 in
theorem ms_k111 : okP ((yX10_fits, cX10_fits, 2, (some .int), 1, false, 10, 832, 830, 831, RX10), kX10_fits) := ⟨by decide +kernel, by decide +kernel⟩
set_option maxRecDepth 100000 in
theorem ms_k112 : okP ((yX10_asks, cX10_asks, 9, (some .int), 1, false, 10, 848, 846, 847, RX10), kX10_asks) := ⟨by decide +kernel, by decide +kernel⟩
set_option maxRecDepth 100000 in
theorem ms_k113 : okP ((yX10_saw, cX10_saw, 3, (some .int), 3, false, 10, 855, 853, 854, RX10), kX10_saw) := ⟨by decide +kernel, by decide +kernel⟩
set_option maxRecDepth 100000 in
theorem ms_k114 : okP ((yX10_denies, cX10_denies, 1, (some .int), 1, false, 10, 863, 861, 862, RX10), kX10_denies) := ⟨by decide +kernel, by decide +kernel⟩
set_option maxRecDepth 100000 in
theorem ms_k115 : okP ((yX10_weights, cX10_weights, 4, (some .int), 1, false, 10, 871, 869, 870, RX10), kX10_weights) := ⟨by decide +kernel, by decide +kernel⟩
set_option maxRecDepth 100000 in
theorem ms_k116 : okP ((yX10_looks, cX10_looks, 5, (some .int), 1, false, 10, 880, 878, 879, RX10), kX10_looks) := ⟨by decide +kernel, by decide +kernel⟩
set_option maxRecDepth 100000 in
theorem ms_k117 : okP ((yX10_odds, cX10_odds, 9, (some .int), 4, false, 10, 891, 889, 890, RX10), kX10_odds) := ⟨by decide +kernel, by decide +kernel⟩
set_option maxRecDepth 100000 in
theorem ms_k118 : okP ((yX10_divisors, cX10_divisors, 2, (some .int), 2, false, 10, 899, 897, 898, RX10), kX10_divisors) := ⟨by decide +kernel, by decide +kernel⟩
set_option maxRecDepth 100000 in
theorem ms_k119 : okP ((yX10_rests, cX10_rests, 5, (some .int), 2, false, 10, 903, 901, 902, RX10), kX10_rests) := ⟨by decide +kernel, by decide +kernel⟩
set_option maxRecDepth 100000 in
theorem ms_k120 : okP ((yX10_isBest, cX10_isBest, 5, (some .boolean), 3, true, 10, 906, 905, 0, RX10), kX10_isBest) := ⟨by decide +kernel, by decide +kernel⟩
set_option maxRecDepth 100000 in
theorem ms_k121 : okP ((yX10_gain, cX10_gain, 4, (some .int), 3, true, 10, 909, 908, 0, RX10), kX10_gain) := ⟨by decide +kernel, by decide +kernel⟩
set_option maxRecDepth 100000 in
theorem ms_k122 : okP ((yX10_law, cX10_law, 6, (some .int), 1, false, 10, 913, 911, 912, RX10), kX10_law) := ⟨by decide +kernel, by decide +kernel⟩
set_option maxRecDepth 100000 in
theorem ms_k123 : okP ((yX10_firstMissBy, cX10_firstMissBy, 5, (some .int), 2, false, 10, 917, 916, 15, RX10), kX10_firstMissBy) := ⟨by decide +kernel, by decide +kernel⟩
set_option maxRecDepth 100000 in
theorem ms_k124 : okP ((yX10_years, cX10_years, 7, (some .int), 3, false, 10, 921, 919, 920, RX10), kX10_years) := ⟨by decide +kernel, by decide +kernel⟩
set_option maxRecDepth 100000 in
theorem ms_k125 : okP ((yX10_nextDraw, cX10_nextDraw, 1, (some .int), 1, true, 10, 924, 923, 0, RX10), kX10_nextDraw) := ⟨by decide +kernel, by decide +kernel⟩
set_option maxRecDepth 100000 in
theorem ms_k126 : okP ((yX10_drawOf, cX10_drawOf, 2, (some .int), 2, true, 10, 928, 927, 0, RX10), kX10_drawOf) := ⟨by decide +kernel, by decide +kernel⟩
set_option maxRecDepth 100000 in
theorem ms_k127 : okP ((yX10_keep, cX10_keep, 2, (some .boolean), 2, false, 10, 936, 934, 935, RX10), kX10_keep) := ⟨by decide +kernel, by decide +kernel⟩
