/-! the tables are right -/
def okP (q : mj_S × List mj_E) : Prop := ms_sig q.1 = true ∧ q.2.all (ms_chk q.1.2.2.2.2.2.2.2.2.2.2 q.1.2.1) = true
set_option maxRecDepth 100000 in
theorem ms_k0 : okP ((yX0_clear, cX0_clear, 1, none, 1, false, 0, 735, 733, 734, RX0), kX0_clear) := ⟨by decide +kernel, by decide +kernel⟩
set_option maxRecDepth 100000 in
theorem ms_k1 : okP ((yX0_take, cX0_take, 8, none, 5, false, 0, 739, 737, 738, RX0), kX0_take) := ⟨by decide +kernel, by decide +kernel⟩
set_option maxRecDepth 100000 in
theorem ms_k2 : okP ((yX1_add, cX1_add, 3, (some .int), 3, false, 1, 816, 814, 815, RX1), kX1_add) := ⟨by decide +kernel, by decide +kernel⟩
set_option maxRecDepth 100000 in
theorem ms_k3 : okP ((yX1_clear, cX1_clear, 2, (some .int), 1, false, 1, 828, 826, 827, RX1), kX1_clear) := ⟨by decide +kernel, by decide +kernel⟩
set_option maxRecDepth 100000 in
theorem ms_k4 : okP ((yX1_fitting, cX1_fitting, 4, (some .int), 2, false, 1, 836, 834, 835, RX1), kX1_fitting) := ⟨by decide +kernel, by decide +kernel⟩
set_option maxRecDepth 100000 in
theorem ms_k5 : okP ((yX1_whereSo, cX1_whereSo, 6, (some .int), 4, true, 1, 840, 839, 0, RX1), kX1_whereSo) := ⟨by decide +kernel, by decide +kernel⟩
set_option maxRecDepth 100000 in
theorem ms_k6 : okP ((yX1_isSo, cX1_isSo, 4, (some .boolean), 4, true, 1, 843, 842, 0, RX1), kX1_isSo) := ⟨by decide +kernel, by decide +kernel⟩
set_option maxRecDepth 100000 in
theorem ms_k7 : okP ((yX2_release, cX2_release, 3, (some .int), 3, true, 2, 453, 452, 0, RX2), kX2_release) := ⟨by decide +kernel, by decide +kernel⟩
set_option maxRecDepth 100000 in
theorem ms_k8 : okP ((yX2_deadline, cX2_deadline, 3, (some .int), 3, true, 2, 450, 449, 0, RX2), kX2_deadline) := ⟨by decide +kernel, by decide +kernel⟩
set_option maxRecDepth 100000 in
theorem ms_k9 : okP ((yX2_overlap, cX2_overlap, 3, (some .int), 3, true, 2, 456, 455, 0, RX2), kX2_overlap) := ⟨by decide +kernel, by decide +kernel⟩
set_option maxRecDepth 100000 in
theorem ms_k10 : okP ((yX2_group, cX2_group, 6, (some .int), 3, true, 2, 447, 446, 0, RX2), kX2_group) := ⟨by decide +kernel, by decide +kernel⟩
set_option maxRecDepth 100000 in
theorem ms_k11 : okP ((yX3_remember, cX3_remember, 2, none, 2, false, 3, 471, 469, 470, RX3), kX3_remember) := ⟨by decide +kernel, by decide +kernel⟩
set_option maxRecDepth 100000 in
theorem ms_k12 : okP ((yX3_bringBack, cX3_bringBack, 2, (some .int), 2, false, 3, 638, 636, 637, RX3), kX3_bringBack) := ⟨by decide +kernel, by decide +kernel⟩
set_option maxRecDepth 100000 in
theorem ms_k13 : okP ((yX3_keepUnder, cX3_keepUnder, 3, (some .boolean), 3, false, 3, 940, 938, 939, RX3), kX3_keepUnder) := ⟨by decide +kernel, by decide +kernel⟩
set_option maxRecDepth 100000 in
theorem ms_k14 : okP ((yX3_bringKept, cX3_bringKept, 3, (some .boolean), 3, false, 3, 948, 946, 947, RX3), kX3_bringKept) := ⟨by decide +kernel, by decide +kernel⟩
set_option maxRecDepth 100000 in
theorem ms_k15 : okP ((yX4_clear, cX4_clear, 1, none, 1, false, 4, 549, 547, 548, RX4), kX4_clear) := ⟨by decide +kernel, by decide +kernel⟩
set_option maxRecDepth 100000 in
theorem ms_k16 : okP ((yX4_add, cX4_add, 3, none, 2, false, 4, 553, 551, 552, RX4), kX4_add) := ⟨by decide +kernel, by decide +kernel⟩
set_option maxRecDepth 100000 in
theorem ms_k17 : okP ((yX4_addFraction, cX4_addFraction, 7, none, 3, false, 4, 650, 648, 649, RX4), kX4_addFraction) := ⟨by decide +kernel, by decide +kernel⟩
set_option maxRecDepth 100000 in
theorem ms_k18 : okP ((yX4_commonDivisor, cX4_commonDivisor, 11, (some .long), 2, true, 4, 656, 655, 0, RX4), kX4_commonDivisor) := ⟨by decide +kernel, by decide +kernel⟩
set_option maxRecDepth 100000 in
theorem ms_k19 : okP ((yX5_append, cX5_append, 3, (some .int), 2, false, 5, 390, 388, 389, RX5), kX5_append) := ⟨by decide +kernel, by decide +kernel⟩
set_option maxRecDepth 100000 in
theorem ms_k20 : okP ((yX5_cutTo, cX5_cutTo, 2, (some .boolean), 2, false, 5, 398, 396, 397, RX5), kX5_cutTo) := ⟨by decide +kernel, by decide +kernel⟩
set_option maxRecDepth 100000 in
theorem ms_k21 : okP ((yX5_clear, cX5_clear, 1, none, 1, false, 5, 463, 461, 462, RX5), kX5_clear) := ⟨by decide +kernel, by decide +kernel⟩
set_option maxRecDepth 100000 in
theorem ms_k22 : okP ((yX5_signAt, cX5_signAt, 2, (some .int), 2, false, 5, 436, 434, 435, RX5), kX5_signAt) := ⟨by decide +kernel, by decide +kernel⟩
set_option maxRecDepth 100000 in
theorem ms_k23 : okP ((yX5_digitAt, cX5_digitAt, 3, (some .int), 2, false, 5, 432, 430, 431, RX5), kX5_digitAt) := ⟨by decide +kernel, by decide +kernel⟩
set_option maxRecDepth 100000 in
theorem ms_k24 : okP ((yX5_readTies, cX5_readTies, 3, (some .int), 2, false, 5, 480, 478, 479, RX5), kX5_readTies) := ⟨by decide +kernel, by decide +kernel⟩
set_option maxRecDepth 100000 in
theorem ms_k25 : okP ((yX5_readLines, cX5_readLines, 4, (some .int), 2, false, 5, 413, 411, 412, RX5), kX5_readLines) := ⟨by decide +kernel, by decide +kernel⟩
