set_option maxRecDepth 100000 in
theorem ms_k128 : okP ((yX10_again, cX10_again, 2, (some .boolean), 2, false, 10, 944, 942, 943, RX10), kX10_again) := ⟨by decide +kernel, by decide +kernel⟩
set_option maxRecDepth 100000 in
theorem ms_k129 : okP ((yX10_count, cX10_count, 2, (some .int), 2, false, 10, 952, 950, 951, RX10), kX10_count) := ⟨by decide +kernel, by decide +kernel⟩
set_option maxRecDepth 100000 in
theorem ms_k130 : okP ((yX10_row, cX10_row, 2, (some .long), 2, false, 10, 1038, 1036, 1037, RX10), kX10_row) := ⟨by decide +kernel, by decide +kernel⟩
set_option maxRecDepth 100000 in
theorem ms_k131 : okP ((yX11_thrown, cX11_thrown, 1, (some .int), 1, false, 11, 1188, 1186, 1187, RX11), kX11_thrown) := ⟨by decide +kernel, by decide +kernel⟩
set_option maxRecDepth 100000 in
theorem ms_k132 : okP ((yX11_in, cX11_in, 3, (some .boolean), 3, true, 11, 1199, 1198, 0, RX11), kX11_in) := ⟨by decide +kernel, by decide +kernel⟩
set_option maxRecDepth 100000 in
theorem ms_k133 : okP ((yX11_has, cX11_has, 2, (some .boolean), 2, true, 11, 1326, 1325, 0, RX11), kX11_has) := ⟨by decide +kernel, by decide +kernel⟩
set_option maxRecDepth 100000 in
theorem ms_k134 : okP ((yX11_lost, cX11_lost, 1, (some .int), 1, false, 11, 1288, 1287, 31, RX11), kX11_lost) := ⟨by decide +kernel, by decide +kernel⟩
set_option maxRecDepth 100000 in
theorem ms_k135 : okP ((yX11_tell, cX11_tell, 3, none, 2, false, 11, 1341, 1340, 35, RX11), kX11_tell) := ⟨by decide +kernel, by decide +kernel⟩
set_option maxRecDepth 100000 in
theorem ms_k136 : okP ((yX11_isThere, cX11_isThere, 2, (some .boolean), 2, true, 11, 1217, 1216, 0, RX11), kX11_isThere) := ⟨by decide +kernel, by decide +kernel⟩
set_option maxRecDepth 100000 in
theorem ms_k137 : okP ((yX11_isTask, cX11_isTask, 2, (some .boolean), 2, false, 11, 1284, 1283, 30, RX11), kX11_isTask) := ⟨by decide +kernel, by decide +kernel⟩
set_option maxRecDepth 100000 in
theorem ms_k138 : okP ((yX11_thereOf, cX11_thereOf, 3, (some .int), 1, true, 11, 1214, 1213, 0, RX11), kX11_thereOf) := ⟨by decide +kernel, by decide +kernel⟩
set_option maxRecDepth 100000 in
theorem ms_k139 : okP ((yX11_common, cX11_common, 4, (some .long), 2, true, 11, 1260, 1259, 0, RX11), kX11_common) := ⟨by decide +kernel, by decide +kernel⟩
set_option maxRecDepth 100000 in
theorem ms_k140 : okP ((yX11_tellPart, cX11_tellPart, 7, none, 3, false, 11, 1398, 1397, 40, RX11), kX11_tellPart) := ⟨by decide +kernel, by decide +kernel⟩
set_option maxRecDepth 100000 in
theorem ms_k141 : okP ((yX11_layUse, cX11_layUse, 5, none, 2, false, 11, 1257, 1256, 27, RX11), kX11_layUse) := ⟨by decide +kernel, by decide +kernel⟩
set_option maxRecDepth 100000 in
theorem ms_k142 : okP ((yX11_releaseOf, cX11_releaseOf, 3, (some .int), 3, true, 11, 1295, 1294, 0, RX11), kX11_releaseOf) := ⟨by decide +kernel, by decide +kernel⟩
set_option maxRecDepth 100000 in
theorem ms_k143 : okP ((yX11_deadlineOf, cX11_deadlineOf, 3, (some .int), 3, true, 11, 1298, 1297, 0, RX11), kX11_deadlineOf) := ⟨by decide +kernel, by decide +kernel⟩
set_option maxRecDepth 100000 in
theorem ms_k144 : okP ((yX11_overlapOf, cX11_overlapOf, 3, (some .int), 3, true, 11, 1301, 1300, 0, RX11), kX11_overlapOf) := ⟨by decide +kernel, by decide +kernel⟩
set_option maxRecDepth 100000 in
theorem ms_k145 : okP ((yX11_lengthOf, cX11_lengthOf, 3, (some .int), 3, true, 11, 1307, 1306, 0, RX11), kX11_lengthOf) := ⟨by decide +kernel, by decide +kernel⟩
set_option maxRecDepth 100000 in
theorem ms_k146 : okP ((yX11_groupOf, cX11_groupOf, 6, (some .int), 3, true, 11, 1304, 1303, 0, RX11), kX11_groupOf) := ⟨by decide +kernel, by decide +kernel⟩
set_option maxRecDepth 100000 in
theorem ms_k147 : okP ((yX11_isReady, cX11_isReady, 2, (some .boolean), 2, true, 11, 1329, 1328, 0, RX11), kX11_isReady) := ⟨by decide +kernel, by decide +kernel⟩
set_option maxRecDepth 100000 in
theorem ms_k148 : okP ((yX11_leadBy, cX11_leadBy, 6, (some .int), 4, true, 11, 1336, 1335, 0, RX11), kX11_leadBy) := ⟨by decide +kernel, by decide +kernel⟩
set_option maxRecDepth 100000 in
theorem ms_k149 : okP ((yX11_isAhead, cX11_isAhead, 6, (some .boolean), 4, false, 11, 1333, 1332, 34, RX11), kX11_isAhead) := ⟨by decide +kernel, by decide +kernel⟩
set_option maxRecDepth 100000 in
theorem ms_k150 : okP ((yX11_layOrder, cX11_layOrder, 8, (some .int), 3, false, 11, 1323, 1322, 33, RX11), kX11_layOrder) := ⟨by decide +kernel, by decide +kernel⟩
set_option maxRecDepth 100000 in
theorem ms_k151 : okP ((yX11_sign, cX11_sign, 3, (some .int), 2, false, 11, 1192, 1190, 1191, RX11), kX11_sign) := ⟨by decide +kernel, by decide +kernel⟩
set_option maxRecDepth 100000 in
theorem ms_k152 : okP ((yX11_end, cX11_end, 2, (some .boolean), 2, false, 11, 1196, 1194, 1195, RX11), kX11_end) := ⟨by decide +kernel, by decide +kernel⟩
set_option maxRecDepth 100000 in
theorem ms_k153 : okP ((yX11_begin, cX11_begin, 4, none, 4, false, 11, 1211, 1210, 18, RX11), kX11_begin) := ⟨by decide +kernel, by decide +kernel⟩
set_option maxRecDepth 100000 in
theorem ms_k154 : okP ((yX11_beginText, cX11_beginText, 2, none, 2, false, 11, 1207, 1206, 17, RX11), kX11_beginText) := ⟨by decide +kernel, by decide +kernel⟩
