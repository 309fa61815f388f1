set_option maxRecDepth 100000 in
theorem ms_k155 : okP ((yX11_here, cX11_here, 1, (some .int), 1, false, 11, 1242, 1241, 24, RX11), kX11_here) := ⟨by decide +kernel, by decide +kernel⟩
set_option maxRecDepth 100000 in
theorem ms_k156 : okP ((yX11_fine, cX11_fine, 1, (some .boolean), 1, false, 11, 1222, 1221, 19, RX11), kX11_fine) := ⟨by decide +kernel, by decide +kernel⟩
set_option maxRecDepth 100000 in
theorem ms_k157 : okP ((yX11_fault, cX11_fault, 2, none, 2, false, 11, 1226, 1225, 20, RX11), kX11_fault) := ⟨by decide +kernel, by decide +kernel⟩
set_option maxRecDepth 100000 in
theorem ms_k158 : okP ((yX11_passes, cX11_passes, 2, (some .boolean), 2, false, 11, 1246, 1245, 25, RX11), kX11_passes) := ⟨by decide +kernel, by decide +kernel⟩
set_option maxRecDepth 100000 in
theorem ms_k159 : okP ((yX11_oneOf, cX11_oneOf, 3, (some .int), 3, false, 11, 1238, 1237, 23, RX11), kX11_oneOf) := ⟨by decide +kernel, by decide +kernel⟩
set_option maxRecDepth 100000 in
theorem ms_k160 : okP ((yX11_wasRight, cX11_wasRight, 1, (some .boolean), 1, false, 11, 1250, 1249, 26, RX11), kX11_wasRight) := ⟨by decide +kernel, by decide +kernel⟩
set_option maxRecDepth 100000 in
theorem ms_k161 : okP ((yX11_numberOf, cX11_numberOf, 2, (some .int), 1, false, 11, 1234, 1233, 22, RX11), kX11_numberOf) := ⟨by decide +kernel, by decide +kernel⟩
set_option maxRecDepth 100000 in
theorem ms_k162 : okP ((yX11_readLine, cX11_readLine, 6, none, 2, false, 11, 1230, 1229, 21, RX11), kX11_readLine) := ⟨by decide +kernel, by decide +kernel⟩
set_option maxRecDepth 100000 in
theorem ms_k163 : okP ((yX11_joins, cX11_joins, 6, (some .int), 1, false, 11, 1203, 1201, 1202, RX11), kX11_joins) := ⟨by decide +kernel, by decide +kernel⟩
set_option maxRecDepth 100000 in
theorem ms_k164 : okP ((yX11_isTie, cX11_isTie, 1, (some .boolean), 1, true, 11, 1276, 1275, 0, RX11), kX11_isTie) := ⟨by decide +kernel, by decide +kernel⟩
set_option maxRecDepth 100000 in
theorem ms_k165 : okP ((yX11_rightTies, cX11_rightTies, 4, (some .int), 2, false, 11, 1273, 1272, 29, RX11), kX11_rightTies) := ⟨by decide +kernel, by decide +kernel⟩
set_option maxRecDepth 100000 in
theorem ms_k166 : okP ((yX11_ties, cX11_ties, 4, (some .int), 1, false, 11, 1269, 1267, 1268, RX11), kX11_ties) := ⟨by decide +kernel, by decide +kernel⟩
set_option maxRecDepth 100000 in
theorem ms_k167 : okP ((yX11_task, cX11_task, 3, (some .int), 3, false, 11, 1280, 1278, 1279, RX11), kX11_task) := ⟨by decide +kernel, by decide +kernel⟩
set_option maxRecDepth 100000 in
theorem ms_k168 : okP ((yX11_part, cX11_part, 4, (some .int), 4, false, 11, 1292, 1290, 1291, RX11), kX11_part) := ⟨by decide +kernel, by decide +kernel⟩
set_option maxRecDepth 100000 in
theorem ms_k169 : okP ((yX11_sheet, cX11_sheet, 10, (some .int), 5, false, 11, 1311, 1309, 1310, RX11), kX11_sheet) := ⟨by decide +kernel, by decide +kernel⟩
set_option maxRecDepth 100000 in
theorem ms_k170 : okP ((yX11_lay, cX11_lay, 4, none, 3, true, 11, 1253, 1252, 0, RX11), kX11_lay) := ⟨by decide +kernel, by decide +kernel⟩
set_option maxRecDepth 100000 in
theorem ms_k171 : okP ((yX11_remember, cX11_remember, 3, none, 2, false, 11, 1265, 1264, 28, RX11), kX11_remember) := ⟨by decide +kernel, by decide +kernel⟩
set_option maxRecDepth 100000 in
theorem ms_k172 : okP ((yX11_goSlot, cX11_goSlot, 5, (some .int), 3, false, 11, 1319, 1318, 32, RX11), kX11_goSlot) := ⟨by decide +kernel, by decide +kernel⟩
set_option maxRecDepth 100000 in
theorem ms_k173 : okP ((yX11_slot, cX11_slot, 2, (some .int), 1, false, 11, 1315, 1313, 1314, RX11), kX11_slot) := ⟨by decide +kernel, by decide +kernel⟩
