set_option maxRecDepth 100000 in
theorem ms_k174 : okP ((yX11_goSlots, cX11_goSlots, 6, (some .int), 3, false, 11, 1349, 1348, 36, RX11), kX11_goSlots) := ⟨by decide +kernel, by decide +kernel⟩
set_option maxRecDepth 100000 in
theorem ms_k175 : okP ((yX11_slots, cX11_slots, 4, (some .int), 2, false, 11, 1345, 1343, 1344, RX11), kX11_slots) := ⟨by decide +kernel, by decide +kernel⟩
set_option maxRecDepth 100000 in
theorem ms_k176 : okP ((yX11_refusesProcessors, cX11_refusesProcessors, 2, (some .int), 2, false, 11, 1357, 1356, 37, RX11), kX11_refusesProcessors) := ⟨by decide +kernel, by decide +kernel⟩
set_option maxRecDepth 100000 in
theorem ms_k177 : okP ((yX11_processors, cX11_processors, 4, (some .int), 2, false, 11, 1353, 1351, 1352, RX11), kX11_processors) := ⟨by decide +kernel, by decide +kernel⟩
set_option maxRecDepth 100000 in
theorem ms_k178 : okP ((yX11_refusesLeaving, cX11_refusesLeaving, 5, (some .int), 2, true, 11, 1364, 1363, 0, RX11), kX11_refusesLeaving) := ⟨by decide +kernel, by decide +kernel⟩
set_option maxRecDepth 100000 in
theorem ms_k179 : okP ((yX11_goLeave, cX11_goLeave, 2, (some .int), 2, true, 11, 1367, 1366, 0, RX11), kX11_goLeave) := ⟨by decide +kernel, by decide +kernel⟩
set_option maxRecDepth 100000 in
theorem ms_k180 : okP ((yX11_leaves, cX11_leaves, 3, (some .int), 2, false, 11, 1361, 1359, 1360, RX11), kX11_leaves) := ⟨by decide +kernel, by decide +kernel⟩
set_option maxRecDepth 100000 in
theorem ms_k181 : okP ((yX11_hurries, cX11_hurries, 2, (some .int), 2, false, 11, 1371, 1369, 1370, RX11), kX11_hurries) := ⟨by decide +kernel, by decide +kernel⟩
set_option maxRecDepth 100000 in
theorem ms_k182 : okP ((yX11_shift, cX11_shift, 3, (some .int), 1, false, 11, 1375, 1373, 1374, RX11), kX11_shift) := ⟨by decide +kernel, by decide +kernel⟩
set_option maxRecDepth 100000 in
theorem ms_k183 : okP ((yX11_readAct, cX11_readAct, 4, none, 2, false, 11, 1379, 1378, 38, RX11), kX11_readAct) := ⟨by decide +kernel, by decide +kernel⟩
set_option maxRecDepth 100000 in
theorem ms_k184 : okP ((yX11_act, cX11_act, 3, (some .boolean), 3, false, 11, 1383, 1382, 39, RX11), kX11_act) := ⟨by decide +kernel, by decide +kernel⟩
set_option maxRecDepth 100000 in
theorem ms_k185 : okP ((yX11_undo, cX11_undo, 2, (some .int), 1, false, 11, 1387, 1385, 1386, RX11), kX11_undo) := ⟨by decide +kernel, by decide +kernel⟩
set_option maxRecDepth 100000 in
theorem ms_k186 : okP ((yX11_lagUp, cX11_lagUp, 2, (some .int), 2, true, 11, 1394, 1393, 0, RX11), kX11_lagUp) := ⟨by decide +kernel, by decide +kernel⟩
set_option maxRecDepth 100000 in
theorem ms_k187 : okP ((yX11_lag, cX11_lag, 2, (some .int), 2, false, 11, 1391, 1389, 1390, RX11), kX11_lag) := ⟨by decide +kernel, by decide +kernel⟩
set_option maxRecDepth 100000 in
theorem ms_k188 : okP ((yX11_use, cX11_use, 1, (some .int), 1, false, 11, 1402, 1400, 1401, RX11), kX11_use) := ⟨by decide +kernel, by decide +kernel⟩
set_option maxRecDepth 100000 in
theorem ms_k189 : okP ((yX11_order, cX11_order, 3, (some .int), 1, false, 11, 1406, 1404, 1405, RX11), kX11_order) := ⟨by decide +kernel, by decide +kernel⟩
set_option maxRecDepth 100000 in
theorem ms_k190 : okP ((yX11_greatestLag, cX11_greatestLag, 3, (some .int), 1, true, 11, 1413, 1412, 0, RX11), kX11_greatestLag) := ⟨by decide +kernel, by decide +kernel⟩
set_option maxRecDepth 100000 in
theorem ms_k191 : okP ((yX11_behind, cX11_behind, 2, (some .int), 1, false, 11, 1410, 1408, 1409, RX11), kX11_behind) := ⟨by decide +kernel, by decide +kernel⟩
set_option maxRecDepth 100000 in
theorem ms_k192 : okP ((yX11_ahead, cX11_ahead, 2, (some .int), 2, false, 11, 1417, 1415, 1416, RX11), kX11_ahead) := ⟨by decide +kernel, by decide +kernel⟩
