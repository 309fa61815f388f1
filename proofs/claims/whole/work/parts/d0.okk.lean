set_option maxRecDepth 100000 in
theorem ms_k203 : okP ((yX11_flow, cX11_flow, 5, (some .int), 2, false, 11, 1450, 1448, 1449, RX11), kX11_flow) := ⟨by decide +kernel, by decide +kernel⟩
set_option maxRecDepth 100000 in
theorem ms_k204 : okP ((yX11_waits, cX11_waits, 5, (some .int), 2, false, 11, 1466, 1464, 1465, RX11), kX11_waits) := ⟨by decide +kernel, by decide +kernel⟩
set_option maxRecDepth 100000 in
theorem ms_k205 : okP ((yX11_room, cX11_room, 7, (some .int), 1, false, 11, 1470, 1468, 1469, RX11), kX11_room) := ⟨by decide +kernel, by decide +kernel⟩
set_option maxRecDepth 100000 in
theorem ms_k206 : okP ((yX11_fewest, cX11_fewest, 10, (some .int), 1, false, 11, 1474, 1472, 1473, RX11), kX11_fewest) := ⟨by decide +kernel, by decide +kernel⟩
set_option maxRecDepth 100000 in
theorem ms_k207 : okP ((yX11_lowOf, cX11_lowOf, 1, (some .int), 1, true, 11, 1481, 1480, 0, RX11), kX11_lowOf) := ⟨by decide +kernel, by decide +kernel⟩
set_option maxRecDepth 100000 in
theorem ms_k208 : okP ((yX11_highOf, cX11_highOf, 1, (some .int), 1, true, 11, 1484, 1483, 0, RX11), kX11_highOf) := ⟨by decide +kernel, by decide +kernel⟩
set_option maxRecDepth 100000 in
theorem ms_k209 : okP ((yX11_heard, cX11_heard, 3, (some .int), 3, false, 11, 1478, 1476, 1477, RX11), kX11_heard) := ⟨by decide +kernel, by decide +kernel⟩
set_option maxRecDepth 100000 in
theorem ms_k210 : okP ((yX11_forget, cX11_forget, 2, (some .int), 1, false, 11, 1488, 1486, 1487, RX11), kX11_forget) := ⟨by decide +kernel, by decide +kernel⟩
set_option maxRecDepth 100000 in
theorem ms_k211 : okP ((yX11_isSo, cX11_isSo, 4, (some .boolean), 4, false, 11, 1500, 1499, 45, RX11), kX11_isSo) := ⟨by decide +kernel, by decide +kernel⟩
set_option maxRecDepth 100000 in
theorem ms_k212 : okP ((yX11_fitting, cX11_fitting, 5, (some .int), 1, false, 11, 1496, 1495, 44, RX11), kX11_fitting) := ⟨by decide +kernel, by decide +kernel⟩
set_option maxRecDepth 100000 in
theorem ms_k213 : okP ((yX11_fits, cX11_fits, 2, (some .int), 1, false, 11, 1492, 1490, 1491, RX11), kX11_fits) := ⟨by decide +kernel, by decide +kernel⟩
set_option maxRecDepth 100000 in
theorem ms_k214 : okP ((yX11_asks, cX11_asks, 8, (some .int), 1, false, 11, 1504, 1502, 1503, RX11), kX11_asks) := ⟨by decide +kernel, by decide +kernel⟩
set_option maxRecDepth 100000 in
theorem ms_k215 : okP ((yX11_saw, cX11_saw, 3, (some .int), 3, false, 11, 1509, 1507, 1508, RX11), kX11_saw) := ⟨by decide +kernel, by decide +kernel⟩
set_option maxRecDepth 100000 in
theorem ms_k216 : okP ((yX11_denies, cX11_denies, 2, (some .int), 1, false, 11, 1513, 1511, 1512, RX11), kX11_denies) := ⟨by decide +kernel, by decide +kernel⟩
set_option maxRecDepth 100000 in
theorem ms_k217 : okP ((yX11_isWeight, cX11_isWeight, 4, (some .boolean), 3, false, 11, 1521, 1520, 46, RX11), kX11_isWeight) := ⟨by decide +kernel, by decide +kernel⟩
set_option maxRecDepth 100000 in
theorem ms_k218 : okP ((yX11_weights, cX11_weights, 4, (some .int), 1, false, 11, 1517, 1515, 1516, RX11), kX11_weights) := ⟨by decide +kernel, by decide +kernel⟩
