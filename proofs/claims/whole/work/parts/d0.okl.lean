set_option maxRecDepth 100000 in
theorem ms_k219 : okP ((yX11_looks, cX11_looks, 8, (some .int), 1, false, 11, 1525, 1523, 1524, RX11), kX11_looks) := ⟨by decide +kernel, by decide +kernel⟩
set_option maxRecDepth 100000 in
theorem ms_k220 : okP ((yX11_odds, cX11_odds, 12, (some .int), 4, false, 11, 1529, 1527, 1528, RX11), kX11_odds) := ⟨by decide +kernel, by decide +kernel⟩
set_option maxRecDepth 100000 in
theorem ms_k221 : okP ((yX11_take, cX11_take, 3, (some .int), 2, false, 11, 1538, 1537, 47, RX11), kX11_take) := ⟨by decide +kernel, by decide +kernel⟩
set_option maxRecDepth 100000 in
theorem ms_k222 : okP ((yX11_divisors, cX11_divisors, 3, (some .int), 2, false, 11, 1534, 1532, 1533, RX11), kX11_divisors) := ⟨by decide +kernel, by decide +kernel⟩
set_option maxRecDepth 100000 in
theorem ms_k223 : okP ((yX11_gets, cX11_gets, 3, (some .int), 3, true, 11, 1548, 1547, 0, RX11), kX11_gets) := ⟨by decide +kernel, by decide +kernel⟩
set_option maxRecDepth 100000 in
theorem ms_k224 : okP ((yX11_isBest, cX11_isBest, 4, (some .boolean), 3, true, 11, 1545, 1544, 0, RX11), kX11_isBest) := ⟨by decide +kernel, by decide +kernel⟩
set_option maxRecDepth 100000 in
theorem ms_k225 : okP ((yX11_rests, cX11_rests, 5, (some .int), 2, false, 11, 1542, 1540, 1541, RX11), kX11_rests) := ⟨by decide +kernel, by decide +kernel⟩
set_option maxRecDepth 100000 in
theorem ms_k226 : okP ((yX11_lay60, cX11_lay60, 2, (some .int), 1, false, 11, 1556, 1555, 48, RX11), kX11_lay60) := ⟨by decide +kernel, by decide +kernel⟩
set_option maxRecDepth 100000 in
theorem ms_k227 : okP ((yX11_law, cX11_law, 8, (some .int), 1, false, 11, 1552, 1550, 1551, RX11), kX11_law) := ⟨by decide +kernel, by decide +kernel⟩
set_option maxRecDepth 100000 in
theorem ms_k228 : okP ((yX11_draw, cX11_draw, 2, (some .int), 2, false, 11, 1564, 1563, 49, RX11), kX11_draw) := ⟨by decide +kernel, by decide +kernel⟩
set_option maxRecDepth 100000 in
theorem ms_k229 : okP ((yX11_doneOf, cX11_doneOf, 3, (some .int), 1, true, 11, 1568, 1567, 0, RX11), kX11_doneOf) := ⟨by decide +kernel, by decide +kernel⟩
set_option maxRecDepth 100000 in
theorem ms_k230 : okP ((yX11_years, cX11_years, 6, (some .int), 3, false, 11, 1560, 1558, 1559, RX11), kX11_years) := ⟨by decide +kernel, by decide +kernel⟩
set_option maxRecDepth 100000 in
theorem ms_k231 : okP ((yX11_keep, cX11_keep, 2, (some .boolean), 2, false, 11, 1572, 1570, 1571, RX11), kX11_keep) := ⟨by decide +kernel, by decide +kernel⟩
set_option maxRecDepth 100000 in
theorem ms_k232 : okP ((yX11_again, cX11_again, 3, (some .boolean), 2, false, 11, 1576, 1574, 1575, RX11), kX11_again) := ⟨by decide +kernel, by decide +kernel⟩
set_option maxRecDepth 100000 in
theorem ms_k233 : okP ((yX11_count, cX11_count, 2, (some .int), 2, false, 11, 1580, 1578, 1579, RX11), kX11_count) := ⟨by decide +kernel, by decide +kernel⟩
set_option maxRecDepth 100000 in
theorem ms_k234 : okP ((yX11_row, cX11_row, 2, (some .long), 2, false, 11, 1584, 1582, 1583, RX11), kX11_row) := ⟨by decide +kernel, by decide +kernel⟩
set_option maxRecDepth 100000 in
theorem ms_k235 : okP ((yJ6_compare_7cf53, cJ6_compare_7cf53, 2, (some .int), 2, true, 99, 541, 540, 0, RJ6), kJ6_compare_7cf53) := ⟨by decide +kernel, by decide +kernel⟩
set_option maxRecDepth 100000 in
theorem ms_k236 : okP ((yJ6_bitCount_0f7a4, cJ6_bitCount_0f7a4, 1, (some .int), 1, true, 99, 524, 523, 0, RJ6), kJ6_bitCount_0f7a4) := ⟨by decide +kernel, by decide +kernel⟩
set_option maxRecDepth 100000 in
theorem ms_k237 : okP ((yJ13_compare_74951, cJ13_compare_74951, 4, (some .int), 2, true, 99, 681, 680, 0, RJ13), kJ13_compare_74951) := ⟨by decide +kernel, by decide +kernel⟩
