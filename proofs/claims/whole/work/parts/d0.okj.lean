set_option maxRecDepth 100000 in
theorem ms_k193 : okP ((yX11_runs, cX11_runs, 3, (some .int), 2, false, 11, 1421, 1419, 1420, RX11), kX11_runs) := ⟨by decide +kernel, by decide +kernel⟩
set_option maxRecDepth 100000 in
theorem ms_k194 : okP ((yX11_when, cX11_when, 4, (some .int), 3, false, 11, 1425, 1423, 1424, RX11), kX11_when) := ⟨by decide +kernel, by decide +kernel⟩
set_option maxRecDepth 100000 in
theorem ms_k195 : okP ((yX11_misses, cX11_misses, 2, (some .int), 1, false, 11, 1429, 1427, 1428, RX11), kX11_misses) := ⟨by decide +kernel, by decide +kernel⟩
set_option maxRecDepth 100000 in
theorem ms_k196 : okP ((yX11_round, cX11_round, 5, (some .int), 1, false, 11, 1433, 1431, 1432, RX11), kX11_round) := ⟨by decide +kernel, by decide +kernel⟩
set_option maxRecDepth 100000 in
theorem ms_k197 : okP ((yX11_share, cX11_share, 10, (some .int), 3, false, 11, 1437, 1435, 1436, RX11), kX11_share) := ⟨by decide +kernel, by decide +kernel⟩
set_option maxRecDepth 100000 in
theorem ms_k198 : okP ((yX11_pairs, cX11_pairs, 6, (some .int), 2, false, 11, 1442, 1440, 1441, RX11), kX11_pairs) := ⟨by decide +kernel, by decide +kernel⟩
set_option maxRecDepth 100000 in
theorem ms_k199 : okP ((yX11_lags, cX11_lags, 19, (some .int), 2, false, 11, 1446, 1444, 1445, RX11), kX11_lags) := ⟨by decide +kernel, by decide +kernel⟩
set_option maxRecDepth 100000 in
theorem ms_k200 : okP ((yX11_layDue, cX11_layDue, 4, none, 2, false, 11, 1454, 1453, 41, RX11), kX11_layDue) := ⟨by decide +kernel, by decide +kernel⟩
set_option maxRecDepth 100000 in
theorem ms_k201 : okP ((yX11_finds, cX11_finds, 5, (some .boolean), 2, false, 11, 1458, 1457, 42, RX11), kX11_finds) := ⟨by decide +kernel, by decide +kernel⟩
set_option maxRecDepth 100000 in
theorem ms_k202 : okP ((yX11_hasRoom, cX11_hasRoom, 4, (some .boolean), 2, false, 11, 1462, 1461, 43, RX11), kX11_hasRoom) := ⟨by decide +kernel, by decide +kernel⟩
