set_option maxRecDepth 100000 in
theorem ms_k241 : okP ((yJ7_fill_d0a16, cJ7_fill_d0a16, 5, none, 2, true, 99, 894, 893, 0, RJ7), kJ7_fill_d0a16) := ⟨by decide +kernel, by decide +kernel⟩
set_option maxRecDepth 100000 in
theorem ms_k242 : okP ((yJ7_fill_53178, cJ7_fill_53178, 4, none, 2, true, 99, 727, 726, 0, RJ7), kJ7_fill_53178) := ⟨by decide +kernel, by decide +kernel⟩
