/-! task, part, row -/
variable {xs : Nat → Int32} {Ln : Nat} {i : Int32} {a5 a6 a7 : Option Value} {IV : lI} {B : Nat} {M : Nat → Nat → Int32} {ML : Nat → Nat → Int64} {R : Nat → Nat → Option Nat} {h : mj_H}
theorem in1 : vp_in 0 1 := by
  unfold vp_in
  decide
set_option maxRecDepth 20000 in
theorem t_thr (M2 : Nat → Nat → Int32) (L2 : Nat → Nat → Int64) (R2 : Nat → Nat → Option Nat) : mj_big 110 131 [.ref 219] (fm_mk (M2, L2, R2)) (some (.int (M2 219 5))) (fm_mk (M2, L2, R2)) := by
  refine ⟨_, _, rfl, rfl, by decide, 4, .aload_n 0, 1, _, _, rfl, Or.inl ⟨1, _, _, rfl, ?_⟩⟩
  refine ⟨_, _, _, _, rfl, Or.inr (Or.inr (Or.inr (Or.inr (Or.inl ⟨[.int (M2 219 5)], _, ⟨219, _, _, _, rfl, rfl, rfl, rfl, rfl⟩, ?_⟩))))⟩
  exact ⟨_, _, _, _, rfl, Or.inr (Or.inr (Or.inr (Or.inr (Or.inr (Or.inr ⟨_, ⟨_, .int, rfl, rfl, rfl, rfl⟩, rfl, rfl⟩)))))⟩

def yh_task : MethodName := ⟨hL, "task", "(LFairSlots;II[J)I"⟩
set_option maxRecDepth 100000 in
theorem w_task : cx_w (.codeWith yh_task method_3_code 5 (some .int) [(0, 10, 13, 13)]) = true ∧ cx_w (.methodLink hL 46 yh_task) = true ∧ cx_w (.static yh_task) = true ∧ cx_w (.methodLink hL 7 yX10_task) = true ∧ (parseMethodDescriptor yh_task.desc).map (fun d => d.parameters.length) = some 4 ∧ plainName yh_task.cls = true := by decide +kernel
set_option maxRecDepth 100000 in
theorem sg_task : mj_sigs[78]? = some (yX10_task, cX10_task, 3, (some .int), 3, false, 10, 960, 958, 959, RX10) ∧ mj_cods[78]? = some kX10_task := ⟨rfl, rfl⟩
set_option maxRecDepth 20000 in
theorem ls_4a (hv : ∀ t : Nat, t ≤ 4 → vp_in (i + nI5 t) Ln) : PSt 110 xs Ln kl_4a (fun h2 pc L st => h2 = h ∧ pc = 330 ∧ st = [.ref 246, .int (lx xs i 2), .int (lx xs i 1), .ref 0] ∧ L = lL i a5 a6 a7) h 316 (lL i a5 a6 a7) [] := by
  refine PS_gos (pc' := 322) (L' := lL i a5 a6 a7) (st' := [.int (i + nI5 1), .ref 250, .ref 0]) [322] 8 rfl ?_
  refine PS_sld rfl (hv 1 (by decide)) ?_
  refine PS_gos (pc' := 328) (L' := lL i a5 a6 a7) (st' := [.int (i + nI5 2), .ref 250, .int (lx xs i 1), .ref 0]) [328] 8 rfl ?_
  refine PS_sld rfl (hv 2 (by decide)) ?_
  exact PS_gos (pc' := 330) (L' := lL i a5 a6 a7) (st' := [.ref 246, .int (lx xs i 2), .int (lx xs i 1), .ref 0]) [330] 4 rfl (PS_end ⟨rfl, rfl, rfl, rfl⟩)
set_option maxRecDepth 20000 in
theorem ls_4n (hv : ∀ t : Nat, t ≤ 4 → vp_in (i + nI5 t) Ln) {v : Int32} {M2 : Nat → Nat → Int32} {L2 : Nat → Nat → Int64} {R2 : Nat → Nat → Option Nat} (hb : mj_big 110 167 (.ref 219 :: [.int (lx xs i 1), .int (lx xs i 2)]) (fm_mk (M, ML, R)) (some (.int v)) (fm_mk (M2, L2, R2))) (ht : M2 219 5 = 0) (ho : L2 246 0 = v.toInt64) (hI : IV B M2 L2 R2) : PSt 110 xs Ln kl_4b (lq IV B i) (fm_mk (M, ML, R)) 333 (lL i a5 a6 a7) [.int 0] := by
  refine PS_gos (pc' := 341) (L' := lL i (some (.int 0)) a6 a7) (st' := [.int (i + nI5 1), .ref 250, .ref 219]) [341] 8 rfl ?_
  refine PS_sld rfl (hv 1 (by decide)) ?_
  refine PS_gos (pc' := 347) (L' := lL i (some (.int 0)) a6 a7) (st' := [.int (i + nI5 2), .ref 250, .int (lx xs i 1), .ref 219]) [347] 8 rfl ?_
  refine PS_sld rfl (hv 2 (by decide)) ?_
  refine PS_call rfl (lc_call (b := 219) (bs := [.int (lx xs i 1), .int (lx xs i 2)]) (rest := []) lo_167 (f219 _) (Nat.le_of_ble_eq_true rfl)) (lc_nm (by decide)) hb ?_
  refine PS_gos (pc' := 354) (L' := lL i (some (.int 0)) (some (.int v)) a7) (st' := [.ref 219]) [354] 4 rfl ?_
  refine PS_call rfl (lc_call (b := 219) (bs := []) (rest := []) lo_131 (f219 _) (Nat.le_of_ble_eq_true rfl)) (lc_nm (by decide)) (t_thr M2 L2 R2) ?_
  refine PS_gos (pc' := 359) (L' := lL i (some (.int 0)) (some (.int v)) a7) (st' := [.int 0, .int (M2 219 5)]) [359] 4 rfl ?_
  refine PS_yes rfl rfl ht ?_
  refine PS_gos (pc' := 366) (L' := lL i (some (.int 0)) (some (.int v)) a7) (st' := [.int 0]) [366] 4 rfl ?_
  refine PS_no rfl rfl (fun z => z rfl) ?_
  refine PS_gos (pc' := 371) (L' := lL i (some (.int 0)) (some (.int v)) a7) (st' := [.int 0, .ref 246]) [371] 4 rfl ?_
  refine PS_mem rfl ⟨246, 0, 1, L2 246, [], rfl, rfl, in1, rfl, rfl⟩ ?_
  refine PS_gos (pc' := 376) (L' := lL i (some (.int 0)) (some (.int v)) a7) (st' := [.int (lg_cmp (L2 246 0) v.toInt64)]) [376] 4 rfl ?_
  refine PS_yes rfl rfl ((lg_cmp_eq _ _).mpr ho) ?_
  exact PS_gos (pc' := 1435) (L' := lL i (some (.int 0)) (some (.int v)) a7) (st' := []) [1435] 4 rfl (PS_end ⟨rfl, rfl, _, _, _, _, _, _, rfl, hI, rfl⟩)
set_option maxRecDepth 20000 in
theorem ls_4t (hv : ∀ t : Nat, t ≤ 4 → vp_in (i + nI5 t) Ln) {v : Int32} {M2 : Nat → Nat → Int32} {L2 : Nat → Nat → Int64} {R2 : Nat → Nat → Option Nat} (hb : mj_big 110 167 (.ref 219 :: [.int (lx xs i 1), .int (lx xs i 2)]) (fm_mk (M, ML, R)) (some (.int v)) (fm_mk (M2, L2, R2))) (ht : M2 219 5 = 1) (hI : IV B M2 L2 R2) : PSt 110 xs Ln kl_4b (lq IV B i) (fm_mk (M, ML, R)) 333 (lL i a5 a6 a7) [.int 1] := by
  refine PS_gos (pc' := 341) (L' := lL i (some (.int 1)) a6 a7) (st' := [.int (i + nI5 1), .ref 250, .ref 219]) [341] 8 rfl ?_
  refine PS_sld rfl (hv 1 (by decide)) ?_
  refine PS_gos (pc' := 347) (L' := lL i (some (.int 1)) a6 a7) (st' := [.int (i + nI5 2), .ref 250, .int (lx xs i 1), .ref 219]) [347] 8 rfl ?_
  refine PS_sld rfl (hv 2 (by decide)) ?_
  refine PS_call rfl (lc_call (b := 219) (bs := [.int (lx xs i 1), .int (lx xs i 2)]) (rest := []) lo_167 (f219 _) (Nat.le_of_ble_eq_true rfl)) (lc_nm (by decide)) hb ?_
  refine PS_gos (pc' := 354) (L' := lL i (some (.int 1)) (some (.int v)) a7) (st' := [.ref 219]) [354] 4 rfl ?_
  refine PS_call rfl (lc_call (b := 219) (bs := []) (rest := []) lo_131 (f219 _) (Nat.le_of_ble_eq_true rfl)) (lc_nm (by decide)) (t_thr M2 L2 R2) ?_
  refine PS_gos (pc' := 359) (L' := lL i (some (.int 1)) (some (.int v)) a7) (st' := [.int 1, .int (M2 219 5)]) [359] 4 rfl ?_
  refine PS_yes rfl rfl ht ?_
  refine PS_gos (pc' := 366) (L' := lL i (some (.int 1)) (some (.int v)) a7) (st' := [.int 1]) [366] 4 rfl ?_
  refine PS_yes rfl rfl (by decide) ?_
  exact PS_gos (pc' := 1435) (L' := lL i (some (.int 1)) (some (.int v)) a7) (st' := []) [1435] 4 rfl (PS_end ⟨rfl, rfl, _, _, _, _, _, _, rfl, hI, rfl⟩)
set_option maxRecDepth 20000 in
theorem hn_task {p1 p2 : Int32} {v : Int32} {M1 : Nat → Nat → Int32} {L1 : Nat → Nat → Int64} {R1 : Nat → Nat → Option Nat} (hb : mj_big 110 78 (.ref 0 :: [.int p1, .int p2]) (fm_mk (M, ML, R)) (some (.int v)) (fm_mk (M1, L1, R1))) : PSt 110 (fun _ => 0) 0 kh_task (fun h2 pc _ st => h2 = fm_mk (M1, fm_ul L1 246 0 v.toInt64, R1) ∧ pc = 18 ∧ st = [.int 0]) (fm_mk (M, ML, R)) 0 (mj_ent [.ref 0, .int p1, .int p2, .ref 246] 5) [] := by
  refine PS_gos (pc' := 5) (L' := [some (.ref 0), some (.int p1), some (.int p2), some (.ref 246), none]) (st' := [.int p2, .int p1, .ref 0, .int 0, .ref 246]) [5] 8 rfl ?_
  refine PS_call rfl (lc_call (b := 0) (bs := [.int p1, .int p2]) (rest := [.int 0, .ref 246]) lo_78 (f0 _) (Nat.le_of_ble_eq_true rfl)) (lc_nm (by decide)) hb ?_
  refine PS_gos (pc' := 9) (L' := [some (.ref 0), some (.int p1), some (.int p2), some (.ref 246), none]) (st' := [.long (v.toInt64), .int 0, .ref 246]) [9] 3 rfl ?_
  refine PS_mem (h' := fm_mk (M1, fm_ul L1 246 0 (v.toInt64), R1)) rfl ⟨246, 0, 1, L1 246, v.toInt64, [], rfl, rfl, in1, rfl, ?_⟩ ?_
  · exact (fm_up_arl (S := (M1, L1, R1)) (a := 246) (n := 1) (i := 0) rfl).symm
  · exact PS_gos (pc' := 18) (L' := [some (.ref 0), some (.int p1), some (.int p2), some (.ref 246), none]) (st' := [.int 0]) [18] 3 rfl (PS_end ⟨rfl, rfl, rfl⟩)
set_option maxRecDepth 20000 in
theorem ht_task {p1 p2 : Int32} : PSt 111 (fun _ => 0) 0 kh_task (fun h2 pc _ st => h2 = h ∧ pc = 5 ∧ st = x_st [.int p1, .int p2]) h 0 (mj_ent [.ref 0, .int p1, .int p2, .ref 246] 5) [] := by
  exact PS_gos (pc' := 5) (L' := [some (.ref 0), some (.int p1), some (.int p2), some (.ref 246), none]) (st' := [.int p2, .int p1, .ref 0, .int 0, .ref 246]) [5] 8 rfl (PS_end ⟨rfl, rfl, rfl⟩)
theorem hd_task : decode method_3_code 5 = .ok (.invokevirtual 7, 3) ∧ decode method_3_code 18 = .ok (.ireturn, 1) := by decide +kernel
def yh_part : MethodName := ⟨hL, "part", "(LFairSlots;III[J)I"⟩
set_option maxRecDepth 100000 in
theorem w_part : cx_w (.codeWith yh_part method_4_code 6 (some .int) [(0, 12, 15, 13)]) = true ∧ cx_w (.methodLink hL 55 yh_part) = true ∧ cx_w (.static yh_part) = true ∧ cx_w (.methodLink hL 15 yX10_part) = true ∧ (parseMethodDescriptor yh_part.desc).map (fun d => d.parameters.length) = some 5 ∧ plainName yh_part.cls = true := by decide +kernel
set_option maxRecDepth 100000 in
theorem sg_part : mj_sigs[79]? = some (yX10_part, cX10_part, 4, (some .int), 4, false, 10, 1028, 1026, 1027, RX10) ∧ mj_cods[79]? = some kX10_part := ⟨rfl, rfl⟩
set_option maxRecDepth 20000 in
theorem ls_5a (hv : ∀ t : Nat, t ≤ 4 → vp_in (i + nI5 t) Ln) : PSt 110 xs Ln kl_5a (fun h2 pc L st => h2 = h ∧ pc = 404 ∧ st = [.ref 246, .int (lx xs i 3), .int (lx xs i 2), .int (lx xs i 1), .ref 0] ∧ L = lL i a5 a6 a7) h 384 (lL i a5 a6 a7) [] := by
  refine PS_gos (pc' := 390) (L' := lL i a5 a6 a7) (st' := [.int (i + nI5 1), .ref 250, .ref 0]) [390] 8 rfl ?_
  refine PS_sld rfl (hv 1 (by decide)) ?_
  refine PS_gos (pc' := 396) (L' := lL i a5 a6 a7) (st' := [.int (i + nI5 2), .ref 250, .int (lx xs i 1), .ref 0]) [396] 8 rfl ?_
  refine PS_sld rfl (hv 2 (by decide)) ?_
  refine PS_gos (pc' := 402) (L' := lL i a5 a6 a7) (st' := [.int (i + nI5 3), .ref 250, .int (lx xs i 2), .int (lx xs i 1), .ref 0]) [402] 8 rfl ?_
  refine PS_sld rfl (hv 3 (by decide)) ?_
  exact PS_gos (pc' := 404) (L' := lL i a5 a6 a7) (st' := [.ref 246, .int (lx xs i 3), .int (lx xs i 2), .int (lx xs i 1), .ref 0]) [404] 4 rfl (PS_end ⟨rfl, rfl, rfl, rfl⟩)
set_option maxRecDepth 20000 in
theorem ls_5n (hv : ∀ t : Nat, t ≤ 4 → vp_in (i + nI5 t) Ln) {v : Int32} {M2 : Nat → Nat → Int32} {L2 : Nat → Nat → Int64} {R2 : Nat → Nat → Option Nat} (hb : mj_big 110 168 (.ref 219 :: [.int (lx xs i 1), .int (lx xs i 2), .int (lx xs i 3)]) (fm_mk (M, ML, R)) (some (.int v)) (fm_mk (M2, L2, R2))) (ht : M2 219 5 = 0) (ho : L2 246 0 = v.toInt64) (hI : IV B M2 L2 R2) : PSt 110 xs Ln kl_5b (lq IV B i) (fm_mk (M, ML, R)) 407 (lL i a5 a6 a7) [.int 0] := by
  refine PS_gos (pc' := 415) (L' := lL i (some (.int 0)) a6 a7) (st' := [.int (i + nI5 1), .ref 250, .ref 219]) [415] 8 rfl ?_
  refine PS_sld rfl (hv 1 (by decide)) ?_
  refine PS_gos (pc' := 421) (L' := lL i (some (.int 0)) a6 a7) (st' := [.int (i + nI5 2), .ref 250, .int (lx xs i 1), .ref 219]) [421] 8 rfl ?_
  refine PS_sld rfl (hv 2 (by decide)) ?_
  refine PS_gos (pc' := 427) (L' := lL i (some (.int 0)) a6 a7) (st' := [.int (i + nI5 3), .ref 250, .int (lx xs i 2), .int (lx xs i 1), .ref 219]) [427] 8 rfl ?_
  refine PS_sld rfl (hv 3 (by decide)) ?_
  refine PS_call rfl (lc_call (b := 219) (bs := [.int (lx xs i 1), .int (lx xs i 2), .int (lx xs i 3)]) (rest := []) lo_168 (f219 _) (Nat.le_of_ble_eq_true rfl)) (lc_nm (by decide)) hb ?_
  refine PS_gos (pc' := 434) (L' := lL i (some (.int 0)) (some (.int v)) a7) (st' := [.ref 219]) [434] 4 rfl ?_
  refine PS_call rfl (lc_call (b := 219) (bs := []) (rest := []) lo_131 (f219 _) (Nat.le_of_ble_eq_true rfl)) (lc_nm (by decide)) (t_thr M2 L2 R2) ?_
  refine PS_gos (pc' := 439) (L' := lL i (some (.int 0)) (some (.int v)) a7) (st' := [.int 0, .int (M2 219 5)]) [439] 4 rfl ?_
  refine PS_yes rfl rfl ht ?_
  refine PS_gos (pc' := 446) (L' := lL i (some (.int 0)) (some (.int v)) a7) (st' := [.int 0]) [446] 4 rfl ?_
  refine PS_no rfl rfl (fun z => z rfl) ?_
  refine PS_gos (pc' := 451) (L' := lL i (some (.int 0)) (some (.int v)) a7) (st' := [.int 0, .ref 246]) [451] 4 rfl ?_
  refine PS_mem rfl ⟨246, 0, 1, L2 246, [], rfl, rfl, in1, rfl, rfl⟩ ?_
  refine PS_gos (pc' := 456) (L' := lL i (some (.int 0)) (some (.int v)) a7) (st' := [.int (lg_cmp (L2 246 0) v.toInt64)]) [456] 4 rfl ?_
  refine PS_yes rfl rfl ((lg_cmp_eq _ _).mpr ho) ?_
  exact PS_gos (pc' := 1435) (L' := lL i (some (.int 0)) (some (.int v)) a7) (st' := []) [1435] 4 rfl (PS_end ⟨rfl, rfl, _, _, _, _, _, _, rfl, hI, rfl⟩)
set_option maxRecDepth 20000 in
theorem ls_5t (hv : ∀ t : Nat, t ≤ 4 → vp_in (i + nI5 t) Ln) {v : Int32} {M2 : Nat → Nat → Int32} {L2 : Nat → Nat → Int64} {R2 : Nat → Nat → Option Nat} (hb : mj_big 110 168 (.ref 219 :: [.int (lx xs i 1), .int (lx xs i 2), .int (lx xs i 3)]) (fm_mk (M, ML, R)) (some (.int v)) (fm_mk (M2, L2, R2))) (ht : M2 219 5 = 1) (hI : IV B M2 L2 R2) : PSt 110 xs Ln kl_5b (lq IV B i) (fm_mk (M, ML, R)) 407 (lL i a5 a6 a7) [.int 1] := by
  refine PS_gos (pc' := 415) (L' := lL i (some (.int 1)) a6 a7) (st' := [.int (i + nI5 1), .ref 250, .ref 219]) [415] 8 rfl ?_
  refine PS_sld rfl (hv 1 (by decide)) ?_
  refine PS_gos (pc' := 421) (L' := lL i (some (.int 1)) a6 a7) (st' := [.int (i + nI5 2), .ref 250, .int (lx xs i 1), .ref 219]) [421] 8 rfl ?_
  refine PS_sld rfl (hv 2 (by decide)) ?_
  refine PS_gos (pc' := 427) (L' := lL i (some (.int 1)) a6 a7) (st' := [.int (i + nI5 3), .ref 250, .int (lx xs i 2), .int (lx xs i 1), .ref 219]) [427] 8 rfl ?_
  refine PS_sld rfl (hv 3 (by decide)) ?_
  refine PS_call rfl (lc_call (b := 219) (bs := [.int (lx xs i 1), .int (lx xs i 2), .int (lx xs i 3)]) (rest := []) lo_168 (f219 _) (Nat.le_of_ble_eq_true rfl)) (lc_nm (by decide)) hb ?_
  refine PS_gos (pc' := 434) (L' := lL i (some (.int 1)) (some (.int v)) a7) (st' := [.ref 219]) [434] 4 rfl ?_
  refine PS_call rfl (lc_call (b := 219) (bs := []) (rest := []) lo_131 (f219 _) (Nat.le_of_ble_eq_true rfl)) (lc_nm (by decide)) (t_thr M2 L2 R2) ?_
  refine PS_gos (pc' := 439) (L' := lL i (some (.int 1)) (some (.int v)) a7) (st' := [.int 1, .int (M2 219 5)]) [439] 4 rfl ?_
  refine PS_yes rfl rfl ht ?_
  refine PS_gos (pc' := 446) (L' := lL i (some (.int 1)) (some (.int v)) a7) (st' := [.int 1]) [446] 4 rfl ?_
  refine PS_yes rfl rfl (by decide) ?_
  exact PS_gos (pc' := 1435) (L' := lL i (some (.int 1)) (some (.int v)) a7) (st' := []) [1435] 4 rfl (PS_end ⟨rfl, rfl, _, _, _, _, _, _, rfl, hI, rfl⟩)
set_option maxRecDepth 20000 in
theorem hn_part {p1 p2 p3 : Int32} {v : Int32} {M1 : Nat → Nat → Int32} {L1 : Nat → Nat → Int64} {R1 : Nat → Nat → Option Nat} (hb : mj_big 110 79 (.ref 0 :: [.int p1, .int p2, .int p3]) (fm_mk (M, ML, R)) (some (.int v)) (fm_mk (M1, L1, R1))) : PSt 110 (fun _ => 0) 0 kh_part (fun h2 pc _ st => h2 = fm_mk (M1, fm_ul L1 246 0 v.toInt64, R1) ∧ pc = 20 ∧ st = [.int 0]) (fm_mk (M, ML, R)) 0 (mj_ent [.ref 0, .int p1, .int p2, .int p3, .ref 246] 6) [] := by
  refine PS_gos (pc' := 7) (L' := [some (.ref 0), some (.int p1), some (.int p2), some (.int p3), some (.ref 246), none]) (st' := [.int p3, .int p2, .int p1, .ref 0, .int 0, .ref 246]) [7] 8 rfl ?_
  refine PS_call rfl (lc_call (b := 0) (bs := [.int p1, .int p2, .int p3]) (rest := [.int 0, .ref 246]) lo_79 (f0 _) (Nat.le_of_ble_eq_true rfl)) (lc_nm (by decide)) hb ?_
  refine PS_gos (pc' := 11) (L' := [some (.ref 0), some (.int p1), some (.int p2), some (.int p3), some (.ref 246), none]) (st' := [.long (v.toInt64), .int 0, .ref 246]) [11] 3 rfl ?_
  refine PS_mem (h' := fm_mk (M1, fm_ul L1 246 0 (v.toInt64), R1)) rfl ⟨246, 0, 1, L1 246, v.toInt64, [], rfl, rfl, in1, rfl, ?_⟩ ?_
  · exact (fm_up_arl (S := (M1, L1, R1)) (a := 246) (n := 1) (i := 0) rfl).symm
  · exact PS_gos (pc' := 20) (L' := [some (.ref 0), some (.int p1), some (.int p2), some (.int p3), some (.ref 246), none]) (st' := [.int 0]) [20] 3 rfl (PS_end ⟨rfl, rfl, rfl⟩)
set_option maxRecDepth 20000 in
theorem ht_part {p1 p2 p3 : Int32} : PSt 111 (fun _ => 0) 0 kh_part (fun h2 pc _ st => h2 = h ∧ pc = 7 ∧ st = x_st [.int p1, .int p2, .int p3]) h 0 (mj_ent [.ref 0, .int p1, .int p2, .int p3, .ref 246] 6) [] := by
  exact PS_gos (pc' := 7) (L' := [some (.ref 0), some (.int p1), some (.int p2), some (.int p3), some (.ref 246), none]) (st' := [.int p3, .int p2, .int p1, .ref 0, .int 0, .ref 246]) [7] 8 rfl (PS_end ⟨rfl, rfl, rfl⟩)
theorem hd_part : decode method_4_code 7 = .ok (.invokevirtual 15, 3) ∧ decode method_4_code 20 = .ok (.ireturn, 1) := by decide +kernel
def yh_row : MethodName := ⟨hL, "row", "(LFairSlots;I[J)I"⟩
set_option maxRecDepth 100000 in
theorem w_row : cx_w (.codeWith yh_row method_5_code 4 (some .int) [(0, 8, 11, 13)]) = true ∧ cx_w (.methodLink hL 220 yh_row) = true ∧ cx_w (.static yh_row) = true ∧ cx_w (.methodLink hL 19 yX10_row) = true ∧ (parseMethodDescriptor yh_row.desc).map (fun d => d.parameters.length) = some 3 ∧ plainName yh_row.cls = true := by decide +kernel
set_option maxRecDepth 100000 in
theorem sg_row : mj_sigs[130]? = some (yX10_row, cX10_row, 2, (some .long), 2, false, 10, 1038, 1036, 1037, RX10) ∧ mj_cods[130]? = some kX10_row := ⟨rfl, rfl⟩
set_option maxRecDepth 20000 in
theorem ls_46a (hv : ∀ t : Nat, t ≤ 4 → vp_in (i + nI5 t) Ln) : PSt 110 xs Ln kl_46a (fun h2 pc L st => h2 = h ∧ pc = 1388 ∧ st = [.ref 246, .int (lx xs i 1), .ref 0] ∧ L = lL i a5 a6 a7) h 1380 (lL i a5 a6 a7) [] := by
  refine PS_gos (pc' := 1386) (L' := lL i a5 a6 a7) (st' := [.int (i + nI5 1), .ref 250, .ref 0]) [1386] 8 rfl ?_
  refine PS_sld rfl (hv 1 (by decide)) ?_
  exact PS_gos (pc' := 1388) (L' := lL i a5 a6 a7) (st' := [.ref 246, .int (lx xs i 1), .ref 0]) [1388] 4 rfl (PS_end ⟨rfl, rfl, rfl, rfl⟩)
set_option maxRecDepth 20000 in
theorem ls_46n (hv : ∀ t : Nat, t ≤ 4 → vp_in (i + nI5 t) Ln) {v : Int64} {M2 : Nat → Nat → Int32} {L2 : Nat → Nat → Int64} {R2 : Nat → Nat → Option Nat} (hb : mj_big 110 234 (.ref 219 :: [.int (lx xs i 1)]) (fm_mk (M, ML, R)) (some (.long v)) (fm_mk (M2, L2, R2))) (ht : M2 219 5 = 0) (ho : L2 246 0 = v) (hI : IV B M2 L2 R2) : PSt 110 xs Ln kl_46b (lq IV B i) (fm_mk (M, ML, R)) 1391 (lL i a5 a6 a7) [.int 0] := by
  refine PS_gos (pc' := 1399) (L' := lL i (some (.int 0)) a6 a7) (st' := [.int (i + nI5 1), .ref 250, .ref 219]) [1399] 8 rfl ?_
  refine PS_sld rfl (hv 1 (by decide)) ?_
  refine PS_call rfl (lc_call (b := 219) (bs := [.int (lx xs i 1)]) (rest := []) lo_234 (f219 _) (Nat.le_of_ble_eq_true rfl)) (lc_nm (by decide)) hb ?_
  refine PS_gos (pc' := 1406) (L' := lL i (some (.int 0)) (some (.long v)) none) (st' := [.ref 219]) [1406] 4 rfl ?_
  refine PS_call rfl (lc_call (b := 219) (bs := []) (rest := []) lo_131 (f219 _) (Nat.le_of_ble_eq_true rfl)) (lc_nm (by decide)) (t_thr M2 L2 R2) ?_
  refine PS_gos (pc' := 1411) (L' := lL i (some (.int 0)) (some (.long v)) none) (st' := [.int 0, .int (M2 219 5)]) [1411] 4 rfl ?_
  refine PS_yes rfl rfl ht ?_
  refine PS_gos (pc' := 1418) (L' := lL i (some (.int 0)) (some (.long v)) none) (st' := [.int 0]) [1418] 4 rfl ?_
  refine PS_no rfl rfl (fun z => z rfl) ?_
  refine PS_gos (pc' := 1423) (L' := lL i (some (.int 0)) (some (.long v)) none) (st' := [.int 0, .ref 246]) [1423] 4 rfl ?_
  refine PS_mem rfl ⟨246, 0, 1, L2 246, [], rfl, rfl, in1, rfl, rfl⟩ ?_
  refine PS_gos (pc' := 1427) (L' := lL i (some (.int 0)) (some (.long v)) none) (st' := [.int (lg_cmp (L2 246 0) v)]) [1427] 4 rfl ?_
  refine PS_yes rfl rfl ((lg_cmp_eq _ _).mpr ho) ?_
  exact PS_gos (pc' := 1435) (L' := lL i (some (.int 0)) (some (.long v)) none) (st' := []) [1435] 4 rfl (PS_end ⟨rfl, rfl, _, _, _, _, _, _, rfl, hI, rfl⟩)
set_option maxRecDepth 20000 in
theorem ls_46t (hv : ∀ t : Nat, t ≤ 4 → vp_in (i + nI5 t) Ln) {v : Int64} {M2 : Nat → Nat → Int32} {L2 : Nat → Nat → Int64} {R2 : Nat → Nat → Option Nat} (hb : mj_big 110 234 (.ref 219 :: [.int (lx xs i 1)]) (fm_mk (M, ML, R)) (some (.long v)) (fm_mk (M2, L2, R2))) (ht : M2 219 5 = 1) (hI : IV B M2 L2 R2) : PSt 110 xs Ln kl_46b (lq IV B i) (fm_mk (M, ML, R)) 1391 (lL i a5 a6 a7) [.int 1] := by
  refine PS_gos (pc' := 1399) (L' := lL i (some (.int 1)) a6 a7) (st' := [.int (i + nI5 1), .ref 250, .ref 219]) [1399] 8 rfl ?_
  refine PS_sld rfl (hv 1 (by decide)) ?_
  refine PS_call rfl (lc_call (b := 219) (bs := [.int (lx xs i 1)]) (rest := []) lo_234 (f219 _) (Nat.le_of_ble_eq_true rfl)) (lc_nm (by decide)) hb ?_
  refine PS_gos (pc' := 1406) (L' := lL i (some (.int 1)) (some (.long v)) none) (st' := [.ref 219]) [1406] 4 rfl ?_
  refine PS_call rfl (lc_call (b := 219) (bs := []) (rest := []) lo_131 (f219 _) (Nat.le_of_ble_eq_true rfl)) (lc_nm (by decide)) (t_thr M2 L2 R2) ?_
  refine PS_gos (pc' := 1411) (L' := lL i (some (.int 1)) (some (.long v)) none) (st' := [.int 1, .int (M2 219 5)]) [1411] 4 rfl ?_
  refine PS_yes rfl rfl ht ?_
  refine PS_gos (pc' := 1418) (L' := lL i (some (.int 1)) (some (.long v)) none) (st' := [.int 1]) [1418] 4 rfl ?_
  refine PS_yes rfl rfl (by decide) ?_
  exact PS_gos (pc' := 1435) (L' := lL i (some (.int 1)) (some (.long v)) none) (st' := []) [1435] 4 rfl (PS_end ⟨rfl, rfl, _, _, _, _, _, _, rfl, hI, rfl⟩)
set_option maxRecDepth 20000 in
theorem hn_row {p1 : Int32} {v : Int64} {M1 : Nat → Nat → Int32} {L1 : Nat → Nat → Int64} {R1 : Nat → Nat → Option Nat} (hb : mj_big 110 130 (.ref 0 :: [.int p1]) (fm_mk (M, ML, R)) (some (.long v)) (fm_mk (M1, L1, R1))) : PSt 110 (fun _ => 0) 0 kh_row (fun h2 pc _ st => h2 = fm_mk (M1, fm_ul L1 246 0 v, R1) ∧ pc = 15 ∧ st = [.int 0]) (fm_mk (M, ML, R)) 0 (mj_ent [.ref 0, .int p1, .ref 246] 4) [] := by
  refine PS_gos (pc' := 4) (L' := [some (.ref 0), some (.int p1), some (.ref 246), none]) (st' := [.int p1, .ref 0, .int 0, .ref 246]) [4] 8 rfl ?_
  refine PS_call rfl (lc_call (b := 0) (bs := [.int p1]) (rest := [.int 0, .ref 246]) lo_130 (f0 _) (Nat.le_of_ble_eq_true rfl)) (lc_nm (by decide)) hb ?_
  refine PS_gos (pc' := 7) (L' := [some (.ref 0), some (.int p1), some (.ref 246), none]) (st' := [.long (v), .int 0, .ref 246]) [7] 3 rfl ?_
  refine PS_mem (h' := fm_mk (M1, fm_ul L1 246 0 (v), R1)) rfl ⟨246, 0, 1, L1 246, v, [], rfl, rfl, in1, rfl, ?_⟩ ?_
  · exact (fm_up_arl (S := (M1, L1, R1)) (a := 246) (n := 1) (i := 0) rfl).symm
  · exact PS_gos (pc' := 15) (L' := [some (.ref 0), some (.int p1), some (.ref 246), none]) (st' := [.int 0]) [15] 3 rfl (PS_end ⟨rfl, rfl, rfl⟩)
set_option maxRecDepth 20000 in
theorem ht_row {p1 : Int32} : PSt 111 (fun _ => 0) 0 kh_row (fun h2 pc _ st => h2 = h ∧ pc = 4 ∧ st = x_st [.int p1]) h 0 (mj_ent [.ref 0, .int p1, .ref 246] 4) [] := by
  exact PS_gos (pc' := 4) (L' := [some (.ref 0), some (.int p1), some (.ref 246), none]) (st' := [.int p1, .ref 0, .int 0, .ref 246]) [4] 8 rfl (PS_end ⟨rfl, rfl, rfl⟩)
theorem hd_row : decode method_5_code 4 = .ok (.invokevirtual 19, 3) ∧ decode method_5_code 15 = .ok (.ireturn, 1) := by decide +kernel
