/-! the loop: one call, and on -/
def lw_cs : List (Nat × Nat × Nat) := [(74, 151, 1), (75, 152, 1), (76, 163, 0), (77, 166, 0), (80, 169, 4), (82, 173, 0), (83, 175, 1), (84, 177, 1), (85, 180, 1), (86, 181, 1), (88, 182, 0), (90, 185, 0), (91, 187, 1), (92, 188, 0), (93, 189, 0), (94, 191, 0), (95, 192, 1), (96, 193, 1), (97, 194, 2), (98, 195, 0), (99, 196, 0), (100, 197, 2), (101, 198, 1), (103, 199, 1), (104, 203, 1), (105, 204, 1), (107, 205, 0), (108, 206, 0), (109, 209, 2), (110, 210, 0), (111, 213, 0), (112, 214, 0), (113, 215, 2), (114, 216, 0), (115, 218, 0), (116, 219, 0), (117, 220, 3), (118, 222, 1), (119, 225, 1), (122, 227, 0), (124, 230, 2), (127, 231, 1), (128, 232, 1), (129, 233, 1)]
/-- what the two sides keep, call by call -/
def lwH (IV : lI) : Prop := (∀ B C M ML R, IV B M ML R → B ≤ C → IV C M ML R) ∧ ∀ B M ML R, IV B M ML R → B + 1700 < 2 ^ 20 → (∀ q ∈ lw_cs, ∀ as : List Int32, as.length = q.2.2 → lwP IV (B + 1700) q.1 q.2.1 (as.map .int) M ML R) ∧ (∀ x y, lwTi IV (B + 1700) 78 167 cX10_task kX10_task 3 [.int x, .int y] M ML R) ∧ (∀ x y z, lwTi IV (B + 1700) 79 168 cX10_part kX10_part 4 [.int x, .int y, .int z] M ML R) ∧ ∀ x, lwTl IV (B + 1700) 130 234 cX10_row kX10_row 2 [.int x] M ML R
section heads
variable {xs : Nat → Int32} {Ln : Nat} {i : Int32} {a5 a6 a7 : Option Value} {h : mj_H}
set_option maxRecDepth 20000 in
theorem lh_out (hlt : Int32.ofNat Ln - 5 < i) : PSt 110 xs Ln kl_h (fun h2 pc L st => h2 = h ∧ pc = 1441 ∧ st = [] ∧ L = lL i a5 a6 a7) h 23 (lL i a5 a6 a7) [] := by
  refine PS_gos (pc' := 26) (L' := lL i a5 a6 a7) (st' := [.ref 250, .int i]) [26] 4 rfl ?_
  refine PS_slen rfl ?_
  refine PS_gos (pc' := 29) (L' := lL i a5 a6 a7) (st' := [.int (Int32.ofNat Ln - 5), .int i]) [29] 4 rfl ?_
  exact PS_yes rfl rfl hlt (PS_end ⟨rfl, rfl, rfl, rfl⟩)
theorem lh_sw {x : Int32} {j t : Nat} (hx : x.toInt = (j : Int)) (ht : mj_sw (.tableswitch 1396 0 46 #[201, 226, 251, 264, 277, 345, 425, 486, 499, 524, 549, 574, 599, 612, 625, 650, 663, 676, 689, 714, 739, 776, 789, 802, 839, 864, 889, 914, 939, 952, 965, 1002, 1015, 1028, 1041, 1078, 1091, 1104, 1117, 1166, 1191, 1216, 1229, 1266, 1291, 1316, 1341]) 39 [.int (Int32.ofNat j)] = some ((t : Int), [])) (hj : j < 64 := by decide) : mj_sw (.tableswitch 1396 0 46 #[201, 226, 251, 264, 277, 345, 425, 486, 499, 524, 549, 574, 599, 612, 625, 650, 663, 676, 689, 714, 739, 776, 789, 802, 839, 864, 889, 914, 939, 952, 965, 1002, 1015, 1028, 1041, 1078, 1091, 1104, 1117, 1166, 1191, 1216, 1229, 1266, 1291, 1316, 1341]) 39 [.int x] = some ((t : Int), []) := by
  have e : x = Int32.ofNat j := Int32.toInt_inj.mp (by rw [hx, Int32.toInt_ofNat_of_lt (by omega)])
  rw [e]
  exact ht
set_option maxRecDepth 20000 in
theorem lh_go {t : Nat} (hle : ¬ Int32.ofNat Ln - 5 < i) (h0 : vp_in i Ln) (ht : mj_sw (.tableswitch 1396 0 46 #[201, 226, 251, 264, 277, 345, 425, 486, 499, 524, 549, 574, 599, 612, 625, 650, 663, 676, 689, 714, 739, 776, 789, 802, 839, 864, 889, 914, 939, 952, 965, 1002, 1015, 1028, 1041, 1078, 1091, 1104, 1117, 1166, 1191, 1216, 1229, 1266, 1291, 1316, 1341]) 39 [.int (xs i.toNatClampNeg &&& 63)] = some ((t : Int), [])) : PSt 110 xs Ln kl_h (fun h2 pc L st => h2 = h ∧ pc = t ∧ st = [] ∧ L = lL i a5 a6 a7) h 23 (lL i a5 a6 a7) [] := by
  refine PS_gos (pc' := 26) (L' := lL i a5 a6 a7) (st' := [.ref 250, .int i]) [26] 4 rfl ?_
  refine PS_slen rfl ?_
  refine PS_gos (pc' := 29) (L' := lL i a5 a6 a7) (st' := [.int (Int32.ofNat Ln - 5), .int i]) [29] 4 rfl ?_
  refine PS_no rfl rfl hle ?_
  refine PS_gos (pc' := 35) (L' := lL i a5 a6 a7) (st' := [.int i, .ref 250]) [35] 4 rfl ?_
  refine PS_sld rfl h0 ?_
  refine PS_gos (pc' := 39) (L' := lL i a5 a6 a7) (st' := [.int (xs i.toNatClampNeg &&& 63)]) [39] 4 rfl ?_
  exact PS_sw rfl ht (PS_end ⟨rfl, rfl, rfl, rfl⟩)
set_option maxRecDepth 20000 in
theorem le_on : PSt 110 xs Ln kl_e (fun h2 pc L st => h2 = h ∧ pc = 23 ∧ st = [] ∧ L = lL (i + 5) a5 a6 a7) h 1435 (lL i a5 a6 a7) [] := by
  exact PS_gos (pc' := 23) (L' := lL (i + 5) a5 a6 a7) (st' := []) [23] 4 rfl (PS_end ⟨rfl, rfl, rfl, rfl⟩)
set_option maxRecDepth 20000 in
theorem le_out : PSt 110 xs Ln kl_e (fun h2 pc _ st => h2 = h ∧ pc = 1442 ∧ st = [.int 1]) h 1441 (lL i a5 a6 a7) [] := by
  exact PS_gos (pc' := 1442) (L' := lL i a5 a6 a7) (st' := [.int 1]) [1442] 4 rfl (PS_end ⟨rfl, rfl, rfl⟩)
end heads
theorem l_ge {n L : Nat} (hL : L ≤ 2560) (hn : 5 * n ≤ 2565) (h : L < 5 * n + 5) : Int32.ofNat L - 5 < nI (5 * n) := by
  rcases Nat.lt_or_ge L 5 with z | z
  · have h0 : (0 : Int32) ≤ nI (5 * n) := nI_le (a := 0) (Nat.zero_le _) (by omega)
    refine Int32.lt_of_lt_of_le ?_ h0
    rcases (show L = 0 ∨ L = 1 ∨ L = 2 ∨ L = 3 ∨ L = 4 by omega) with rfl | rfl | rfl | rfl | rfl <;> decide
  · obtain ⟨k, rfl⟩ : ∃ k, L = k + 5 := ⟨L - 5, by omega⟩
    have e : Int32.ofNat (k + 5) - 5 = nI k := by
      rw [show Int32.ofNat (k + 5) = nI k + 5 from (nI_add k 5).symm, Int32.add_sub_cancel]
    rw [e]
    exact nI_lt (by omega) (by omega)
theorem l_lt {n L : Nat} (hL : L ≤ 2560) (h : 5 * n + 5 ≤ L) : ¬ Int32.ofNat L - 5 < nI (5 * n) := by
  obtain ⟨k, rfl⟩ : ∃ k, L = k + 5 := ⟨L - 5, by omega⟩
  have e : Int32.ofNat (k + 5) - 5 = nI k := by
    rw [show Int32.ofNat (k + 5) = nI k + 5 from (nI_add k 5).symm, Int32.add_sub_cancel]
  rw [e, Int32.not_lt]
  exact nI_le (by omega) (by omega)
theorem l_in {n L t : Nat} (hL : L ≤ 2560) (h : 5 * n + 5 ≤ L) (ht : t ≤ 4) : vp_in (nI (5 * n) + nI5 t) L := by
  have e : nI5 t = nI t := by
    rcases (show t = 0 ∨ t = 1 ∨ t = 2 ∨ t = 3 ∨ t = 4 by omega) with rfl | rfl | rfl | rfl | rfl <;> rfl
  rw [e, nI_add]
  exact nI_in (by omega) (by omega)
theorem d_1442 : decode code 1442 = .ok (.ireturn, 1) := by decide +kernel
section lwn
variable {p : Program} {l : Launch} {e : Env} {s : State} {m : MethodId} {below : List Frame} {meth : Method} {c : Code} {b L : Nat} {xs : Nat → Int32} {D : va_G} {cA : Nat → ClassId} {t1 t2 : Nat} {IV : lI}
theorem lw_out (hOK : ms_OK2) (X : lw_X p s m meth c b L xs D cA t1 t2) {n : Nat} (hn : n ≤ 513) {h : mj_H} {a5 a6 a7 : Option Value} {H : Heap} {locs : List Loc} {ls : Array Slot} (hlt : Int32.ofNat L - 5 < nI (5 * n)) (hR : ms_Rel D cA (s_ad s.heap.size t1 t2 b) 247 (cx_A s.heap.size) s.heap h H locs) (hll : ms_L (s_ad s.heap.size t1 t2 b) 8 (lL (nI (5 * n)) a5 a6 a7) ls) :
    W p l e room_1 s m #[Value.ref b] below meth c H locs (245 + n) (4434 + 6 * n) (lw_Z below #[Value.ref b] s) (F0 m 23 ls (([] : List Value).map (ms_v (s_ad s.heap.size t1 t2 b)))) := by
  refine lw_seg hOK X ⟨by omega, by omega⟩ kl_h_ok (lh_out (h := h) (a5 := a5) (a6 := a6) (a7 := a7) hlt) hR hll (fun h2 pc Lo st H1 locs1 ls1 hq hR1 hll1 => ?_)
  obtain ⟨rfl, rfl, rfl, rfl⟩ := hq
  refine lw_seg hOK X ⟨by omega, by omega⟩ kl_e_ok (le_out (i := nI (5 * n)) (a5 := a5) (a6 := a6) (a7 := a7)) hR1 hll1 (fun h3 pc Lo st H2 locs2 ls2 hq hR2 hll2 => ?_)
  obtain ⟨rfl, rfl, rfl⟩ := hq
  obtain ⟨⟨hx, hb, hret, hml, hown, hts, hX, hbl, hlk, hgv⟩, hK, hZ, hxZ⟩ := X
  refine va_forget (fun q hq => hR2.2.2.1.2.2 q hq) ?_
  refine W.widen (k := 601024) (n := 7293034) (by omega) (by omega) ?_
  exact lw_ret hx hb hret hlk d_1442
set_option maxHeartbeats 4000000 in
theorem lw_step (hOK : ms_OK2) (hlt : l.stackTraces = false) (X : lw_X p s m meth c b L xs D cA t1 t2) (hH : lwH IV) (hL : L ≤ 2560) {n : Nat} (hn : 5 * n + 5 ≤ L) {M : Nat → Nat → Int32} {ML : Nat → Nat → Int64} {R : Nat → Nat → Option Nat} {a5 a6 a7 : Option Value} {H : Heap} {locs : List Loc} {ls : Array Slot} {Q : State → Prop} (hI : IV (1700 * n) M ML R) (hR : ms_Rel D cA (s_ad s.heap.size t1 t2 b) 247 (cx_A s.heap.size) s.heap (fm_mk (M, ML, R)) H locs) (hll : ms_L (s_ad s.heap.size t1 t2 b) 8 (lL (nI (5 * n)) a5 a6 a7) ls)
    (kk : ∀ (h : mj_H) (pc : Nat) (Lo : mj_L) (st : List Value) (H : Heap) (locs : List Loc) (ls : Array Slot), lq IV (1700 * n + 1700) (nI (5 * n)) h pc Lo st → ms_Rel D cA (s_ad s.heap.size t1 t2 b) 247 (cx_A s.heap.size) s.heap h H locs → ms_L (s_ad s.heap.size t1 t2 b) 8 Lo ls → W p l e room_1 s m #[Value.ref b] below meth c H locs (245 + n + 1) (4434 + 6 * n + 6) Q (F0 m pc ls (st.map (ms_v (s_ad s.heap.size t1 t2 b))))) :
    W p l e room_1 s m #[Value.ref b] below meth c H locs (245 + n) (4434 + 6 * n) Q (F0 m 23 ls (([] : List Value).map (ms_v (s_ad s.heap.size t1 t2 b)))) := by
  have hle := l_lt hL hn
  have hv : ∀ t : Nat, t ≤ 4 → vp_in (nI (5 * n) + nI5 t) L := fun t ht => l_in hL hn ht
  have h0 : vp_in (nI (5 * n)) L := nI_in (by omega) (by omega)
  have hh2 := hH.2 (1700 * n) M ML R hI (by omega)
  generalize hxe : xs (nI (5 * n)).toNatClampNeg &&& 63 = x
  by_cases hx : x.toInt < 0 ∨ 46 < x.toInt
  · refine lw_seg hOK X ⟨by omega, by omega⟩ kl_h_ok (lh_go (h := fm_mk (M, ML, R)) (a5 := a5) (a6 := a6) (a7 := a7) (t := 1435) hle h0 ?_) hR hll (fun h2 pc Lo st H locs ls hq hR hll => ?_)
    · rw [hxe]
      simp only [mj_sw]
      rw [if_pos hx]
      rfl
    · obtain ⟨rfl, rfl, rfl, rfl⟩ := hq
      refine W.widen (k := 245 + n + 1) (n := 4434 + 6 * n + 6) (by omega) (by omega) ?_
      exact kk _ _ _ _ _ _ _ ⟨rfl, rfl, _, _, _, _, _, _, rfl, hH.1 _ _ _ _ _ hI (by omega), rfl⟩ hR hll
  · rcases (show x.toInt = 0 ∨ x.toInt = 1 ∨ x.toInt = 2 ∨ x.toInt = 3 ∨ x.toInt = 4 ∨ x.toInt = 5 ∨ x.toInt = 6 ∨ x.toInt = 7 ∨ x.toInt = 8 ∨ x.toInt = 9 ∨ x.toInt = 10 ∨ x.toInt = 11 ∨ x.toInt = 12 ∨ x.toInt = 13 ∨ x.toInt = 14 ∨ x.toInt = 15 ∨ x.toInt = 16 ∨ x.toInt = 17 ∨ x.toInt = 18 ∨ x.toInt = 19 ∨ x.toInt = 20 ∨ x.toInt = 21 ∨ x.toInt = 22 ∨ x.toInt = 23 ∨ x.toInt = 24 ∨ x.toInt = 25 ∨ x.toInt = 26 ∨ x.toInt = 27 ∨ x.toInt = 28 ∨ x.toInt = 29 ∨ x.toInt = 30 ∨ x.toInt = 31 ∨ x.toInt = 32 ∨ x.toInt = 33 ∨ x.toInt = 34 ∨ x.toInt = 35 ∨ x.toInt = 36 ∨ x.toInt = 37 ∨ x.toInt = 38 ∨ x.toInt = 39 ∨ x.toInt = 40 ∨ x.toInt = 41 ∨ x.toInt = 42 ∨ x.toInt = 43 ∨ x.toInt = 44 ∨ x.toInt = 45 ∨ x.toInt = 46 by omega) with hx | hx | hx | hx | hx | hx | hx | hx | hx | hx | hx | hx | hx | hx | hx | hx | hx | hx | hx | hx | hx | hx | hx | hx | hx | hx | hx | hx | hx | hx | hx | hx | hx | hx | hx | hx | hx | hx | hx | hx | hx | hx | hx | hx | hx | hx | hx
    all_goals (rw [← hxe] at hx)
    · refine lw_seg hOK X ⟨by omega, by omega⟩ kl_h_ok (lh_go (h := fm_mk (M, ML, R)) (a5 := a5) (a6 := a6) (a7 := a7) (t := 240) hle h0 (lh_sw (j := 0) hx rfl)) hR hll (fun h2 pc Lo st H locs ls hq hR hll => ?_)
      obtain ⟨rfl, rfl, rfl, rfl⟩ := hq
      refine W.widen (k := 245 + n + 1) (n := 4434 + 6 * n + 6) (by omega) (by omega) ?_
      exact lw_seg hOK X ⟨by omega, by omega⟩ kl_0_ok (lc_0 (a5 := a5) (a6 := a6) (a7 := a7) hv (hh2.1 (74, 151, 1) (by decide) [lx xs (nI (5 * n)) 1] rfl)) hR hll kk
    · refine lw_seg hOK X ⟨by omega, by omega⟩ kl_h_ok (lh_go (h := fm_mk (M, ML, R)) (a5 := a5) (a6 := a6) (a7 := a7) (t := 265) hle h0 (lh_sw (j := 1) hx rfl)) hR hll (fun h2 pc Lo st H locs ls hq hR hll => ?_)
      obtain ⟨rfl, rfl, rfl, rfl⟩ := hq
      refine W.widen (k := 245 + n + 1) (n := 4434 + 6 * n + 6) (by omega) (by omega) ?_
      exact lw_seg hOK X ⟨by omega, by omega⟩ kl_1_ok (lc_1 (a5 := a5) (a6 := a6) (a7 := a7) hv (hh2.1 (75, 152, 1) (by decide) [lx xs (nI (5 * n)) 1] rfl)) hR hll kk
    · refine lw_seg hOK X ⟨by omega, by omega⟩ kl_h_ok (lh_go (h := fm_mk (M, ML, R)) (a5 := a5) (a6 := a6) (a7 := a7) (t := 290) hle h0 (lh_sw (j := 2) hx rfl)) hR hll (fun h2 pc Lo st H locs ls hq hR hll => ?_)
      obtain ⟨rfl, rfl, rfl, rfl⟩ := hq
      refine W.widen (k := 245 + n + 1) (n := 4434 + 6 * n + 6) (by omega) (by omega) ?_
      exact lw_seg hOK X ⟨by omega, by omega⟩ kl_2_ok (lc_2 (a5 := a5) (a6 := a6) (a7 := a7) hv (hh2.1 (76, 163, 0) (by decide) [] rfl)) hR hll kk
    · refine lw_seg hOK X ⟨by omega, by omega⟩ kl_h_ok (lh_go (h := fm_mk (M, ML, R)) (a5 := a5) (a6 := a6) (a7 := a7) (t := 303) hle h0 (lh_sw (j := 3) hx rfl)) hR hll (fun h2 pc Lo st H locs ls hq hR hll => ?_)
      obtain ⟨rfl, rfl, rfl, rfl⟩ := hq
      refine W.widen (k := 245 + n + 1) (n := 4434 + 6 * n + 6) (by omega) (by omega) ?_
      exact lw_seg hOK X ⟨by omega, by omega⟩ kl_3_ok (lc_3 (a5 := a5) (a6 := a6) (a7 := a7) hv (hh2.1 (77, 166, 0) (by decide) [] rfl)) hR hll kk
    · refine lw_seg hOK X ⟨by omega, by omega⟩ kl_h_ok (lh_go (h := fm_mk (M, ML, R)) (a5 := a5) (a6 := a6) (a7 := a7) (t := 316) hle h0 (lh_sw (j := 4) hx rfl)) hR hll (fun h2 pc Lo st H locs ls hq hR hll => ?_)
      obtain ⟨rfl, rfl, rfl, rfl⟩ := hq
      exact lw_s4 hOK hlt X ⟨by omega, by omega⟩ hv (hh2.2.1 (lx xs (nI (5 * n)) 1) (lx xs (nI (5 * n)) 2)) hR hll kk
    · refine lw_seg hOK X ⟨by omega, by omega⟩ kl_h_ok (lh_go (h := fm_mk (M, ML, R)) (a5 := a5) (a6 := a6) (a7 := a7) (t := 384) hle h0 (lh_sw (j := 5) hx rfl)) hR hll (fun h2 pc Lo st H locs ls hq hR hll => ?_)
      obtain ⟨rfl, rfl, rfl, rfl⟩ := hq
      exact lw_s5 hOK hlt X ⟨by omega, by omega⟩ hv (hh2.2.2.1 (lx xs (nI (5 * n)) 1) (lx xs (nI (5 * n)) 2) (lx xs (nI (5 * n)) 3)) hR hll kk
    · refine lw_seg hOK X ⟨by omega, by omega⟩ kl_h_ok (lh_go (h := fm_mk (M, ML, R)) (a5 := a5) (a6 := a6) (a7 := a7) (t := 464) hle h0 (lh_sw (j := 6) hx rfl)) hR hll (fun h2 pc Lo st H locs ls hq hR hll => ?_)
      obtain ⟨rfl, rfl, rfl, rfl⟩ := hq
      refine W.widen (k := 245 + n + 1) (n := 4434 + 6 * n + 6) (by omega) (by omega) ?_
      exact lw_seg hOK X ⟨by omega, by omega⟩ kl_6_ok (lc_6 (a5 := a5) (a6 := a6) (a7 := a7) hv (hh2.1 (80, 169, 4) (by decide) [lx xs (nI (5 * n)) 1, lx xs (nI (5 * n)) 2, lx xs (nI (5 * n)) 3, lx xs (nI (5 * n)) 4] rfl)) hR hll kk
    · refine lw_seg hOK X ⟨by omega, by omega⟩ kl_h_ok (lh_go (h := fm_mk (M, ML, R)) (a5 := a5) (a6 := a6) (a7 := a7) (t := 525) hle h0 (lh_sw (j := 7) hx rfl)) hR hll (fun h2 pc Lo st H locs ls hq hR hll => ?_)
      obtain ⟨rfl, rfl, rfl, rfl⟩ := hq
      refine W.widen (k := 245 + n + 1) (n := 4434 + 6 * n + 6) (by omega) (by omega) ?_
      exact lw_seg hOK X ⟨by omega, by omega⟩ kl_7_ok (lc_7 (a5 := a5) (a6 := a6) (a7 := a7) hv (hh2.1 (82, 173, 0) (by decide) [] rfl)) hR hll kk
    · refine lw_seg hOK X ⟨by omega, by omega⟩ kl_h_ok (lh_go (h := fm_mk (M, ML, R)) (a5 := a5) (a6 := a6) (a7 := a7) (t := 538) hle h0 (lh_sw (j := 8) hx rfl)) hR hll (fun h2 pc Lo st H locs ls hq hR hll => ?_)
      obtain ⟨rfl, rfl, rfl, rfl⟩ := hq
      refine W.widen (k := 245 + n + 1) (n := 4434 + 6 * n + 6) (by omega) (by omega) ?_
      exact lw_seg hOK X ⟨by omega, by omega⟩ kl_8_ok (lc_8 (a5 := a5) (a6 := a6) (a7 := a7) hv (hh2.1 (83, 175, 1) (by decide) [lx xs (nI (5 * n)) 1] rfl)) hR hll kk
    · refine lw_seg hOK X ⟨by omega, by omega⟩ kl_h_ok (lh_go (h := fm_mk (M, ML, R)) (a5 := a5) (a6 := a6) (a7 := a7) (t := 563) hle h0 (lh_sw (j := 9) hx rfl)) hR hll (fun h2 pc Lo st H locs ls hq hR hll => ?_)
      obtain ⟨rfl, rfl, rfl, rfl⟩ := hq
      refine W.widen (k := 245 + n + 1) (n := 4434 + 6 * n + 6) (by omega) (by omega) ?_
      exact lw_seg hOK X ⟨by omega, by omega⟩ kl_9_ok (lc_9 (a5 := a5) (a6 := a6) (a7 := a7) hv (hh2.1 (84, 177, 1) (by decide) [lx xs (nI (5 * n)) 1] rfl)) hR hll kk
    · refine lw_seg hOK X ⟨by omega, by omega⟩ kl_h_ok (lh_go (h := fm_mk (M, ML, R)) (a5 := a5) (a6 := a6) (a7 := a7) (t := 588) hle h0 (lh_sw (j := 10) hx rfl)) hR hll (fun h2 pc Lo st H locs ls hq hR hll => ?_)
      obtain ⟨rfl, rfl, rfl, rfl⟩ := hq
      refine W.widen (k := 245 + n + 1) (n := 4434 + 6 * n + 6) (by omega) (by omega) ?_
      exact lw_seg hOK X ⟨by omega, by omega⟩ kl_10_ok (lc_10 (a5 := a5) (a6 := a6) (a7 := a7) hv (hh2.1 (85, 180, 1) (by decide) [lx xs (nI (5 * n)) 1] rfl)) hR hll kk
    · refine lw_seg hOK X ⟨by omega, by omega⟩ kl_h_ok (lh_go (h := fm_mk (M, ML, R)) (a5 := a5) (a6 := a6) (a7 := a7) (t := 613) hle h0 (lh_sw (j := 11) hx rfl)) hR hll (fun h2 pc Lo st H locs ls hq hR hll => ?_)
      obtain ⟨rfl, rfl, rfl, rfl⟩ := hq
      refine W.widen (k := 245 + n + 1) (n := 4434 + 6 * n + 6) (by omega) (by omega) ?_
      exact lw_seg hOK X ⟨by omega, by omega⟩ kl_11_ok (lc_11 (a5 := a5) (a6 := a6) (a7 := a7) hv (hh2.1 (86, 181, 1) (by decide) [lx xs (nI (5 * n)) 1] rfl)) hR hll kk
    · refine lw_seg hOK X ⟨by omega, by omega⟩ kl_h_ok (lh_go (h := fm_mk (M, ML, R)) (a5 := a5) (a6 := a6) (a7 := a7) (t := 638) hle h0 (lh_sw (j := 12) hx rfl)) hR hll (fun h2 pc Lo st H locs ls hq hR hll => ?_)
      obtain ⟨rfl, rfl, rfl, rfl⟩ := hq
      refine W.widen (k := 245 + n + 1) (n := 4434 + 6 * n + 6) (by omega) (by omega) ?_
      exact lw_seg hOK X ⟨by omega, by omega⟩ kl_12_ok (lc_12 (a5 := a5) (a6 := a6) (a7 := a7) hv (hh2.1 (88, 182, 0) (by decide) [] rfl)) hR hll kk
    · refine lw_seg hOK X ⟨by omega, by omega⟩ kl_h_ok (lh_go (h := fm_mk (M, ML, R)) (a5 := a5) (a6 := a6) (a7 := a7) (t := 651) hle h0 (lh_sw (j := 13) hx rfl)) hR hll (fun h2 pc Lo st H locs ls hq hR hll => ?_)
      obtain ⟨rfl, rfl, rfl, rfl⟩ := hq
      refine W.widen (k := 245 + n + 1) (n := 4434 + 6 * n + 6) (by omega) (by omega) ?_
      exact lw_seg hOK X ⟨by omega, by omega⟩ kl_13_ok (lc_13 (a5 := a5) (a6 := a6) (a7 := a7) hv (hh2.1 (90, 185, 0) (by decide) [] rfl)) hR hll kk
    · refine lw_seg hOK X ⟨by omega, by omega⟩ kl_h_ok (lh_go (h := fm_mk (M, ML, R)) (a5 := a5) (a6 := a6) (a7 := a7) (t := 664) hle h0 (lh_sw (j := 14) hx rfl)) hR hll (fun h2 pc Lo st H locs ls hq hR hll => ?_)
      obtain ⟨rfl, rfl, rfl, rfl⟩ := hq
      refine W.widen (k := 245 + n + 1) (n := 4434 + 6 * n + 6) (by omega) (by omega) ?_
      exact lw_seg hOK X ⟨by omega, by omega⟩ kl_14_ok (lc_14 (a5 := a5) (a6 := a6) (a7 := a7) hv (hh2.1 (91, 187, 1) (by decide) [lx xs (nI (5 * n)) 1] rfl)) hR hll kk
    · refine lw_seg hOK X ⟨by omega, by omega⟩ kl_h_ok (lh_go (h := fm_mk (M, ML, R)) (a5 := a5) (a6 := a6) (a7 := a7) (t := 689) hle h0 (lh_sw (j := 15) hx rfl)) hR hll (fun h2 pc Lo st H locs ls hq hR hll => ?_)
      obtain ⟨rfl, rfl, rfl, rfl⟩ := hq
      refine W.widen (k := 245 + n + 1) (n := 4434 + 6 * n + 6) (by omega) (by omega) ?_
      exact lw_seg hOK X ⟨by omega, by omega⟩ kl_15_ok (lc_15 (a5 := a5) (a6 := a6) (a7 := a7) hv (hh2.1 (92, 188, 0) (by decide) [] rfl)) hR hll kk
    · refine lw_seg hOK X ⟨by omega, by omega⟩ kl_h_ok (lh_go (h := fm_mk (M, ML, R)) (a5 := a5) (a6 := a6) (a7 := a7) (t := 702) hle h0 (lh_sw (j := 16) hx rfl)) hR hll (fun h2 pc Lo st H locs ls hq hR hll => ?_)
      obtain ⟨rfl, rfl, rfl, rfl⟩ := hq
      refine W.widen (k := 245 + n + 1) (n := 4434 + 6 * n + 6) (by omega) (by omega) ?_
      exact lw_seg hOK X ⟨by omega, by omega⟩ kl_16_ok (lc_16 (a5 := a5) (a6 := a6) (a7 := a7) hv (hh2.1 (93, 189, 0) (by decide) [] rfl)) hR hll kk
    · refine lw_seg hOK X ⟨by omega, by omega⟩ kl_h_ok (lh_go (h := fm_mk (M, ML, R)) (a5 := a5) (a6 := a6) (a7 := a7) (t := 715) hle h0 (lh_sw (j := 17) hx rfl)) hR hll (fun h2 pc Lo st H locs ls hq hR hll => ?_)
      obtain ⟨rfl, rfl, rfl, rfl⟩ := hq
      refine W.widen (k := 245 + n + 1) (n := 4434 + 6 * n + 6) (by omega) (by omega) ?_
      exact lw_seg hOK X ⟨by omega, by omega⟩ kl_17_ok (lc_17 (a5 := a5) (a6 := a6) (a7 := a7) hv (hh2.1 (94, 191, 0) (by decide) [] rfl)) hR hll kk
    · refine lw_seg hOK X ⟨by omega, by omega⟩ kl_h_ok (lh_go (h := fm_mk (M, ML, R)) (a5 := a5) (a6 := a6) (a7 := a7) (t := 728) hle h0 (lh_sw (j := 18) hx rfl)) hR hll (fun h2 pc Lo st H locs ls hq hR hll => ?_)
      obtain ⟨rfl, rfl, rfl, rfl⟩ := hq
      refine W.widen (k := 245 + n + 1) (n := 4434 + 6 * n + 6) (by omega) (by omega) ?_
      exact lw_seg hOK X ⟨by omega, by omega⟩ kl_18_ok (lc_18 (a5 := a5) (a6 := a6) (a7 := a7) hv (hh2.1 (95, 192, 1) (by decide) [lx xs (nI (5 * n)) 1] rfl)) hR hll kk
    · refine lw_seg hOK X ⟨by omega, by omega⟩ kl_h_ok (lh_go (h := fm_mk (M, ML, R)) (a5 := a5) (a6 := a6) (a7 := a7) (t := 753) hle h0 (lh_sw (j := 19) hx rfl)) hR hll (fun h2 pc Lo st H locs ls hq hR hll => ?_)
      obtain ⟨rfl, rfl, rfl, rfl⟩ := hq
      refine W.widen (k := 245 + n + 1) (n := 4434 + 6 * n + 6) (by omega) (by omega) ?_
      exact lw_seg hOK X ⟨by omega, by omega⟩ kl_19_ok (lc_19 (a5 := a5) (a6 := a6) (a7 := a7) hv (hh2.1 (96, 193, 1) (by decide) [lx xs (nI (5 * n)) 1] rfl)) hR hll kk
    · refine lw_seg hOK X ⟨by omega, by omega⟩ kl_h_ok (lh_go (h := fm_mk (M, ML, R)) (a5 := a5) (a6 := a6) (a7 := a7) (t := 778) hle h0 (lh_sw (j := 20) hx rfl)) hR hll (fun h2 pc Lo st H locs ls hq hR hll => ?_)
      obtain ⟨rfl, rfl, rfl, rfl⟩ := hq
      refine W.widen (k := 245 + n + 1) (n := 4434 + 6 * n + 6) (by omega) (by omega) ?_
      exact lw_seg hOK X ⟨by omega, by omega⟩ kl_20_ok (lc_20 (a5 := a5) (a6 := a6) (a7 := a7) hv (hh2.1 (97, 194, 2) (by decide) [lx xs (nI (5 * n)) 1, lx xs (nI (5 * n)) 2] rfl)) hR hll kk
    · refine lw_seg hOK X ⟨by omega, by omega⟩ kl_h_ok (lh_go (h := fm_mk (M, ML, R)) (a5 := a5) (a6 := a6) (a7 := a7) (t := 815) hle h0 (lh_sw (j := 21) hx rfl)) hR hll (fun h2 pc Lo st H locs ls hq hR hll => ?_)
      obtain ⟨rfl, rfl, rfl, rfl⟩ := hq
      refine W.widen (k := 245 + n + 1) (n := 4434 + 6 * n + 6) (by omega) (by omega) ?_
      exact lw_seg hOK X ⟨by omega, by omega⟩ kl_21_ok (lc_21 (a5 := a5) (a6 := a6) (a7 := a7) hv (hh2.1 (98, 195, 0) (by decide) [] rfl)) hR hll kk
    · refine lw_seg hOK X ⟨by omega, by omega⟩ kl_h_ok (lh_go (h := fm_mk (M, ML, R)) (a5 := a5) (a6 := a6) (a7 := a7) (t := 828) hle h0 (lh_sw (j := 22) hx rfl)) hR hll (fun h2 pc Lo st H locs ls hq hR hll => ?_)
      obtain ⟨rfl, rfl, rfl, rfl⟩ := hq
      refine W.widen (k := 245 + n + 1) (n := 4434 + 6 * n + 6) (by omega) (by omega) ?_
      exact lw_seg hOK X ⟨by omega, by omega⟩ kl_22_ok (lc_22 (a5 := a5) (a6 := a6) (a7 := a7) hv (hh2.1 (99, 196, 0) (by decide) [] rfl)) hR hll kk
    · refine lw_seg hOK X ⟨by omega, by omega⟩ kl_h_ok (lh_go (h := fm_mk (M, ML, R)) (a5 := a5) (a6 := a6) (a7 := a7) (t := 841) hle h0 (lh_sw (j := 23) hx rfl)) hR hll (fun h2 pc Lo st H locs ls hq hR hll => ?_)
      obtain ⟨rfl, rfl, rfl, rfl⟩ := hq
      refine W.widen (k := 245 + n + 1) (n := 4434 + 6 * n + 6) (by omega) (by omega) ?_
      exact lw_seg hOK X ⟨by omega, by omega⟩ kl_23_ok (lc_23 (a5 := a5) (a6 := a6) (a7 := a7) hv (hh2.1 (100, 197, 2) (by decide) [lx xs (nI (5 * n)) 1, lx xs (nI (5 * n)) 2] rfl)) hR hll kk
    · refine lw_seg hOK X ⟨by omega, by omega⟩ kl_h_ok (lh_go (h := fm_mk (M, ML, R)) (a5 := a5) (a6 := a6) (a7 := a7) (t := 878) hle h0 (lh_sw (j := 24) hx rfl)) hR hll (fun h2 pc Lo st H locs ls hq hR hll => ?_)
      obtain ⟨rfl, rfl, rfl, rfl⟩ := hq
      refine W.widen (k := 245 + n + 1) (n := 4434 + 6 * n + 6) (by omega) (by omega) ?_
      exact lw_seg hOK X ⟨by omega, by omega⟩ kl_24_ok (lc_24 (a5 := a5) (a6 := a6) (a7 := a7) hv (hh2.1 (101, 198, 1) (by decide) [lx xs (nI (5 * n)) 1] rfl)) hR hll kk
    · refine lw_seg hOK X ⟨by omega, by omega⟩ kl_h_ok (lh_go (h := fm_mk (M, ML, R)) (a5 := a5) (a6 := a6) (a7 := a7) (t := 903) hle h0 (lh_sw (j := 25) hx rfl)) hR hll (fun h2 pc Lo st H locs ls hq hR hll => ?_)
      obtain ⟨rfl, rfl, rfl, rfl⟩ := hq
      refine W.widen (k := 245 + n + 1) (n := 4434 + 6 * n + 6) (by omega) (by omega) ?_
      exact lw_seg hOK X ⟨by omega, by omega⟩ kl_25_ok (lc_25 (a5 := a5) (a6 := a6) (a7 := a7) hv (hh2.1 (103, 199, 1) (by decide) [lx xs (nI (5 * n)) 1] rfl)) hR hll kk
    · refine lw_seg hOK X ⟨by omega, by omega⟩ kl_h_ok (lh_go (h := fm_mk (M, ML, R)) (a5 := a5) (a6 := a6) (a7 := a7) (t := 928) hle h0 (lh_sw (j := 26) hx rfl)) hR hll (fun h2 pc Lo st H locs ls hq hR hll => ?_)
      obtain ⟨rfl, rfl, rfl, rfl⟩ := hq
      refine W.widen (k := 245 + n + 1) (n := 4434 + 6 * n + 6) (by omega) (by omega) ?_
      exact lw_seg hOK X ⟨by omega, by omega⟩ kl_26_ok (lc_26 (a5 := a5) (a6 := a6) (a7 := a7) hv (hh2.1 (104, 203, 1) (by decide) [lx xs (nI (5 * n)) 1] rfl)) hR hll kk
    · refine lw_seg hOK X ⟨by omega, by omega⟩ kl_h_ok (lh_go (h := fm_mk (M, ML, R)) (a5 := a5) (a6 := a6) (a7 := a7) (t := 953) hle h0 (lh_sw (j := 27) hx rfl)) hR hll (fun h2 pc Lo st H locs ls hq hR hll => ?_)
      obtain ⟨rfl, rfl, rfl, rfl⟩ := hq
      refine W.widen (k := 245 + n + 1) (n := 4434 + 6 * n + 6) (by omega) (by omega) ?_
      exact lw_seg hOK X ⟨by omega, by omega⟩ kl_27_ok (lc_27 (a5 := a5) (a6 := a6) (a7 := a7) hv (hh2.1 (105, 204, 1) (by decide) [lx xs (nI (5 * n)) 1] rfl)) hR hll kk
    · refine lw_seg hOK X ⟨by omega, by omega⟩ kl_h_ok (lh_go (h := fm_mk (M, ML, R)) (a5 := a5) (a6 := a6) (a7 := a7) (t := 978) hle h0 (lh_sw (j := 28) hx rfl)) hR hll (fun h2 pc Lo st H locs ls hq hR hll => ?_)
      obtain ⟨rfl, rfl, rfl, rfl⟩ := hq
      refine W.widen (k := 245 + n + 1) (n := 4434 + 6 * n + 6) (by omega) (by omega) ?_
      exact lw_seg hOK X ⟨by omega, by omega⟩ kl_28_ok (lc_28 (a5 := a5) (a6 := a6) (a7 := a7) hv (hh2.1 (107, 205, 0) (by decide) [] rfl)) hR hll kk
    · refine lw_seg hOK X ⟨by omega, by omega⟩ kl_h_ok (lh_go (h := fm_mk (M, ML, R)) (a5 := a5) (a6 := a6) (a7 := a7) (t := 991) hle h0 (lh_sw (j := 29) hx rfl)) hR hll (fun h2 pc Lo st H locs ls hq hR hll => ?_)
      obtain ⟨rfl, rfl, rfl, rfl⟩ := hq
      refine W.widen (k := 245 + n + 1) (n := 4434 + 6 * n + 6) (by omega) (by omega) ?_
      exact lw_seg hOK X ⟨by omega, by omega⟩ kl_29_ok (lc_29 (a5 := a5) (a6 := a6) (a7 := a7) hv (hh2.1 (108, 206, 0) (by decide) [] rfl)) hR hll kk
    · refine lw_seg hOK X ⟨by omega, by omega⟩ kl_h_ok (lh_go (h := fm_mk (M, ML, R)) (a5 := a5) (a6 := a6) (a7 := a7) (t := 1004) hle h0 (lh_sw (j := 30) hx rfl)) hR hll (fun h2 pc Lo st H locs ls hq hR hll => ?_)
      obtain ⟨rfl, rfl, rfl, rfl⟩ := hq
      refine W.widen (k := 245 + n + 1) (n := 4434 + 6 * n + 6) (by omega) (by omega) ?_
      exact lw_seg hOK X ⟨by omega, by omega⟩ kl_30_ok (lc_30 (a5 := a5) (a6 := a6) (a7 := a7) hv (hh2.1 (109, 209, 2) (by decide) [lx xs (nI (5 * n)) 1, lx xs (nI (5 * n)) 2] rfl)) hR hll kk
    · refine lw_seg hOK X ⟨by omega, by omega⟩ kl_h_ok (lh_go (h := fm_mk (M, ML, R)) (a5 := a5) (a6 := a6) (a7 := a7) (t := 1041) hle h0 (lh_sw (j := 31) hx rfl)) hR hll (fun h2 pc Lo st H locs ls hq hR hll => ?_)
      obtain ⟨rfl, rfl, rfl, rfl⟩ := hq
      refine W.widen (k := 245 + n + 1) (n := 4434 + 6 * n + 6) (by omega) (by omega) ?_
      exact lw_seg hOK X ⟨by omega, by omega⟩ kl_31_ok (lc_31 (a5 := a5) (a6 := a6) (a7 := a7) hv (hh2.1 (110, 210, 0) (by decide) [] rfl)) hR hll kk
    · refine lw_seg hOK X ⟨by omega, by omega⟩ kl_h_ok (lh_go (h := fm_mk (M, ML, R)) (a5 := a5) (a6 := a6) (a7 := a7) (t := 1054) hle h0 (lh_sw (j := 32) hx rfl)) hR hll (fun h2 pc Lo st H locs ls hq hR hll => ?_)
      obtain ⟨rfl, rfl, rfl, rfl⟩ := hq
      refine W.widen (k := 245 + n + 1) (n := 4434 + 6 * n + 6) (by omega) (by omega) ?_
      exact lw_seg hOK X ⟨by omega, by omega⟩ kl_32_ok (lc_32 (a5 := a5) (a6 := a6) (a7 := a7) hv (hh2.1 (111, 213, 0) (by decide) [] rfl)) hR hll kk
    · refine lw_seg hOK X ⟨by omega, by omega⟩ kl_h_ok (lh_go (h := fm_mk (M, ML, R)) (a5 := a5) (a6 := a6) (a7 := a7) (t := 1067) hle h0 (lh_sw (j := 33) hx rfl)) hR hll (fun h2 pc Lo st H locs ls hq hR hll => ?_)
      obtain ⟨rfl, rfl, rfl, rfl⟩ := hq
      refine W.widen (k := 245 + n + 1) (n := 4434 + 6 * n + 6) (by omega) (by omega) ?_
      exact lw_seg hOK X ⟨by omega, by omega⟩ kl_33_ok (lc_33 (a5 := a5) (a6 := a6) (a7 := a7) hv (hh2.1 (112, 214, 0) (by decide) [] rfl)) hR hll kk
    · refine lw_seg hOK X ⟨by omega, by omega⟩ kl_h_ok (lh_go (h := fm_mk (M, ML, R)) (a5 := a5) (a6 := a6) (a7 := a7) (t := 1080) hle h0 (lh_sw (j := 34) hx rfl)) hR hll (fun h2 pc Lo st H locs ls hq hR hll => ?_)
      obtain ⟨rfl, rfl, rfl, rfl⟩ := hq
      refine W.widen (k := 245 + n + 1) (n := 4434 + 6 * n + 6) (by omega) (by omega) ?_
      exact lw_seg hOK X ⟨by omega, by omega⟩ kl_34_ok (lc_34 (a5 := a5) (a6 := a6) (a7 := a7) hv (hh2.1 (113, 215, 2) (by decide) [lx xs (nI (5 * n)) 1, lx xs (nI (5 * n)) 2] rfl)) hR hll kk
    · refine lw_seg hOK X ⟨by omega, by omega⟩ kl_h_ok (lh_go (h := fm_mk (M, ML, R)) (a5 := a5) (a6 := a6) (a7 := a7) (t := 1117) hle h0 (lh_sw (j := 35) hx rfl)) hR hll (fun h2 pc Lo st H locs ls hq hR hll => ?_)
      obtain ⟨rfl, rfl, rfl, rfl⟩ := hq
      refine W.widen (k := 245 + n + 1) (n := 4434 + 6 * n + 6) (by omega) (by omega) ?_
      exact lw_seg hOK X ⟨by omega, by omega⟩ kl_35_ok (lc_35 (a5 := a5) (a6 := a6) (a7 := a7) hv (hh2.1 (114, 216, 0) (by decide) [] rfl)) hR hll kk
    · refine lw_seg hOK X ⟨by omega, by omega⟩ kl_h_ok (lh_go (h := fm_mk (M, ML, R)) (a5 := a5) (a6 := a6) (a7 := a7) (t := 1130) hle h0 (lh_sw (j := 36) hx rfl)) hR hll (fun h2 pc Lo st H locs ls hq hR hll => ?_)
      obtain ⟨rfl, rfl, rfl, rfl⟩ := hq
      refine W.widen (k := 245 + n + 1) (n := 4434 + 6 * n + 6) (by omega) (by omega) ?_
      exact lw_seg hOK X ⟨by omega, by omega⟩ kl_36_ok (lc_36 (a5 := a5) (a6 := a6) (a7 := a7) hv (hh2.1 (115, 218, 0) (by decide) [] rfl)) hR hll kk
    · refine lw_seg hOK X ⟨by omega, by omega⟩ kl_h_ok (lh_go (h := fm_mk (M, ML, R)) (a5 := a5) (a6 := a6) (a7 := a7) (t := 1143) hle h0 (lh_sw (j := 37) hx rfl)) hR hll (fun h2 pc Lo st H locs ls hq hR hll => ?_)
      obtain ⟨rfl, rfl, rfl, rfl⟩ := hq
      refine W.widen (k := 245 + n + 1) (n := 4434 + 6 * n + 6) (by omega) (by omega) ?_
      exact lw_seg hOK X ⟨by omega, by omega⟩ kl_37_ok (lc_37 (a5 := a5) (a6 := a6) (a7 := a7) hv (hh2.1 (116, 219, 0) (by decide) [] rfl)) hR hll kk
    · refine lw_seg hOK X ⟨by omega, by omega⟩ kl_h_ok (lh_go (h := fm_mk (M, ML, R)) (a5 := a5) (a6 := a6) (a7 := a7) (t := 1156) hle h0 (lh_sw (j := 38) hx rfl)) hR hll (fun h2 pc Lo st H locs ls hq hR hll => ?_)
      obtain ⟨rfl, rfl, rfl, rfl⟩ := hq
      refine W.widen (k := 245 + n + 1) (n := 4434 + 6 * n + 6) (by omega) (by omega) ?_
      exact lw_seg hOK X ⟨by omega, by omega⟩ kl_38_ok (lc_38 (a5 := a5) (a6 := a6) (a7 := a7) hv (hh2.1 (117, 220, 3) (by decide) [lx xs (nI (5 * n)) 1, lx xs (nI (5 * n)) 2, lx xs (nI (5 * n)) 3] rfl)) hR hll kk
    · refine lw_seg hOK X ⟨by omega, by omega⟩ kl_h_ok (lh_go (h := fm_mk (M, ML, R)) (a5 := a5) (a6 := a6) (a7 := a7) (t := 1205) hle h0 (lh_sw (j := 39) hx rfl)) hR hll (fun h2 pc Lo st H locs ls hq hR hll => ?_)
      obtain ⟨rfl, rfl, rfl, rfl⟩ := hq
      refine W.widen (k := 245 + n + 1) (n := 4434 + 6 * n + 6) (by omega) (by omega) ?_
      exact lw_seg hOK X ⟨by omega, by omega⟩ kl_39_ok (lc_39 (a5 := a5) (a6 := a6) (a7 := a7) hv (hh2.1 (118, 222, 1) (by decide) [lx xs (nI (5 * n)) 1] rfl)) hR hll kk
    · refine lw_seg hOK X ⟨by omega, by omega⟩ kl_h_ok (lh_go (h := fm_mk (M, ML, R)) (a5 := a5) (a6 := a6) (a7 := a7) (t := 1230) hle h0 (lh_sw (j := 40) hx rfl)) hR hll (fun h2 pc Lo st H locs ls hq hR hll => ?_)
      obtain ⟨rfl, rfl, rfl, rfl⟩ := hq
      refine W.widen (k := 245 + n + 1) (n := 4434 + 6 * n + 6) (by omega) (by omega) ?_
      exact lw_seg hOK X ⟨by omega, by omega⟩ kl_40_ok (lc_40 (a5 := a5) (a6 := a6) (a7 := a7) hv (hh2.1 (119, 225, 1) (by decide) [lx xs (nI (5 * n)) 1] rfl)) hR hll kk
    · refine lw_seg hOK X ⟨by omega, by omega⟩ kl_h_ok (lh_go (h := fm_mk (M, ML, R)) (a5 := a5) (a6 := a6) (a7 := a7) (t := 1255) hle h0 (lh_sw (j := 41) hx rfl)) hR hll (fun h2 pc Lo st H locs ls hq hR hll => ?_)
      obtain ⟨rfl, rfl, rfl, rfl⟩ := hq
      refine W.widen (k := 245 + n + 1) (n := 4434 + 6 * n + 6) (by omega) (by omega) ?_
      exact lw_seg hOK X ⟨by omega, by omega⟩ kl_41_ok (lc_41 (a5 := a5) (a6 := a6) (a7 := a7) hv (hh2.1 (122, 227, 0) (by decide) [] rfl)) hR hll kk
    · refine lw_seg hOK X ⟨by omega, by omega⟩ kl_h_ok (lh_go (h := fm_mk (M, ML, R)) (a5 := a5) (a6 := a6) (a7 := a7) (t := 1268) hle h0 (lh_sw (j := 42) hx rfl)) hR hll (fun h2 pc Lo st H locs ls hq hR hll => ?_)
      obtain ⟨rfl, rfl, rfl, rfl⟩ := hq
      refine W.widen (k := 245 + n + 1) (n := 4434 + 6 * n + 6) (by omega) (by omega) ?_
      exact lw_seg hOK X ⟨by omega, by omega⟩ kl_42_ok (lc_42 (a5 := a5) (a6 := a6) (a7 := a7) hv (hh2.1 (124, 230, 2) (by decide) [lx xs (nI (5 * n)) 1, lx xs (nI (5 * n)) 2] rfl)) hR hll kk
    · refine lw_seg hOK X ⟨by omega, by omega⟩ kl_h_ok (lh_go (h := fm_mk (M, ML, R)) (a5 := a5) (a6 := a6) (a7 := a7) (t := 1305) hle h0 (lh_sw (j := 43) hx rfl)) hR hll (fun h2 pc Lo st H locs ls hq hR hll => ?_)
      obtain ⟨rfl, rfl, rfl, rfl⟩ := hq
      refine W.widen (k := 245 + n + 1) (n := 4434 + 6 * n + 6) (by omega) (by omega) ?_
      exact lw_seg hOK X ⟨by omega, by omega⟩ kl_43_ok (lc_43 (a5 := a5) (a6 := a6) (a7 := a7) hv (hh2.1 (127, 231, 1) (by decide) [lx xs (nI (5 * n)) 1] rfl)) hR hll kk
    · refine lw_seg hOK X ⟨by omega, by omega⟩ kl_h_ok (lh_go (h := fm_mk (M, ML, R)) (a5 := a5) (a6 := a6) (a7 := a7) (t := 1330) hle h0 (lh_sw (j := 44) hx rfl)) hR hll (fun h2 pc Lo st H locs ls hq hR hll => ?_)
      obtain ⟨rfl, rfl, rfl, rfl⟩ := hq
      refine W.widen (k := 245 + n + 1) (n := 4434 + 6 * n + 6) (by omega) (by omega) ?_
      exact lw_seg hOK X ⟨by omega, by omega⟩ kl_44_ok (lc_44 (a5 := a5) (a6 := a6) (a7 := a7) hv (hh2.1 (128, 232, 1) (by decide) [lx xs (nI (5 * n)) 1] rfl)) hR hll kk
    · refine lw_seg hOK X ⟨by omega, by omega⟩ kl_h_ok (lh_go (h := fm_mk (M, ML, R)) (a5 := a5) (a6 := a6) (a7 := a7) (t := 1355) hle h0 (lh_sw (j := 45) hx rfl)) hR hll (fun h2 pc Lo st H locs ls hq hR hll => ?_)
      obtain ⟨rfl, rfl, rfl, rfl⟩ := hq
      refine W.widen (k := 245 + n + 1) (n := 4434 + 6 * n + 6) (by omega) (by omega) ?_
      exact lw_seg hOK X ⟨by omega, by omega⟩ kl_45_ok (lc_45 (a5 := a5) (a6 := a6) (a7 := a7) hv (hh2.1 (129, 233, 1) (by decide) [lx xs (nI (5 * n)) 1] rfl)) hR hll kk
    · refine lw_seg hOK X ⟨by omega, by omega⟩ kl_h_ok (lh_go (h := fm_mk (M, ML, R)) (a5 := a5) (a6 := a6) (a7 := a7) (t := 1380) hle h0 (lh_sw (j := 46) hx rfl)) hR hll (fun h2 pc Lo st H locs ls hq hR hll => ?_)
      obtain ⟨rfl, rfl, rfl, rfl⟩ := hq
      exact lw_s46 hOK hlt X ⟨by omega, by omega⟩ hv (hh2.2.2.2 (lx xs (nI (5 * n)) 1)) hR hll kk
theorem lw_loop (hOK : ms_OK2) (hlt : l.stackTraces = false) (X : lw_X p s m meth c b L xs D cA t1 t2) (hH : lwH IV) (hL : L ≤ 2560) : ∀ (k n : Nat), n + k = 513 → ∀ (M : Nat → Nat → Int32) (ML : Nat → Nat → Int64) (R : Nat → Nat → Option Nat) (a5 a6 a7 : Option Value) (H : Heap) (locs : List Loc) (ls : Array Slot), IV (1700 * n) M ML R → ms_Rel D cA (s_ad s.heap.size t1 t2 b) 247 (cx_A s.heap.size) s.heap (fm_mk (M, ML, R)) H locs → ms_L (s_ad s.heap.size t1 t2 b) 8 (lL (nI (5 * n)) a5 a6 a7) ls →
    W p l e room_1 s m #[Value.ref b] below meth c H locs (245 + n) (4434 + 6 * n) (lw_Z below #[Value.ref b] s) (F0 m 23 ls (([] : List Value).map (ms_v (s_ad s.heap.size t1 t2 b)))) := by
  intro k
  induction k with
  | zero =>
    intro n hnk M ML R a5 a6 a7 H locs ls hI hR hll
    exact lw_out hOK X (by omega) (l_ge hL (by omega) (by omega)) hR hll
  | succ k ih =>
    intro n hnk M ML R a5 a6 a7 H locs ls hI hR hll
    rcases Nat.lt_or_ge L (5 * n + 5) with z | z
    · exact lw_out hOK X (by omega) (l_ge hL (by omega) z) hR hll
    · refine lw_step hOK hlt X hH hL z hI hR hll (fun h pc Lo st H locs ls hq hR hll => ?_)
      obtain ⟨rfl, rfl, M2, L2, R2, c5, c6, c7, rfl, hI2, rfl⟩ := hq
      refine lw_seg hOK X ⟨by omega, by omega⟩ kl_e_ok (le_on (h := fm_mk (M2, L2, R2)) (a5 := c5) (a6 := c6) (a7 := c7)) hR hll (fun h2 pc Lo st H locs ls hq hR hll => ?_)
      obtain ⟨rfl, rfl, rfl, rfl⟩ := hq
      rw [show nI (5 * n) + 5 = nI (5 * (n + 1)) from nI_add (5 * n) 5] at hll
      exact ih (n + 1) (by omega) M2 L2 R2 c5 c6 c7 H locs ls hI2 hR hll
end lwn

