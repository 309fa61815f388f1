/-! from the law's entry to its loop -/
set_option maxRecDepth 100000 in
theorem b_chk : cx_chk hL code (0, .new 8, 3, 10, 0, 72) = true ∧ cx_chk hL code (8, .new 24, 11, 11, 0, 1039) = true ∧ cx_chk hL code (17, .newarray .long, 19, 1, 0, 0) = true ∧ cx_w (.methodLink hL 23 yX10_init) = true ∧ cx_w (.methodLink hL 26 yX11_init) = true := by decide +kernel
theorem b_dec : decode code 3 = .ok (.dup, 1) ∧ decode code 4 = .ok (.invokespecial 23, 3) ∧ decode code 7 = .ok (.astore_n 1, 1) ∧ decode code 11 = .ok (.dup, 1) ∧ decode code 12 = .ok (.invokespecial 26, 3) ∧ decode code 15 = .ok (.astore_n 2, 1) ∧ decode code 16 = .ok (.iconst 1, 1) ∧ decode code 19 = .ok (.astore_n 3, 1) ∧ decode code 20 = .ok (.iconst 0, 1) ∧ decode code 21 = .ok (.istore 4, 2) := by decide +kernel
set_option maxRecDepth 100000 in
theorem b_len : ci_a.length = 217 ∧ ci_b.length = 27 ∧ pm 0 = 0 ∧ pm 219 = 217 ∧ pm 246 = 244 := by decide +kernel
set_option maxRecDepth 100000 in
theorem b_sig : (∃ sg, cx_sigs[9]? = some sg ∧ sg.1 = yX10_init) ∧ (∃ sg, cx_sigs[10]? = some sg ∧ sg.1 = yX11_init) ∧ (∃ tb, cx_cods[9]? = some tb) ∧ (∃ tb, cx_cods[10]? = some tb) ∧ cx_cnt[9]? = some (216, 2538) ∧ cx_cnt[10]? = some (26, 1835) := ⟨⟨_, rfl, rfl⟩, ⟨_, rfl, rfl⟩, ⟨_, rfl⟩, ⟨_, rfl⟩, rfl, rfl⟩
set_option maxRecDepth 100000 in
theorem b_stat : Cond.laysStatic Bundle.tN "UNASSIGNED_STACK" Bundle.steD ∈ lw_tbl ∧ Cond.laysStatic Bundle.tN "SUPPRESSED_SENTINEL" Bundle.listD ∈ lw_tbl ∧ Cond.initialized Bundle.tN ∈ lw_tbl := by decide +kernel
set_option maxRecDepth 100000 in
theorem b_xZ {s : State} {args : Array Value} {A : Nat → Prop} (hts : ∀ w ∈ lw_tbl, w.before args s = true) (hgv : (Jvm.Cond.and given_1 narrow_1).before args s = true) (hA : ∀ a : Nat, a < s.heap.size → ¬ A a) : x_Z A s := by
  have hs := flat_of_before _ hgv
  refine ⟨vx_Zqof (hts _ b_stat.1) (hts _ b_stat.2.2) (hs _ (by decide +kernel)) hA, vx_Zqof (hts _ b_stat.2.1) (hts _ b_stat.2.2) (hs _ (by decide +kernel)) hA, fun w hw => ?_⟩
  exact va_Nw.of (x_ontab hw) (hts _ (of_decide_eq_true (List.all_eq_true.mp x_tab.1 w (List.mem_filter.mp hw).1)))
theorem lw_start {p : Program} {e : Env} {s : State} {m : MethodId} {below : List Frame} {meth : Method} {c : Code} (hOK : ms_OK2) (l : Launch) (hflags : l.flags = flags0) {IV : lI} (hH : lwH IV) (hI0 : IV 0 s_M (fun _ _ => 0) s_R) {b L : Nat} {xs : Nat → Int32} (hL : L ≤ 2560) (C0 : lw_At p s m meth c b L xs) : W p l e room_1 s m #[Value.ref b] below meth c s.heap [] 0 0 (lw_Z below #[Value.ref b] s) (entryFrame m ([Value.ref b] : List Value).toArray 8) := by
  have hlt : l.stackTraces = false := by
    unfold Launch.stackTraces
    rw [hflags]
    decide +kernel
  obtain ⟨hx, hb, hret, hml, hown, hts, hX, hbl, hlk, hgv⟩ := id C0
  have hA : ∀ a : Nat, a < s.heap.size → ¬ cx_A s.heap.size a := fun a ha => Nat.not_le.mpr ha
  obtain ⟨D, cA, hK, hAO⟩ := st_K hts
  obtain ⟨t1, t2, hZ1, hZ2, hZ3, hZ4⟩ := st_Z (A := cx_A s.heap.size) hts hgv hA
  have hm := st_ms hts
  have X : lw_X p s m meth c b L xs D cA t1 t2 := ⟨C0, hK, ⟨hZ1, hZ2, hZ3, hZ4⟩, b_xZ hts hgv hA⟩
  obtain ⟨⟨sg1, q1, q2⟩, ⟨sg2, q3, q4⟩, ⟨tb1, q5⟩, ⟨tb2, q6⟩, q7, q8⟩ := b_sig
  obtain ⟨g1, g2, g3, g4, g5⟩ := b_len
  obtain ⟨d1, d2, d3, d4, d5, d6, d7, d8, d9, d10⟩ := b_dec
  have hl := lv_entry ([.ref b]) (n := 8) (Nat.le_of_ble_eq_true rfl)
  rw [lg_entry_eq]
  generalize (lg_sl ([.ref b]) ++ List.replicate (8 - (lg_sl ([.ref b])).length) Slot.unset).toArray = ls at hl ⊢
  have hl : lv_has ls 8 [(0, .ref b)] := hl
  refine cx_newW (b0 := s.heap.size) (cs := []) (st := []) (q := ci_bl 10 14) (k := 14) (r := []) b_chk.1 rfl ms_lay_ok hx hb hown hm hK hAO (fun k q h => by simp [cx_W] at h) va_S.rf (Nat.le_refl _) rfl (Nat.le_of_ble_eq_true rfl) (Nat.le_of_ble_eq_true rfl) (fun H1 hP1 hS1 => ?_)
  refine lv_dup hx hb d1 rfl ?_
  refine cx_callW (b0 := s.heap.size) (cs := [ci_bl 10 14]) (b := 0) (r := [.ref 0]) (nL := 8) (cx_sound cx_ok_tabs ms_lay_ok 3) cx_ok_tabs (cx_is_ok ci_run1) q1 q5 q7 (by rw [q2]; exact cx_w_ok b_chk.2.2.2.1) d2 rfl hx hb hown hm hml hl.1 (Nat.le_of_ble_eq_true rfl) (Nat.le_of_ble_eq_true rfl) hK hAO hP1 hS1 (Nat.le_refl _) rfl (Nat.le_of_ble_eq_true rfl) (Nat.le_of_ble_eq_true rfl) (fun H2 locs2 hP2 hS2 => ?_)
  refine lv_astore_n (lv' := [(1, .ref (s.heap.size + 0)), (0, .ref b)]) hx hb d3 rfl hl (by decide) rfl (fun ls hl => ?_)
  refine cx_newW (b0 := s.heap.size) (cs := ci_a) (st := []) (q := ci_bl 11 46) (k := 46) (r := []) b_chk.2.1 rfl ms_lay_ok hx hb hown hm hK hAO hP2 hS2 (Nat.le_refl _) (by rw [g1]; rfl) (Nat.le_of_ble_eq_true rfl) (Nat.le_of_ble_eq_true rfl) (fun H3 hP3 hS3 => ?_)
  refine lv_dup hx hb d4 rfl ?_
  refine cx_callW (b0 := s.heap.size) (cs := ci_a ++ [ci_bl 11 46]) (b := 217) (r := [.ref 217]) (nL := 8) (cx_sound cx_ok_tabs ms_lay_ok 1) cx_ok_tabs (cx_is_ok ci_run2) q3 q6 q8 (by rw [q4]; exact cx_w_ok b_chk.2.2.2.2) d5 rfl hx hb hown hm hml hl.1 (Nat.le_of_ble_eq_true rfl) (Nat.le_of_ble_eq_true rfl) hK hAO hP3 hS3 (Nat.le_refl _) (by rw [List.length_append, g1]; rfl) (Nat.le_of_ble_eq_true rfl) (Nat.le_of_ble_eq_true rfl) (fun H4 locs4 hP4 hS4 => ?_)
  refine lv_astore_n (lv' := [(2, .ref (s.heap.size + 217)), (1, .ref (s.heap.size + 0)), (0, .ref b)]) hx hb d6 rfl hl (by decide) rfl (fun ls hl => ?_)
  refine lv_iconst (v := 1) hx hb d7 rfl ?_
  refine cx_newW (b0 := s.heap.size) (cs := ci_a ++ ci_b) (st := [.int 1]) (q := .inl (1, 1, [])) (k := 1) (r := []) b_chk.2.2.1 rfl ms_lay_ok hx hb hown hm hK hAO hP4 hS4 (Nat.le_refl _) (by rw [List.length_append, g1, g2]; rfl) (Nat.le_of_ble_eq_true rfl) (Nat.le_of_ble_eq_true rfl) (fun H5 hP5 hS5 => ?_)
  have g6 : (ci_a ++ ci_b).length = 244 := by rw [List.length_append, g1, g2]
  rw [g6]
  refine lv_astore_n (lv' := [(3, .ref (s.heap.size + 244)), (2, .ref (s.heap.size + 217)), (1, .ref (s.heap.size + 0)), (0, .ref b)]) hx hb d8 rfl hl (by decide) rfl (fun ls hl => ?_)
  refine lv_iconst (v := 0) hx hb d9 rfl ?_
  refine lv_istore (lv' := [(4, .int 0), (3, .ref (s.heap.size + 244)), (2, .ref (s.heap.size + 217)), (1, .ref (s.heap.size + 0)), (0, .ref b)]) hx hb d10 hl (by decide) rfl (fun ls hl => ?_)
  have hR : ms_Rel D cA (s_ad s.heap.size t1 t2 b) 247 (cx_A s.heap.size) s.heap (fm_mk sx_S) H5 locs4 := s_rel hP5 hS5
  have hll : ms_L (s_ad s.heap.size t1 t2 b) 8 (lL (nI (5 * 0)) none none none) ls := by
    refine ⟨rfl, hl.1, hl.2.1, fun q hq => ?_⟩
    obtain ⟨v, v1, v2⟩ := ms_ll_inv hq
    obtain ⟨qi, qv⟩ := q
    dsimp only at v1 v2
    subst v2
    have hq8 : qi < 8 := (List.getElem?_eq_some_iff.mp v1).1
    rcases (show qi = 0 ∨ qi = 1 ∨ qi = 2 ∨ qi = 3 ∨ qi = 4 ∨ qi = 5 ∨ qi = 6 ∨ qi = 7 by omega) with rfl | rfl | rfl | rfl | rfl | rfl | rfl | rfl
    · cases v1
      exact hl.2.2 (0, .ref b) (by simp)
    · cases v1
      have e : s_ad s.heap.size t1 t2 b 0 = s.heap.size + 0 := by
        unfold s_ad
        rw [if_pos (by decide), g3]
      show ls[1]? = some (.val (.ref (s_ad s.heap.size t1 t2 b 0)))
      rw [e]
      exact hl.2.2 (1, .ref (s.heap.size + 0)) (by simp)
    · cases v1
      have e : s_ad s.heap.size t1 t2 b 219 = s.heap.size + 217 := by
        unfold s_ad
        rw [if_pos (by decide), g4]
      show ls[2]? = some (.val (.ref (s_ad s.heap.size t1 t2 b 219)))
      rw [e]
      exact hl.2.2 (2, .ref (s.heap.size + 217)) (by simp)
    · cases v1
      have e : s_ad s.heap.size t1 t2 b 246 = s.heap.size + 244 := by
        unfold s_ad
        rw [if_pos (by decide), g5]
      show ls[3]? = some (.val (.ref (s_ad s.heap.size t1 t2 b 246)))
      rw [e]
      exact hl.2.2 (3, .ref (s.heap.size + 244)) (by simp)
    · cases v1
      exact hl.2.2 (4, .int 0) (by simp)
    · cases v1
    · cases v1
    · cases v1
  exact lw_loop hOK hlt X hH hL 513 0 rfl s_M (fun _ _ => 0) s_R none none none H5 locs4 ls hI0 hR hll
