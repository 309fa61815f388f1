/-! the law's loop -/
set_option maxRecDepth 100000 in
theorem h_ini : cx_w (.initialized hL) = true := by decide +kernel
section lwl
variable {p : Program} {l : Launch} {e : Env} {s : State} {m : MethodId} {below : List Frame} {meth : Method} {c : Code} {b L : Nat} {xs : Nat → Int32} {D : va_G} {cA : Nat → ClassId} {t1 t2 : Nat} {cells slots : Nat} {IV : lI} {B : Nat} {M : Nat → Nat → Int32} {ML : Nat → Nat → Int64} {R : Nat → Nat → Option Nat}
/-- what the law knows at every place -/
def lw_X (p : Program) (s : State) (m : MethodId) (meth : Method) (c : Code) (b L : Nat) (xs : Nat → Int32) (D : va_G) (cA : Nat → ClassId) (t1 t2 : Nat) : Prop := lw_At p s m meth c b L xs ∧ va_K D mj_cls (ms_tys cA) s ∧ ms_Z (s_ad s.heap.size t1 t2 b) (cx_A s.heap.size) s ∧ x_Z (cx_A s.heap.size) s
theorem lw_seg (hOK : ms_OK2) (X : lw_X p s m meth c b L xs D cA t1 t2) (hc : cells ≤ 601024 ∧ slots ≤ 7293034) {kt : List mj_E} (hk : kt.all (ms_chk hL code) = true) {Q' : mj_H → Nat → mj_L → List Value → Prop} {Q : State → Prop} {h : mj_H} {pc : Nat} {Lo : mj_L} {st : List Value} {H : Heap} {locs : List Loc} {ls : Array Slot} (hr : PSt 110 xs L kt Q' h pc Lo st) (hR : ms_Rel D cA (s_ad s.heap.size t1 t2 b) 247 (cx_A s.heap.size) s.heap h H locs) (hl : ms_L (s_ad s.heap.size t1 t2 b) 8 Lo ls)
    (kk : ∀ (h : mj_H) (pc : Nat) (Lo : mj_L) (st : List Value) (H : Heap) (locs : List Loc) (ls : Array Slot), Q' h pc Lo st → ms_Rel D cA (s_ad s.heap.size t1 t2 b) 247 (cx_A s.heap.size) s.heap h H locs → ms_L (s_ad s.heap.size t1 t2 b) 8 Lo ls → W p l e room_1 s m #[Value.ref b] below meth c H locs cells slots Q (F0 m pc ls (st.map (ms_v (s_ad s.heap.size t1 t2 b))))) :
    W p l e room_1 s m #[Value.ref b] below meth c H locs cells slots Q (F0 m pc ls (st.map (ms_v (s_ad s.heap.size t1 t2 b)))) := by
  obtain ⟨⟨hx, hb, hret, hml, hown, hts, hX, hbl, hlk, hgv⟩, hK, hZ, hxZ⟩ := X
  obtain ⟨n, hr⟩ := hr
  have e250 : s_ad s.heap.size t1 t2 b 250 = b := rfl
  exact psW (d := 110) (N := 247) (A := cx_A s.heap.size) hOK ms_lay_ok ms_cpy_ok hk hx hb hown (st_ms hts) hml (fun q hq => hq) hK hZ (Nat.le_of_ble_eq_true rfl) (Nat.le_of_ble_eq_true rfl) hc (Or.inr ⟨by rw [e250]; exact hX, by rw [e250]; exact hbl, by rw [e250]; exact Nat.not_le.mpr hbl⟩) kk n h pc Lo st H locs ls hr hR hl
/-- a call of a helper -/
theorem lw_help (X : lw_X p s m meth c b L xs D cA t1 t2) {Q : State → Prop} {yH : MethodName} {bH : ByteArray} {nH ixH pc mc ms : Nat} {hh : Nat × Nat × Nat × Nat} {asH : List Value} {h h' : mj_H} {r : Int32} {rm : Room} {H : Heap} {locs : List Loc} {ls : Array Slot}
    (hM : ∀ sz, Met l yH (h_ws yH bH nH hh) rm (x_Pc D cA (s_ad s.heap.size t1 t2 b) 247 sz asH h) (ms_Qc D cA (s_ad s.heap.size t1 t2 b) 247 sz h (some (.int r)) h') mc ms (va_A (ms_cells (s_ad s.heap.size t1 t2 b) cA 247 h) sz))
    (hrm : rm.cells = mc ∧ rm.slots = ms ∧ rm.frames + 1 ≤ 2048 ∧ 8 + (nH + 11) + rm.locals ≤ 84000) (hw1 : cx_w (.codeWith yH bH nH (some .int) [hh]) = true) (hw2 : cx_w (.methodLink hL ixH yH) = true) (hw3 : cx_w (.static yH) = true) (hyc : yH.cls = hL) (hds : (parseMethodDescriptor yH.desc).map (fun d => d.parameters.length) = some asH.length) (hdd : decode code pc = .ok (.invokestatic ixH, 3))
    (hc : cells + mc ≤ 601024 ∧ slots + ms ≤ 7293034) (hR : ms_Rel D cA (s_ad s.heap.size t1 t2 b) 247 (cx_A s.heap.size) s.heap h H locs) (hl : ls.size = 8) (hw' : ms_wf 247 h')
    (kk : ∀ (H1 : Heap) (locs1 : List Loc), ms_Rel D cA (s_ad s.heap.size t1 t2 b) 247 (cx_A s.heap.size) s.heap h' H1 locs1 → W p l e room_1 s m #[Value.ref b] below meth c H1 locs1 (cells + mc) (slots + ms) Q (F0 m (pc + 3) ls [.int r])) :
    W p l e room_1 s m #[Value.ref b] below meth c H locs cells slots Q (F0 m pc ls (asH.reverse.map (ms_v (s_ad s.heap.size t1 t2 b)))) := by
  obtain ⟨⟨hx, hb, hret, hml, hown, hts0, hX, hbl, hlk, hgv⟩, hK, hZ, hxZ⟩ := X
  have hts := st_ms hts0
  obtain ⟨hP, hD, hS, hW⟩ := hR
  have hini : cx_w (.initialized hL) = true := h_ini
  have hFc : ∀ q, va_A (ms_cells (s_ad s.heap.size t1 t2 b) cA 247 h) H.size q → cx_A s.heap.size q := by
    intro q hq
    rcases hq with ⟨j, e1, hq⟩ | hq
    · exact hD.2 j _ hq
    · exact Nat.le_trans hS.1 hq
  have hpay : ∀ w ∈ h_ws yH bH nH hh, ∀ (a' : Array Value) (U : State), s.WarmedH U.vm → w.before a' U = true := by
    intro w hw a' U hWU
    rcases List.mem_cons.mp hw with rfl | hw
    · exact word_at hWU (ms_T_good _ (cx_w_ok hw1)).2 (hts _ (cx_w_ok hw1))
    · exact word_at hWU (ms_T_good _ hw).2 (hts _ hw)
  have hcw : vx_CSW room_1 s #[Value.ref b] hL ixH yH bH nH (some .int) [hh] (h_ws yH bH nH hh) rm mc ms asH.length := by
    refine ⟨⟨hrm.1, hrm.2.1, hrm.2.2.1, hrm.2.2.2, hpay, List.mem_cons_self⟩, hts _ (cx_w_ok hw1), by rw [hyc]; exact hts _ (cx_w_ok hini), by rw [hyc]; decide, fun sig hsig => ?_, hts _ (cx_w_ok hw2), hts _ (cx_w_ok hw3)⟩
    rw [hsig] at hds
    exact (Option.some.inj hds).symm
  have hfin := vx_runSW (l := l) (p := p) (e := e) (below := below) (meth := meth) (H := H) (locs := locs) (cells := cells) (slots := slots) (g := F0 m pc ls (asH.reverse.map (ms_v (s_ad s.heap.size t1 t2 b)))) (rest := []) (As := asH.map (ms_v (s_ad s.heap.size t1 t2 b))) (Ts := ms_T) ⟨hx, hb, hml, hown, hts⟩ (hM H.size) hcw ⟨x_blind, fun U hU hWU => ⟨rfl, by rw [hU], ⟨by rw [hU]; exact hP, va_K.moved hWU.alike hK, hD.weaken (fun _ _ _ _ => trivial)⟩, hZ.at hS.2.1 hFc hWU.alike hU, hxZ.at hS.2.1 hFc hWU hU⟩⟩ rfl (by simp) hl (by
    show asH.reverse.map _ = _
    rw [List.map_reverse, List.append_nil]) (lv_room (Nat.le_of_ble_eq_true rfl)) hdd hc
  refine cx_goes hfin hS (fun q _ z => hFc q z) hFc (fun t H1 locs1 ht hvm hBt hS1 => ?_)
  obtain ⟨hP1, hK1, hD1⟩ := hBt
  rw [ht] at hP1
  exact kk H1 locs1 ⟨hP1, hD1.weaken (fun _ q _ z => hFc q.1 z), hS1, hw'⟩
end lwl
