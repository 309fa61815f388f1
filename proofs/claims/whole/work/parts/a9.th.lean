abbrev xN : String := "java/util/NoSuchElementException"
abbrev xU : List String := ["java/lang/RuntimeException", "java/lang/Exception"]
def x_L : List Cond := vx_at0 RX10 134 xN xU
def x_B : List Cond := x_L.filter (fun w => !(goodWord w))
set_option maxRecDepth 100000 in
theorem x_tab : x_L.all (fun w => decide (w ∈ lw_tbl)) = true ∧ (Cond.classLink RX10 132 xN :: Cond.initialized xN :: x_L).all vx_ot = true ∧ x_B.all (fun w => match w with | .castable _ _ => true | .declares _ => true | _ => false) = true ∧ cx_w (.classLink RX10 132 xN) = true ∧ cx_w (.initialized xN) = true ∧ (Bundle.fit xN && xU.all Bundle.fit) = true ∧ Cond.castable xN xN ∈ x_B ∧ cx_w (.classLink "FairSlotsLaw" 13 xN) = true := by decide +kernel
theorem x_warm {w : Cond} (h : w ∈ x_B) {s U : State} (hW : s.WarmedH U.vm) (hZ : va_Nw w s) : va_Nw w U := by
  have h1 := List.all_eq_true.mp x_tab.2.2.1 w h
  cases w
  case castable a b => exact hZ.warmC hW
  case declares a => exact hZ.warmD hW
  all_goals (cases h1)
theorem x_ontab {w : Cond} (h : w ∈ x_B) : w.onTables = true := by
  have h1 := List.all_eq_true.mp x_tab.2.2.1 w h
  cases w
  case castable a b => rfl
  case declares a => rfl
  all_goals (cases h1)
/-- what a throw needs of the world around -/
def x_Z (A : Nat → Prop) (U : State) : Prop := vx_Zq Bundle.tN "UNASSIGNED_STACK" Bundle.steD A U U.heap ∧ vx_Zq Bundle.tN "SUPPRESSED_SENTINEL" Bundle.listD A U U.heap ∧ ∀ w ∈ x_B, va_Nw w U
theorem x_Z.at {A B : Nat → Prop} {s U : State} {H : Heap} (h : x_Z A s) (hq : ∀ a : Nat, a < s.heap.size → ¬ A a → H[a]? = s.heap[a]?) (hB : ∀ q, B q → A q) (hW : s.WarmedH U.vm) (hU : U.heap = H) : x_Z B U := by
  subst hU
  exact ⟨((h.1.kept hq).narrow hB).moved hW.alike, ((h.2.1.kept hq).narrow hB).moved hW.alike, fun w hw => x_warm hw hW (h.2.2 w hw)⟩
theorem x_hat {args : Array Value} {s : State} {A : Nat → Prop} (hts : ∀ w ∈ ms_T, w.before args s = true) (h : x_Z A s) : ∀ w ∈ x_L, w.before args s = true := by
  intro w hw
  by_cases e : goodWord w = true
  · exact hts w (List.mem_filter.mpr ⟨of_decide_eq_true (List.all_eq_true.mp x_tab.1 w hw), e⟩)
  · have hb : w ∈ x_B := List.mem_filter.mpr ⟨hw, by simpa using e⟩
    exact va_Nw.use (x_ontab hb) (h.2.2 w hb)
def x_Pc (D : va_G) (cA : Nat → ClassId) (ad : Nat → Nat) (N sz : Nat) (as : List Value) (h : mj_H) : Array Value → State → Prop := va_Pc (as.map (ms_v ad)) (fun U => U.heap.size = sz ∧ ms_B D cA ad N h (fun _ => True) U ∧ ms_Z ad (va_A (ms_cells ad cA N h) sz) U ∧ x_Z (va_A (ms_cells ad cA N h) sz) U)
theorem x_blind {D : va_G} {cA : Nat → ClassId} {ad : Nat → Nat} {N sz : Nat} {as : List Value} {h : mj_H} : FrameBlind (x_Pc D cA ad N sz as h) := by
  intro a U g mk q
  obtain ⟨q0, q1, ⟨qP, qK, qD⟩, qZ, qX⟩ := q
  exact ⟨q0, q1, ⟨qP, va_K.moved (u := U) (U := U.calling g mk a) (Vm.Alike.refl U.vm) qK, qD⟩, ms_Z.at (U := U.calling g mk a) (H := U.heap) qZ (fun _ _ _ => rfl) (fun _ z => z) (Vm.Alike.refl U.vm) rfl, qX.1.moved (Vm.Alike.refl U.vm), qX.2.1.moved (Vm.Alike.refl U.vm), fun w hw => va_Nw.same (u := U) (U := U.calling g mk a) (x_ontab hw) rfl (qX.2.2 w hw)⟩
def x_XC (D : va_G) (cA : Nat → ClassId) (ad : Nat → Nat) (N sz : Nat) (h : mj_H) : String → State → State → Prop := fun E st t => E = xN ∧ ms_B D cA ad N h (va_A (ms_cells ad cA N h) sz) t ∧ va_F (va_A (ms_cells ad cA N h) sz) st t
def x_room (d mc ms : Nat) : Room := { frames := d, cells := mc, slots := ms, locals := 60 * d }
def x_fits (as : List Value) (n : Nat) : Bool := Nat.ble (mj_ents as).length n
/-- a method that throws: up to its 'new', then out -/
theorem x_met (hOK : ms_OK2) (hLay : ms_lay) (hCp : ms_cpy) {l : Launch} (hl : l.stackTraces = false) {D : va_G} {cA : Nat → ClassId} {ad : Nat → Nat} {N k : Nat} {sg : mj_S} {cs : List mj_E} (hsg : mj_sigs[k]? = some sg) (hcs : mj_cods[k]? = some cs) (hm : ¬ ms_math k) (hcls : sg.1.cls = RX10) {as : List Value} {h : mj_H} {d pcT n : Nat}
    (hd0 : decode sg.2.1 pcT = .ok (.new 132, 3)) (hd3 : decode sg.2.1 (pcT + 3) = .ok (.dup, 1)) (hd4 : decode sg.2.1 (pcT + 4) = .ok (.invokespecial 134, 3)) (hd7 : decode sg.2.1 (pcT + 7) = .ok (.athrow, 1)) (hent : (mj_ents as).length ≤ sg.2.2.1) (hal : ∀ i ∈ cs, i.2.1 ≠ .arraylength)
    (hrun : ps d (fun _ => 0) 0 cs n (fun h' pc _ st => h' = h ∧ pc = pcT ∧ st = []) h 0 (mj_ent as sg.2.2.1) []) (hw : ms_wf N h) (hd : 5 ≤ d) (sz : Nat) : vx_Met l sg.1 (ms_ws sg) (x_room (d + 1) 1 6) (x_Pc D cA ad N sz as h) (fun _ _ _ _ => False) (x_XC D cA ad N sz h) 1 6 (va_A (ms_cells ad cA N h) sz) := by
  obtain ⟨hsig, hch⟩ := hOK k sg cs hm hsg hcs
  simp only [ms_sig, Bool.and_eq_true, decide_eq_true_eq] at hsig
  obtain ⟨⟨⟨⟨⟨⟨⟨⟨z1, z2⟩, z3⟩, z4⟩, z5⟩, z6⟩, z7⟩, z8⟩, z9⟩ := hsig
  refine vx_ofW (cc := sg.2.1) (maxL := sg.2.2.1) (ret := sg.2.2.2.1) z3 rfl ?_
  intro p e s m args below meth c s₁ B hml hno hv
  obtain ⟨rfl, hsz, ⟨hP, hK, hD0⟩, hZ, hxZ⟩ := hv
  have hts0 := atoms_spec (ws := ms_ws sg) B.pre
  have hts : ∀ w ∈ ms_T, w.before (as.map (ms_v ad)).toArray s = true := fun w hw => hts0 w (List.mem_cons_of_mem _ hw)
  have hown : s.vm.findClass sg.2.2.2.2.2.2.2.2.2.2 = some m.cls := by rw [z2]; exact findClass_of_methodNamed B.named
  have hown2 : s.vm.findClass RX10 = some m.cls := by rw [← hcls]; exact findClass_of_methodNamed B.named
  subst hsz
  have hD := hD0.self (sz := s.heap.size)
  rw [lg_entry_eq]
  refine psW (N := N) (A := va_A (ms_cells ad cA N h) s.heap.size) hOK hLay hCp hch B.exec B.bytes hown hts hml (fun q hq => Or.inr hq) hK hZ (Nat.le_refl _) (Nat.le_refl _) ⟨Nat.zero_le _, Nat.zero_le _⟩ (Or.inl ⟨rfl, hal⟩) ?_ n h 0 (mj_ent as sg.2.2.1) [] s.heap [] _ hrun ⟨hP, hD, va_S.rf, hw⟩ (ms_L_entry hent)
  intro h' pc L st H locs ls hq hR hll
  obtain ⟨rfl, rfl, rfl⟩ := hq
  obtain ⟨hP1, hD1, hS1, -⟩ := hR
  obtain ⟨t1, t2, t3, t4, t5, t6, t7, t8⟩ := x_tab
  simp only [Bool.and_eq_true] at t6
  refine vx_throw0 (names := xU) (ik := 132) (ic := 134) (A := va_A (ms_cells ad cA N h') s.heap.size) B.exec B.bytes hl hown2 t6.1 (fun n hn => List.all_eq_true.mp t6.2 n hn) (hts _ (cx_w_ok t4)) (hts _ (cx_w_ok t5)) (x_hat hts hxZ) (fun w hw => List.all_eq_true.mp t2 w hw) hxZ.1 hxZ.2.1 hS1 (by rw [hml]; exact hll.2.1) hd0 hd3 hd4 hd7 (fun x hx => (hno x hx).elim) ?_ ?_ (Nat.le_refl _) (Nat.le_refl _) B.notSynchronized ?_ (fun z hz => hS1.2.2 z hz) (Nat.le_refl _) (Nat.le_refl _)
  · show 2 + 3 < d + 1
    omega
  · show 0 + (13 * 3 + 42) ≤ 60 * (d + 1)
    omega
  · intro t hvm hz hk
    refine ⟨rfl, ⟨hP1.kept (fun k x hx => hk x.1 ((hP1 k x hx).lt)), va_K.moved hvm hK, hD1⟩, ⟨Nat.le_trans hS1.1 hz, fun q h1 h2 => ?_⟩⟩
    rw [hk q (Nat.lt_of_lt_of_le h1 hS1.1)]
    exact hS1.2.1 q h1 h2
abbrev x_rest : List Value := [.int 0, .ref 246]
abbrev x_st (bs : List Value) : List Value := bs.reverse ++ .ref 0 :: x_rest
abbrev hL : String := "FairSlotsLaw"
def h_ws (y : MethodName) (bH : ByteArray) (nH : Nat) (hh : Nat × Nat × Nat × Nat) : List Cond := Cond.codeWith y bH nH (some .int) [hh] :: ms_T
/-- a helper of the law, where the method that it calls throws -/
theorem x_helpT (hOK : ms_OK2) (hLay : ms_lay) (hCp : ms_cpy) {l : Launch} {D : va_G} {cA : Nat → ClassId} {ad : Nat → Nat} {N : Nat} {sg : mj_S} {k : Nat} {cs : List mj_E} (hsg : mj_sigs[k]? = some sg) (hcs : mj_cods[k]? = some cs) (hm : ¬ ms_math k) (hci : sg.2.2.2.2.2.2.1 = 10) (hst : sg.2.2.2.2.2.1 = false) {bs asH : List Value} {fs : List Value} {h : mj_H} {d n pcC ixC nH j w : Nat} {yH : MethodName} {bH : ByteArray} {kH : List mj_E} {hh : Nat × Nat × Nat × Nat}
    (hM : ∀ sz, vx_Met l sg.1 (ms_ws sg) (x_room (d + 1) 1 6) (x_Pc D cA ad N sz (.ref 0 :: bs) h) (fun _ _ _ _ => False) (x_XC D cA ad N sz h) 1 6 (va_A (ms_cells ad cA N h) sz)) (h0 : h 0 = .inr (10, fs)) (hlen : bs.length + 1 = sg.2.2.2.2.1)
    (hpl : plainName yH.cls = true) (hyc : yH.cls = hL) (hchk : kH.all (ms_chk hL bH) = true) (hal : ∀ i ∈ kH, i.2.1 ≠ .arraylength) (hent : (mj_ents asH).length ≤ nH)
    (hrun : ps (d + 1) (fun _ => 0) 0 kH n (fun h' pc _ st => h' = h ∧ pc = pcC ∧ st = x_st bs) h 0 (mj_ent asH nH) []) (hdC : decode bH pcC = .ok (.invokevirtual ixC, 3)) (hlink : Cond.methodLink hL ixC sg.1 ∈ ms_T)
    (hcov : covers ⟨hh.1, hh.2.1, hh.2.2.1, hh.2.2.2⟩ pcC = true) (h13 : hh.2.2.2 = 13) (hdh : (decode bH hh.2.2.1 = .ok (.astore j, 2) ∧ w = 2) ∨ (decode bH hh.2.2.1 = .ok (.astore_n 3, 1) ∧ j = 3 ∧ w = 1)) (hj : j < nH) (hd1 : decode bH (hh.2.2.1 + w) = .ok (.iconst 1, 1)) (hd2 : decode bH (hh.2.2.1 + w + 1) = .ok (.ireturn, 1)) (hw : ms_wf N h) (sz : Nat) :
    Met l yH (h_ws yH bH nH hh) (x_room (d + 2) 1 6) (x_Pc D cA ad N sz asH h) (ms_Qc D cA ad N sz h (some (.int 1)) h) 1 6 (va_A (ms_cells ad cA N h) sz) := by
  refine va_MetW (cc := bH) (maxL := nH) (ret := some .int) (hh := [hh]) hpl rfl ?_
  intro p e s m args below meth c s₁ B hml hv
  obtain ⟨rfl, hsz, ⟨hP, hK, hD0⟩, hZ, hxZ⟩ := hv
  have hts0 := atoms_spec (ws := h_ws yH bH nH hh) B.pre
  have hts : ∀ w ∈ ms_T, w.before (asH.map (ms_v ad)).toArray s = true := fun w hw => hts0 w (List.mem_cons_of_mem _ hw)
  have htab := vx_table (x := yH) B (hts0 _ List.mem_cons_self)
  have hown : s.vm.findClass hL = some m.cls := by rw [← hyc]; exact findClass_of_methodNamed B.named
  subst hsz
  have hD := hD0.self (sz := s.heap.size)
  rw [lg_entry_eq]
  refine psW (N := N) (A := va_A (ms_cells ad cA N h) s.heap.size) hOK hLay hCp hchk B.exec B.bytes hown hts hml (fun q hq => Or.inr hq) hK hZ (Nat.le_refl _) (Nat.le_refl _) ⟨Nat.zero_le _, Nat.zero_le _⟩ (Or.inl ⟨rfl, hal⟩) ?_ n h 0 (mj_ent asH nH) [] s.heap [] _ hrun ⟨hP, hD, va_S.rf, hw⟩ (ms_L_entry hent)
  intro h' pc L st H locs ls hq hR hll
  obtain ⟨rfl, rfl, rfl⟩ := hq
  obtain ⟨hP1, hD1, hS1, hW1⟩ := hR
  have hFc : ∀ q, va_A (ms_cells ad cA N h') H.size q → va_A (ms_cells ad cA N h') s.heap.size q := by
    intro q hq
    rcases hq with ⟨j, e1, hq⟩ | hq
    · exact Or.inl ⟨j, e1, hq⟩
    · exact Or.inr (Nat.le_trans hS1.1 hq)
  have hS0 := (hOK k sg cs hm hsg hcs).1
  simp only [ms_sig, Bool.and_eq_true, decide_eq_true_eq] at hS0
  obtain ⟨⟨⟨⟨⟨⟨⟨⟨z1, z2⟩, z3⟩, z4⟩, z5⟩, z6⟩, z7⟩, z8⟩, z9⟩ := hS0
  have hcode : Cond.code sg.1 sg.2.1 sg.2.2.1 sg.2.2.2.1 ∈ ms_T := ms_in_ok z1
  have hini : Cond.initialized sg.1.cls ∈ ms_T := List.mem_filter.mpr ⟨z7, z8⟩
  have hmL := Nat.le_of_ble_eq_true z6
  have hgood : GoodIn ms_T (ms_ws sg) := by
    intro w hw
    rcases List.mem_cons.mp hw with rfl | hw
    · exact ms_T_good _ hcode
    · exact ms_T_good _ hw
  simp only [hst, Bool.and_eq_true, decide_eq_true_eq] at z9
  obtain ⟨⟨⟨y1, y2⟩, y3⟩, y4⟩ := z9
  rw [hci] at y4
  have y4 : RX10 = sg.1.cls := of_decide_eq_true y4
  have y3' : (parseMethodDescriptor sg.1.desc).map (fun d => d.parameters.length) = some bs.length := by
    cases hz : parseMethodDescriptor sg.1.desc with
    | none => rw [hz] at y3; cases y3
    | some x =>
      rw [hz] at y3
      simp only [Option.map_some, Option.some.injEq] at y3 ⊢
      omega
  have hlt : ms_re N 0 := hW1.lt h0 ⟨(fun z => by simp at z), (fun z => by simp at z)⟩ rfl
  have he := ms_cells_at (ad := ad) (cA := cA) (h := h') hW1.1 hlt
  rw [h0] at he
  have hrv := va_recv (q := (RX10, TX10, 14)) hK hP1 rfl he
  rw [show (RX10, TX10, 14).1 = sg.1.cls from y4] at hrv
  have hroom : (x_room (d + 1) 1 6).frames + 1 ≤ (x_room (d + 2) 1 6).frames ∧ 8 + (sg.2.2.1 + 11) + (x_room (d + 1) 1 6).locals ≤ (x_room (d + 2) 1 6).locals := by
    refine ⟨Nat.le_refl _, ?_⟩
    show 8 + (sg.2.2.1 + 11) + 60 * (d + 1) ≤ 60 * (d + 2)
    omega
  have hrr : 2 * (F0 m pc ls ((x_st bs).map (ms_v ad))).monitorRoom + ((x_rest.map (ms_v ad)).map fun v => v.category).sum ≤ 8 := lv_room (Nat.le_of_ble_eq_true rfl)
  have hfin := vx_runV (l := l) (p := p) (e := e) (below := below) (meth := meth) (H := H) (locs := locs) (cells := 0) (slots := 0) (g := F0 m pc ls ((x_st bs).map (ms_v ad))) (rest := x_rest.map (ms_v ad)) (b := ad 0) (As := bs.map (ms_v ad)) (Ts := ms_T) ⟨B.exec, B.bytes, hml, hown, hts⟩ (hM H.size) ⟨callB_of (R := x_room (d + 2) 1 6) bs.length hts hgood rfl rfl rfl (hts _ hini) (hts _ hlink) ⟨z4, z5, y3'⟩ hroom, hts _ (ms_in_ok y1), hts _ (ms_in_ok y2)⟩ ⟨x_blind, hrv, fun U hU hWU => ⟨rfl, by rw [hU], ⟨by rw [hU]; exact hP1, va_K.moved hWU.alike hK, hD1.weaken (fun _ _ _ _ => trivial)⟩, hZ.at hS1.2.1 hFc hWU.alike hU, hxZ.at hS1.2.1 hFc hWU hU⟩⟩ rfl (by simp) hll.2.1 (by
    show (x_st bs).map (ms_v ad) = _
    rw [List.map_append, List.map_reverse]
    rfl) hrr hdC ⟨Nat.le_refl _, Nat.le_refl _⟩
  intro T hT X
  rcases hfin T hT X with ⟨v, st₀, t, T', L9, e0, X', hL9, e1, e2, hq, st⟩ | ⟨q, st₀, t, T', L9, E, ce, e0, X', hL9, e1, e2, ⟨hE, hB, hF⟩, hce, hcv, hcl, st⟩
  · exact hq.elim
  · subst hE
    obtain ⟨k1, k2, k3⟩ := vx_keep e0 e1 hS1 (fun q _ z => hFc q z) (fun q z => hFc q z) hL9 hF
    obtain ⟨b1, b2, b3⟩ := hB
    have hP2 : va_P D mj_cls (ms_cells ad cA N h') T'.heap := by rw [e1]; exact b1
    have hK2 : va_K D mj_cls (ms_tys cA) s := hK
    have hcatch : vx_W p l e (x_room (d + 2) 1 6) s m (asH.map (ms_v ad)).toArray below meth c T'.heap (locs ++ L9) (0 + 1) (0 + 6) (MQ below (ms_Qc D cA ad N s.heap.size h' (some (.int 1)) h') (asH.map (ms_v ad)).toArray s 1 6 (va_A (ms_cells ad cA N h') s.heap.size)) (F0 m pc ls (x_rest.map (ms_v ad))) q := by
      refine vx_catch (own := hL) (name := xN) (E := xN) (ce := ce) hown [] ⟨hh.1, hh.2.1, hh.2.2.1, hh.2.2.2⟩ [] htab (fun z hz => by cases hz) hcov (by show hh.2.2.2 ≠ 0; rw [h13]; decide) (by show (Cond.classLink hL hh.2.2.2 xN).before _ s = true; rw [h13]; exact hts _ (cx_w_ok x_tab.2.2.2.2.2.2.2)) (va_Nw.use rfl (hxZ.2.2 _ x_tab.2.2.2.2.2.2.1)) (by rw [e1]; exact hce) hcv hcl ?_
      have hend : ∀ ls2 : Array Slot, W p l e (x_room (d + 2) 1 6) s m (asH.map (ms_v ad)).toArray below meth c T'.heap (locs ++ L9) (0 + 1) (0 + 6) (MQ below (ms_Qc D cA ad N s.heap.size h' (some (.int 1)) h') (asH.map (ms_v ad)).toArray s 1 6 (va_A (ms_cells ad cA N h') s.heap.size)) (F0 m (hh.2.2.1 + w) ls2 []) := by
        intro ls2
        refine lv_iconst (v := 1) B.exec B.bytes hd1 rfl ?_
        refine W.zret B.exec B.bytes B.returns rfl (fun t2 h2 hW2 => ?_) (fun z hz => k3.2.2 z hz) hd2 B.notSynchronized
        exact ⟨⟨rfl, by rw [h2]; exact hP2, va_K.moved hW2.alike hK, b3.weaken (fun _ q _ z => hFc q.1 z)⟩, k3.F h2⟩
      rcases hdh with ⟨g1, g2⟩ | ⟨g1, g2, g3⟩
      · subst g2
        exact lv_astore B.exec B.bytes g1 hll.2 hj rfl (fun ls2 _ => hend ls2)
      · subst g2 g3
        exact lv_astore_n B.exec B.bytes g1 rfl hll.2 hj rfl (fun ls2 _ => hend ls2)
    obtain ⟨t2, a1, b1⟩ := hcatch T' rfl X'
    exact ⟨t2, st.trans a1, b1⟩
/-- .. and where it answers -/
theorem x_helpN (hOK : ms_OK2) (hLay : ms_lay) (hCp : ms_cpy) {l : Launch} {D : va_G} {cA : Nat → ClassId} {ad : Nat → Nat} {N : Nat} {asH : List Value} {h h' : mj_H} {d n pcR nH : Nat} {yH : MethodName} {bH : ByteArray} {kH : List mj_E} {hh : Nat × Nat × Nat × Nat}
    (hpl : plainName yH.cls = true) (hyc : yH.cls = hL) (hchk : kH.all (ms_chk hL bH) = true) (hal : ∀ i ∈ kH, i.2.1 ≠ .arraylength) (hent : (mj_ents asH).length ≤ nH)
    (hrun : ps d (fun _ => 0) 0 kH n (fun h2 pc _ st => h2 = h' ∧ pc = pcR ∧ st = [.int 0]) h 0 (mj_ent asH nH) []) (hdR : decode bH pcR = .ok (.ireturn, 1)) (hw : ms_wf N h) (sz : Nat) :
    Met l yH (h_ws yH bH nH hh) (x_room (d + 1) 0 0) (x_Pc D cA ad N sz asH h) (ms_Qc D cA ad N sz h (some (.int 0)) h') 0 0 (va_A (ms_cells ad cA N h) sz) := by
  refine va_MetW (cc := bH) (maxL := nH) (ret := some .int) (hh := [hh]) hpl rfl ?_
  intro p e s m args below meth c s₁ B hml hv
  obtain ⟨rfl, hsz, ⟨hP, hK, hD0⟩, hZ, hxZ⟩ := hv
  have hts0 := atoms_spec (ws := h_ws yH bH nH hh) B.pre
  have hts : ∀ w ∈ ms_T, w.before (asH.map (ms_v ad)).toArray s = true := fun w hw => hts0 w (List.mem_cons_of_mem _ hw)
  have hown : s.vm.findClass hL = some m.cls := by rw [← hyc]; exact findClass_of_methodNamed B.named
  subst hsz
  have hD := hD0.self (sz := s.heap.size)
  rw [lg_entry_eq]
  refine psW (N := N) (A := va_A (ms_cells ad cA N h) s.heap.size) hOK hLay hCp hchk B.exec B.bytes hown hts hml (fun q hq => Or.inr hq) hK hZ (Nat.le_refl _) (Nat.le_refl _) ⟨Nat.zero_le _, Nat.zero_le _⟩ (Or.inl ⟨rfl, hal⟩) ?_ n h 0 (mj_ent asH nH) [] s.heap [] _ hrun ⟨hP, hD, va_S.rf, hw⟩ (ms_L_entry hent)
  intro h2 pc L st H locs ls hq hR hll
  obtain ⟨rfl, rfl, rfl⟩ := hq
  obtain ⟨hP1, hD1, hS1, hW1⟩ := hR
  exact W.zret B.exec B.bytes B.returns rfl (fun t2 g2 hW2 => ⟨⟨rfl, by rw [g2]; exact hP1, va_K.moved hW2.alike hK, hD1⟩, hS1.F g2⟩) (fun z hz => hS1.2.2 z hz) hdR B.notSynchronized
