def ms_room (d : Nat) : Room := { frames := d, cells := 0, slots := 0, locals := 60 * d }
def ms_OK : Prop := ∀ (k : Nat) (sg : mj_S) (cs : List mj_E), mj_sigs[k]? = some sg → mj_cods[k]? = some cs → ms_sig sg = true ∧ cs.all (ms_chk sg.2.2.2.2.2.2.2.2.2.2 sg.2.1) = true
theorem mj_at_in {own : String} {bs : ByteArray} : ∀ {cs : List mj_E} {pc : Nat} {i : Instr} {nx aux : Nat} {cv : Int32}, cs.all (ms_chk own bs) = true → mj_at cs pc = some (i, nx, aux, cv) → ∃ wi, ms_chk own bs (pc, i, nx, aux, cv, wi) = true := by
  intro cs
  induction cs with
  | nil => intro pc i nx aux cv _ h; cases h
  | cons q r ih =>
    intro pc i nx aux cv ha h
    obtain ⟨p1, i1, n1, a1, c1, w1⟩ := q
    simp only [List.all_cons, Bool.and_eq_true] at ha
    simp only [mj_at] at h
    split at h
    next e =>
      cases h
      have e := Nat.eq_of_beq_eq_true e
      subst e
      exact ⟨w1, ha.1⟩
    next => exact ih ha.2 h
/-- what is kept of a heap that has no more than N cells -/
theorem mj_mem_wf {N : Nat} {i : Instr} {aux : Nat} {st st' : List Value} {h h' : mj_H} (hw : ms_wf N h) (hm : mj_mem i aux st h st' h') : ms_wf N h' := by
  cases i
  case getstatic ix => obtain ⟨rfl, -⟩ := hm; exact hw
  case getfield ix => obtain ⟨a, fs, v, r, -, -, -, -, rfl⟩ := hm; exact hw
  case putfield ix =>
    obtain ⟨a, fs, v, r, -, ha, hl, -, -, rfl⟩ := hm
    exact hw.up (hw.lt ha ⟨(fun z => by simp only [Sum.inr.injEq, Prod.mk.injEq] at z; rw [z.2] at hl; simp at hl), (fun z => by simp only [Sum.inr.injEq, Prod.mk.injEq] at z; rw [z.2] at hl; simp at hl)⟩ rfl) rfl
  case iaload => obtain ⟨a, j, n, f, r, -, -, -, -, rfl⟩ := hm; exact hw
  case laload => obtain ⟨a, j, n, f, r, -, -, -, -, rfl⟩ := hm; exact hw
  case baload => obtain ⟨a, j, n, f, r, -, -, -, -, rfl⟩ := hm; exact hw
  case caload => obtain ⟨a, j, n, f, r, -, -, -, -, rfl⟩ := hm; exact hw
  case aaload => obtain ⟨a, j, n, f, b, r, -, -, -, -, -, rfl⟩ := hm; exact hw
  case iastore => obtain ⟨a, j, n, f, x, r, -, ha, -, -, rfl⟩ := hm; exact hw.up (hw.lt ha ⟨(fun z => by cases z), (fun z => by cases z)⟩ rfl) rfl
  case lastore => obtain ⟨a, j, n, f, x, r, -, ha, -, -, rfl⟩ := hm; exact hw.up (hw.lt ha ⟨(fun z => by cases z), (fun z => by cases z)⟩ rfl) rfl
  case bastore =>
    obtain ⟨a, j, n, f, x, r, -, -, -, ha⟩ := hm
    rcases ha with ⟨ha, rfl⟩ | ⟨ha, rfl⟩
    · exact hw.up (hw.lt ha ⟨(fun z => by cases z), (fun z => by cases z)⟩ rfl) rfl
    · exact hw.up (hw.lt ha ⟨(fun z => by cases z), (fun z => by cases z)⟩ rfl) rfl
  case castore => obtain ⟨a, j, n, f, x, r, -, ha, -, -, rfl⟩ := hm; exact hw.up (hw.lt ha ⟨(fun z => by cases z), (fun z => by cases z)⟩ rfl) rfl
  case arraylength => obtain ⟨a, t, n, f, r, -, -, -, -, rfl⟩ := hm; exact hw
  case invokestatic ix =>
    obtain ⟨-, a, a0, n, n0, f, g, sp, dp, kk, r, -, h0, ha, -, -, -, -, -, -, -, rfl⟩ := hm
    exact hw.up (hw.lt ha ⟨(fun z => by cases z), (fun z => by cases z)⟩ rfl) rfl
  all_goals (exact hm.elim)
theorem mj_run_wf {N : Nat} {B : mj_B} (hB : ∀ k as h r h', ms_wf N h → B k as h r h' → ms_wf N h') {ty : Option FieldType} {cs : List mj_E} : ∀ (n : Nat) {Q : Option Value → mj_H → Prop} {h : mj_H} {pc : Nat} {L : mj_L} {st : List Value}, ms_wf N h → mj_run B ty cs n Q h pc L st → mj_run B ty cs n (fun v g => Q v g ∧ ms_wf N g) h pc L st := by
  intro n
  induction n with
  | zero => intro Q h pc L st _ hr; exact hr.elim
  | succ n ih =>
    intro Q h pc L st hw hr
    obtain ⟨i, nx, aux, cv, hat, hr⟩ := hr
    refine ⟨i, nx, aux, cv, hat, ?_⟩
    rcases hr with ⟨a, b, c, e, hr⟩ | ⟨q, c, e, hr⟩ | ⟨q, c, e, hq, hr⟩ | ⟨t, c, e, hr⟩ | ⟨c, g, e, hr⟩ | ⟨a, b, r1, g, e, hB1, hr⟩ | ⟨v, e, hr⟩
    · exact Or.inl ⟨a, b, c, e, ih hw hr⟩
    · rcases hr with ⟨hq, hr⟩ | ⟨hq, hr⟩
      · exact Or.inr (Or.inl ⟨q, c, e, Or.inl ⟨hq, ih hw hr⟩⟩)
      · exact Or.inr (Or.inl ⟨q, c, e, Or.inr ⟨hq, ih hw hr⟩⟩)
    · exact Or.inr (Or.inr (Or.inl ⟨q, c, e, hq, ih hw hr⟩))
    · exact Or.inr (Or.inr (Or.inr (Or.inl ⟨t, c, e, ih hw hr⟩)))
    · exact Or.inr (Or.inr (Or.inr (Or.inr (Or.inl ⟨c, g, e, ih (mj_mem_wf hw e) hr⟩))))
    · exact Or.inr (Or.inr (Or.inr (Or.inr (Or.inr (Or.inl ⟨a, b, r1, g, e, hB1, ih (hB _ _ _ _ _ hw hB1) hr⟩)))))
    · exact Or.inr (Or.inr (Or.inr (Or.inr (Or.inr (Or.inr ⟨v, e, hr, hw⟩)))))
theorem mj_big_wf {N : Nat} : ∀ (d k : Nat) (as : List Value) (h : mj_H) (r : Option Value) (h' : mj_H), ms_wf N h → mj_big d k as h r h' → ms_wf N h' := by
  intro d
  induction d with
  | zero => intro k as h r h' _ q; exact q.elim
  | succ d ih =>
    intro k as h r h' hw q
    obtain ⟨sg, cs, h1, h2, h3, n, h4⟩ := q
    obtain ⟨r2, h2', ⟨⟨-, e2⟩, h5⟩, -⟩ := mj_run_sp n (mj_run_wf ih n hw h4)
    rw [← e2]
    exact h5
def ms_B (D : va_G) (cA : Nat → ClassId) (ad : Nat → Nat) (N : Nat) (h : mj_H) (A : Nat → Prop) (U : State) : Prop := va_P D mj_cls (ms_cells ad cA N h) U.heap ∧ va_K D mj_cls (ms_tys cA) U ∧ va_D A (ms_cells ad cA N h)
def ms_Pc (D : va_G) (cA : Nat → ClassId) (ad : Nat → Nat) (N sz : Nat) (as : List Value) (h : mj_H) : Array Value → State → Prop := va_Pc (as.map (ms_v ad)) (fun U => U.heap.size = sz ∧ ms_B D cA ad N h (fun _ => True) U ∧ ms_Z ad (va_A (ms_cells ad cA N h) sz) U)
def ms_Qc (D : va_G) (cA : Nat → ClassId) (ad : Nat → Nat) (N sz : Nat) (h : mj_H) (r : Option Value) (h' : mj_H) : Array Value → State → Outcome → State → Prop := fun _ st oc t => (oc = .returned (r.map (ms_v ad)) ∧ ms_B D cA ad N h' (va_A (ms_cells ad cA N h) sz) t) ∧ va_F (va_A (ms_cells ad cA N h) sz) st t
theorem ms_blind {D : va_G} {cA : Nat → ClassId} {ad : Nat → Nat} {N sz : Nat} {as : List Value} {h : mj_H} : FrameBlind (ms_Pc D cA ad N sz as h) := by
  intro a U g mk q
  obtain ⟨q0, q1, ⟨qP, qK, qD⟩, qZ⟩ := q
  exact ⟨q0, q1, ⟨qP, va_K.moved (u := U) (U := U.calling g mk a) (Vm.Alike.refl U.vm) qK, qD⟩, ms_Z.at (U := U.calling g mk a) (H := U.heap) qZ (fun _ _ _ => rfl) (fun _ z => z) (Vm.Alike.refl U.vm) rfl⟩
theorem ms_cats (ad : Nat → Nat) (r : List Value) : ((r.map (ms_v ad)).map fun v => v.category) = r.map fun v => v.category := by
  rw [List.map_map]
  exact List.map_congr_left (fun v _ => ms_v_cat ad v)
set_option maxRecDepth 20000 in
theorem mj_sigs_len : mj_sigs.length ≤ 9999 := by decide +kernel
section msCall
variable {p : Program} {l : Launch} {e : Env} {R : Room} {s : State} {m : MethodId} {args : Array Value} {below : List Frame} {meth : Method} {c : Code} {H : Heap} {locs : List Loc} {cells slots : Nat} {Q : State → Prop}
variable {own : String} {bs : ByteArray} {pc nx aux wi nL : Nat} {i : Instr} {cv : Int32} {L : mj_L} {st : List Value} {ad : Nat → Nat} {ls : Array Slot} {D : va_G} {cA : Nat → ClassId} {N : Nat} {A : Nat → Prop} {h h' : mj_H}
theorem ms_goes {v : Option Value} {Bt : State → Prop} {A0 A1 : Nat → Prop} {H0 : Heap} {free : Addr → Prop} {st0 rest : List Value} (hr : va_Run p l e R s m args below meth c H locs cells slots 0 0 (F0 m pc ls st0) rest (fun st oc t => (oc = .returned v ∧ Bt t) ∧ va_F A1 st t) free) (hS : va_S A0 H0 H locs) (hA : ∀ q, q < H.size → A1 q → A0 q) (hf : ∀ q, free q → A0 q)
    (kk : ∀ (t : State) (H1 : Heap) (locs1 : List Loc), t.heap = H1 → s.vm.Alike t.vm → Bt t → va_S A0 H0 H1 locs1 → W p l e R s m args below meth c H1 locs1 cells slots Q (F0 m (pc + 3) ls (v.toList ++ rest))) : W p l e R s m args below meth c H locs cells slots Q (F0 m pc ls st0) := by
  intro T hT X
  obtain ⟨v', st₀, t, T', L, h0, X', hL, e1, e2, ⟨⟨hv, hb⟩, hz, hk⟩, st⟩ := hr T hT X
  cases hv
  rw [h0] at hz hk
  obtain ⟨t2, a1, b1⟩ := kk t T'.heap (locs ++ L) e1.symm (by rw [← e2]; exact X'.warmed.alike) hb
    ⟨Nat.le_trans hS.1 (by rw [e1]; exact hz), fun q h1 h2 => by rw [e1, hk q (Nat.lt_of_lt_of_le h1 hS.1) (fun z => h2 (hA q (Nat.lt_of_lt_of_le h1 hS.1) z))]; exact hS.2.1 q h1 h2, fun q hq => by
      rcases List.mem_append.mp hq with h | h
      · exact hS.2.2 q h
      · exact hf _ (hL q h)⟩ T' rfl X'
  exact ⟨t2, st t2 a1, b1⟩
theorem ms_callW {d : Nat} {as rest : List Value} {r : Option Value} (hOK : ms_OK) (hc : ms_chk own bs (pc, i, nx, aux, cv, wi) = true) (hca : mj_call i aux st h as rest)
    (hM : ∀ (sg : mj_S), mj_sigs[aux]? = some sg → ∀ sz, Met l sg.1 (ms_ws sg) (ms_room d) (ms_Pc D cA ad N sz as h) (ms_Qc D cA ad N sz h r h') 0 0 (va_A (ms_cells ad cA N h) sz))
    (hx : p.tables.exec = Jvm.exec) (hb : c.code = bs) (hown : s.vm.findClass own = some m.cls) (hts : ∀ w ∈ ms_T, w.before args s = true) (hml : c.maxLocals = nL) (hls : ls.size = nL) (hfr : d + 1 ≤ R.frames) (hlo : 60 * (d + 1) ≤ R.locals)
    (hA : ∀ q : Nat, s.heap.size ≤ q → A q) (hK : va_K D mj_cls (ms_tys cA) s) (hZ : ms_Z ad A s) (hR : ms_Rel D cA ad N A s.heap h H locs) (hw' : ms_wf N h') (hcell : 0 ≤ R.cells ∧ 0 ≤ R.slots)
    (hcs : ∃ cs, mj_cods[aux]? = some cs)
    (k : ∀ (H1 : Heap) (locs1 : List Loc), ms_Rel D cA ad N A s.heap h' H1 locs1 → W p l e R s m args below meth c H1 locs1 0 0 Q (F0 m nx ls ((r.toList ++ rest).map (ms_v ad)))) : W p l e R s m args below meth c H locs 0 0 Q (F0 m pc ls (st.map (ms_v ad))) := by
  obtain ⟨hd, hn⟩ := ms_split hc
  obtain ⟨hP, hD, hS, hW⟩ := hR
  obtain ⟨sg, hsg, hst, hlen, hrest, hkind⟩ := hca
  obtain ⟨cs, hcs⟩ := hcs
  have hS0 := (hOK aux sg cs hsg hcs).1
  have hFc : ∀ q, va_A (ms_cells ad cA N h) H.size q → A q := by
    intro q hq
    rcases hq with ⟨j, e1, hq⟩ | hq
    · exact hD.2 j _ hq
    · exact hA q (Nat.le_trans hS.1 hq)
  have hrr : 2 * (F0 m pc ls (st.map (ms_v ad))).monitorRoom + ((rest.map (ms_v ad)).map fun v => v.category).sum ≤ 8 := lv_room (by rw [ms_cats]; exact hrest)
  simp only [ms_sig, Bool.and_eq_true, decide_eq_true_eq] at hS0
  obtain ⟨⟨⟨⟨⟨⟨⟨⟨z1, z2⟩, z3⟩, z4⟩, z5⟩, z6⟩, z7⟩, z8⟩, z9⟩ := hS0
  have hcode : Cond.code sg.1 sg.2.1 sg.2.2.1 sg.2.2.2.1 ∈ ms_T := ms_in_ok z1
  have hini : Cond.initialized sg.1.cls ∈ ms_T := List.mem_filter.mpr ⟨z7, z8⟩
  have hmL := Nat.le_of_ble_eq_true z6
  have hgood : GoodIn ms_T (ms_ws sg) := by
    intro w hw
    rcases List.mem_cons.mp hw with rfl | hw
    · exact ms_T_good _ hcode
    · exact ms_T_good _ hw
  have hroom : (ms_room d).frames + 1 ≤ R.frames ∧ 8 + (sg.2.2.1 + 11) + (ms_room d).locals ≤ R.locals := by
    refine ⟨hfr, ?_⟩
    show 8 + (sg.2.2.1 + 11) + 60 * d ≤ R.locals
    omega
  have hfin : va_Run p l e R s m args below meth c H locs 0 0 0 0 (F0 m pc ls (st.map (ms_v ad))) (rest.map (ms_v ad)) (ms_Qc D cA ad N H.size h r h' ((as.map (ms_v ad)).toArray)) (va_A (ms_cells ad cA N h) H.size) := by
    cases i
    case invokestatic ix =>
      simp only [hkind, Bool.and_eq_true, decide_eq_true_eq] at z9
      simp only [ms_chk, Bool.and_eq_true, ms_mlink] at hc
      obtain ⟨-, hc⟩ := hc
      split at hc
      next e9 =>
        exfalso
        have e9 := Nat.eq_of_beq_eq_true e9
        subst e9
        have := mj_sigs_len
        have h9 := (List.getElem?_eq_some_iff.mp hsg).1
        omega
      next =>
        rw [hsg] at hc
        have hlink := ms_in_ok hc
        refine va_runS (As := as.map (ms_v ad)) (Ts := ms_T) ⟨hx, hb, hml, hown, hts⟩ (hM sg hsg H.size) ⟨callB_of sg.2.2.2.2.1 hts hgood rfl rfl rfl (hts _ hini) (hts _ hlink) ⟨z4, z5, z9.2⟩ hroom, hts _ (ms_in_ok z9.1)⟩ ⟨ms_blind, fun U hU hWU => ⟨rfl, by rw [hU], ⟨by rw [hU]; exact hP, va_K.moved hWU.alike hK, hD.weaken (fun _ _ _ _ => trivial)⟩, hZ.at hS.2.1 hFc hWU.alike hU⟩⟩ rfl (by simpa using hlen) hls ?_ hrr hd ⟨by simpa using hcell.1, by simpa using hcell.2⟩
        show st.map (ms_v ad) = _
        rw [hst, List.map_append, List.map_reverse]
    case invokevirtual ix =>
      obtain ⟨hkind, b, bs', fs, rfl, hbc⟩ := hkind
      simp only [hkind, Bool.and_eq_true, decide_eq_true_eq] at z9
      simp only [ms_chk, Bool.and_eq_true, ms_mlink] at hc
      obtain ⟨-, hc⟩ := hc
      split at hc
      next e9 =>
        exfalso
        have e9 := Nat.eq_of_beq_eq_true e9
        subst e9
        have := mj_sigs_len
        have h9 := (List.getElem?_eq_some_iff.mp hsg).1
        omega
      next =>
        rw [hsg] at hc
        have hlink := ms_in_ok hc
        obtain ⟨⟨⟨y1, y2⟩, y3⟩, y4⟩ := z9
        split at y4
        next q hq =>
          have y4 := of_decide_eq_true y4
          have hlt : ms_re N b := hW.lt hbc ⟨(fun z => by
            simp only [Sum.inr.injEq, Prod.mk.injEq] at z
            rw [z.1] at hq
            cases hq), (fun z => by
            simp only [Sum.inr.injEq, Prod.mk.injEq] at z
            rw [z.1] at hq
            cases hq)⟩ rfl
          have he := ms_cells_at (ad := ad) (cA := cA) (h := h) hW.1 hlt
          rw [hbc] at he
          have hrv := va_recv hK hP hq he
          rw [y4] at hrv
          have hlen2 : bs'.length + 1 = sg.2.2.2.2.1 := by simpa using hlen
          have y3' : (parseMethodDescriptor sg.1.desc).map (fun d => d.parameters.length) = some bs'.length := by
            cases hz : parseMethodDescriptor sg.1.desc with
            | none => rw [hz] at y3; cases y3
            | some x =>
              rw [hz] at y3
              simp only [Option.map_some, Option.some.injEq] at y3 ⊢
              omega
          refine va_runV (As := bs'.map (ms_v ad)) (Ts := ms_T) ⟨hx, hb, hml, hown, hts⟩ (hM sg hsg H.size) ⟨callB_of bs'.length hts hgood rfl rfl rfl (hts _ hini) (hts _ hlink) ⟨z4, z5, y3'⟩ hroom, hts _ (ms_in_ok y1), hts _ (ms_in_ok y2)⟩ ⟨ms_blind, hrv, fun U hU hWU => ⟨rfl, by rw [hU], ⟨by rw [hU]; exact hP, va_K.moved hWU.alike hK, hD.weaken (fun _ _ _ _ => trivial)⟩, hZ.at hS.2.1 hFc hWU.alike hU⟩⟩ rfl (by simp) hls ?_ hrr hd ⟨by simpa using hcell.1, by simpa using hcell.2⟩
          show st.map (ms_v ad) = _
          rw [hst, List.map_append, List.reverse_cons, List.map_append, List.map_reverse, List.append_assoc]
          rfl
        next => cases y4
    all_goals (exact hkind.elim)
  have hnx : nx = pc + 3 := by
    cases i
    case invokestatic ix => exact hn
    case invokevirtual ix => exact hn
    all_goals (exact hkind.elim)
  refine ms_goes hfin hS (fun q _ z => hFc q z) hFc (fun t H1 locs1 ht hvm hBt hS1 => ?_)
  obtain ⟨hP1, hK1, hD1⟩ := hBt
  rw [ht] at hP1
  have hk := k H1 locs1 ⟨hP1, hD1.weaken (fun _ q _ z => hFc q.1 z), hS1, hw'⟩
  rw [hnx, List.map_append] at hk
  cases r with
  | none => exact hk
  | some x => exact hk
end msCall
