def ms_tys (cA : Nat → ClassId) : List (ClassId × FieldType) := [(cA 0, .int), (cA 1, .long), (cA 2, .byte), (cA 3, .boolean), (cA 4, .char), (cA 5, .object "FairSlots$World")]
def ms_lay : Prop := ∀ (ci : Nat) (C : String) (T : u_T) (N : Nat), mj_cls[ci]? = some (C, T, N) → (∀ w ∈ u_ws C T N, w ∈ ms_T) ∧ (∀ k, k < N → parseFieldDescriptor (T k).2.2.1 = some (mj_fty ci k)) ∧ ∀ a, a < N → ∀ b, b < N → a ≠ b → (T a).2.1 ≠ (T b).2.1
def ms_cpy : Prop := Cond.native arraycopyName ∈ ms_T ∧ Cond.static arraycopyName ∈ ms_T ∧ Cond.initialized "java/lang/System" ∈ ms_T
theorem ms_fit {ad : Nat → Nat} {ty : FieldType} {v : Value} (h : mj_fit ty v = true) : narrow ty (ms_v ad v) = ms_v ad v ∧ fits ty (ms_v ad v) = true := by
  cases ty <;> cases v <;> first | (exact ⟨rfl, rfl⟩) | (cases h)
/-- the two rows of a class, at their places -/
def ms_Z (ad : Nat → Nat) (A : Nat → Prop) (U : State) : Prop := va_Z RX1 "LEAST" "[I" (.ref (ad 247)) A U U.heap ∧ va_Z RX1 "MOST" "[I" (.ref (ad 248)) A U U.heap ∧ va_T .int (ad 247) 5 (fun j => .int (ms_lo j)) A U U.heap ∧ va_T .int (ad 248) 5 (fun j => .int (ms_hi j)) A U U.heap
theorem ms_Z.at {ad : Nat → Nat} {A B : Nat → Prop} {s U : State} {H : Heap} (h : ms_Z ad A s) (hq : ∀ a : Nat, a < s.heap.size → ¬ A a → H[a]? = s.heap[a]?) (hB : ∀ q, B q → A q) (hvm : s.vm.Alike U.vm) (hU : U.heap = H) : ms_Z ad B U := by
  subst hU
  exact ⟨((h.1.kept hq).narrow hB).moved hvm, ((h.2.1.kept hq).narrow hB).moved hvm, ((h.2.2.1.kept hq).narrow hB).moved hvm, ((h.2.2.2.kept hq).narrow hB).moved hvm⟩
def ms_Rel (D : va_G) (cA : Nat → ClassId) (ad : Nat → Nat) (N : Nat) (A : Nat → Prop) (H0 : Heap) (h : mj_H) (H : Heap) (locs : List Loc) : Prop :=
  va_P D mj_cls (ms_cells ad cA N h) H ∧ va_D A (ms_cells ad cA N h) ∧ va_S A H0 H locs ∧ ms_wf N h
section msMem
variable {p : Program} {l : Launch} {e : Env} {R : Room} {s : State} {m : MethodId} {args : Array Value} {below : List Frame} {meth : Method} {c : Code} {H : Heap} {locs : List Loc} {cells slots : Nat} {Q : State → Prop}
variable {own : String} {bs : ByteArray} {pc nx aux wi nL : Nat} {i : Instr} {cv : Int32} {L L' : mj_L} {st st' : List Value} {pc' : Nat} {ad : Nat → Nat} {ls : Array Slot} {D : va_G} {cA : Nat → ClassId} {N : Nat} {A : Nat → Prop} {H0 : Heap} {h h' : mj_H}
theorem ms_askW {q : Prop} (hc : ms_chk own bs (pc, i, nx, aux, cv, wi) = true) (hp : mj_ask i st = some (q, st')) (hx : p.tables.exec = Jvm.exec) (hb : c.code = bs)
    (k1 : q → W p l e R s m args below meth c H locs cells slots Q (F0 m aux ls (st'.map (ms_v ad)))) (k2 : ¬ q → W p l e R s m args below meth c H locs cells slots Q (F0 m nx ls (st'.map (ms_v ad)))) : W p l e R s m args below meth c H locs cells slots Q (F0 m pc ls (st.map (ms_v ad))) := by
  obtain ⟨hd, hn⟩ := ms_split hc
  cases i
  case ifCond q1 o =>
    simp only [ms_chk, Bool.and_eq_true, decide_eq_true_eq] at hc
    rw [hn] at k2
    simp only [mj_ask] at hp
    split at hp
    next x r =>
      cases q1 <;> cases hp
      · exact lv_if_eq hx hb hd hc.2 k1 k2
      · exact lv_if_ne hx hb hd hc.2 k1 (fun z => k2 (fun z2 => z2 z))
      · exact lv_if_lt hx hb hd hc.2 k1 k2
      · exact lv_if_ge hx hb hd hc.2 k1 k2
      · exact lv_if_gt hx hb hd hc.2 k1 k2
      · exact lv_if_le hx hb hd hc.2 k1 k2
    next => cases hp
  case if_icmp q1 o =>
    simp only [ms_chk, Bool.and_eq_true, decide_eq_true_eq] at hc
    rw [hn] at k2
    simp only [mj_ask] at hp
    split at hp
    next y x r =>
      cases q1 <;> cases hp
      · exact lv_icmp_eq hx hb hd hc.2 k1 k2
      · exact lv_icmp_ne hx hb hd hc.2 k1 (fun z => k2 (fun z2 => z2 z))
      · exact lv_icmp_lt hx hb hd hc.2 k1 k2
      · exact lv_icmp_ge hx hb hd hc.2 k1 k2
      · exact lv_icmp_gt hx hb hd hc.2 k1 k2
      · exact lv_icmp_le hx hb hd hc.2 k1 k2
    next => cases hp
  all_goals (cases hp)
theorem ms_dvW {q : Prop} (hc : ms_chk own bs (pc, i, nx, aux, cv, wi) = true) (hp : mj_dv i st = some (q, st')) (hq : q) (hx : p.tables.exec = Jvm.exec) (hb : c.code = bs)
    (k : W p l e R s m args below meth c H locs cells slots Q (F0 m nx ls (st'.map (ms_v ad)))) : W p l e R s m args below meth c H locs cells slots Q (F0 m pc ls (st.map (ms_v ad))) := by
  obtain ⟨hd, hn⟩ := ms_split hc
  cases i
  case idiv =>
    simp only [mj_dv] at hp
    split at hp
    next y x r => cases hp; exact lv_idiv hx hb hd hq (by rw [hn] at k; exact k)
    next => cases hp
  case irem =>
    simp only [mj_dv] at hp
    split at hp
    next y x r => cases hp; exact lv_irem hx hb hd hq (by rw [hn] at k; exact k)
    next => cases hp
  case ldiv =>
    simp only [mj_dv] at hp
    split at hp
    next y x r => cases hp; exact lv_ldiv hx hb hd hq (by rw [hn] at k; exact k)
    next => cases hp
  case lrem =>
    simp only [mj_dv] at hp
    split at hp
    next y x r => cases hp; exact lv_lrem hx hb hd hq (by rw [hn] at k; exact k)
    next => cases hp
  all_goals (cases hp)
theorem ms_swW {t : Nat} (hc : ms_chk own bs (pc, i, nx, aux, cv, wi) = true) (hp : mj_sw i pc st = some ((t : Int), st')) (hx : p.tables.exec = Jvm.exec) (hb : c.code = bs)
    (k : W p l e R s m args below meth c H locs cells slots Q (F0 m t ls (st'.map (ms_v ad)))) : W p l e R s m args below meth c H locs cells slots Q (F0 m pc ls (st.map (ms_v ad))) := by
  obtain ⟨hd, hn⟩ := ms_split hc
  cases i
  case lookupswitch df ps =>
    simp only [ms_chk, Bool.and_eq_true] at hc
    simp only [mj_sw] at hp
    split at hp
    next x r =>
      simp only [Option.some.injEq, Prod.mk.injEq] at hp
      obtain ⟨h1, rfl⟩ := hp
      exact lv_lookup hx hb hd hc.2 rfl h1 k
    next => cases hp
  case tableswitch df lo hi offs =>
    simp only [ms_chk, Bool.and_eq_true, decide_eq_true_eq] at hc
    simp only [mj_sw] at hp
    split at hp
    next x r =>
      simp only [Option.some.injEq, Prod.mk.injEq] at hp
      obtain ⟨h1, rfl⟩ := hp
      by_cases hr : x.toInt < lo ∨ hi < x.toInt
      · rw [if_pos hr] at h1
        exact lv_tableOut hx hb hd hr h1 k
      · rw [if_neg hr] at h1
        have hs := Nat.eq_of_beq_eq_true hc.2.2
        have hlt : (x.toInt - lo).toNat < offs.size := by omega
        have ho : offs[(x.toInt - lo).toNat]? = some (offs.toList.getD (x.toInt - lo).toNat 0) := by
          rw [Array.getElem?_eq_getElem hlt]
          simp [List.getD_eq_getElem?_getD, Array.getElem?_toList, Array.getElem?_eq_getElem hlt]
        exact lv_tableIn hx hb hd (fun z => hr (Or.inl z)) (fun z => hr (Or.inr z)) ho h1 k
    next => cases hp
  all_goals (cases hp)
theorem ms_memW (hc : ms_chk own bs (pc, i, nx, aux, cv, wi) = true) (hm : mj_mem i aux st h st' h') (hLay : ms_lay) (hCp : ms_cpy) (hx : p.tables.exec = Jvm.exec) (hb : c.code = bs) (hown : s.vm.findClass own = some m.cls) (hts : ∀ w ∈ ms_T, w.before args s = true) (hml : c.maxLocals = ls.size) (hfr : 1 ≤ R.frames) (hlo : 60 ≤ R.locals)
    (hK : va_K D mj_cls (ms_tys cA) s) (hZ : ms_Z ad A s) (h0 : H0 = s.heap) (hR : ms_Rel D cA ad N A H0 h H locs)
    (k : ∀ (H1 : Heap) (locs1 : List Loc), ms_Rel D cA ad N A H0 h' H1 locs1 → W p l e R s m args below meth c H1 locs1 cells slots Q (F0 m nx ls (st'.map (ms_v ad)))) : W p l e R s m args below meth c H locs cells slots Q (F0 m pc ls (st.map (ms_v ad))) := by
  obtain ⟨hd, hn⟩ := ms_split hc
  obtain ⟨hP, hD, hS, hW⟩ := hR
  cases i
  case getstatic ix =>
    subst h0
    obtain ⟨rfl, hm⟩ := hm
    simp only [ms_chk, Bool.and_eq_true] at hc
    obtain ⟨-, hc⟩ := hc
    have hk := k H locs ⟨hP, hD, hS, hW⟩
    rw [hn] at hk
    rcases hm with ⟨rfl, rfl⟩ | ⟨rfl, rfl⟩
    · exact va_gets hx hb hZ.1 hS hown (hts _ (ms_in_ok hc)) (fun x z => z) hd hk
    · exact va_gets hx hb hZ.2.1 hS hown (hts _ (ms_in_ok hc)) (fun x z => z) hd hk
  case getfield ix =>
    obtain ⟨a, fs, v, r, rfl, ha, hv, rfl, rfl⟩ := hm
    have hlt : ms_re N a := hW.lt ha ⟨(fun z => by simp only [Sum.inr.injEq, Prod.mk.injEq] at z; rw [z.2] at hv; simp at hv), (fun z => by simp only [Sum.inr.injEq, Prod.mk.injEq] at z; rw [z.2] at hv; simp at hv)⟩ rfl
    simp only [ms_chk, Bool.and_eq_true, ms_link] at hc
    obtain ⟨-, hc⟩ := hc
    split at hc
    next C T M hcl =>
      simp only [Bool.and_eq_true] at hc
      have he := ms_cells_at (ad := ad) (cA := cA) (h := h') hW.1 hlt
      rw [ha] at he
      have hk := k H locs ⟨hP, hD, hS, hW⟩
      rw [hn] at hk
      exact va_get hx hb hts (hLay _ _ _ _ hcl).1 hown hK hP (ms_po a) he hcl (aux % 64) (Nat.le_of_ble_eq_true hc.1.1) (hts _ (ms_in_ok hc.1.2)) (fun _ z => z) (by rw [List.getElem?_map, hv]; rfl) hd hk
    next => cases hc
  case putfield ix =>
    obtain ⟨a, fs, v, r, rfl, ha, hl, hf, rfl, rfl⟩ := hm
    have hlt : ms_re N a := hW.lt ha ⟨(fun z => by simp only [Sum.inr.injEq, Prod.mk.injEq] at z; rw [z.2] at hl; simp at hl), (fun z => by simp only [Sum.inr.injEq, Prod.mk.injEq] at z; rw [z.2] at hl; simp at hl)⟩ rfl
    simp only [ms_chk, Bool.and_eq_true, ms_link] at hc
    obtain ⟨-, hc⟩ := hc
    split at hc
    next C T M hcl =>
      simp only [Bool.and_eq_true] at hc
      have he := ms_cells_at (ad := ad) (cA := cA) (h := h) hW.1 hlt
      rw [ha] at he
      have hfin : (T (aux % 64)).2.2.2 = false := by
        have z := hc.2
        simpa using z
      have hlay := hLay _ _ _ _ hcl
      have hff := ms_fit (ad := ad) hf
      refine va_put hx hb hts hlay.1 (mj_fty (aux / 64)) hlay.2.1 hlay.2.2 hown hK hP hD hS (ms_po a) he hcl (aux % 64) (Nat.le_of_ble_eq_true hc.1.1) (hts _ (ms_in_ok hc.1.2)) (fun _ z => z) hfin (hlay.2.1 _ (Nat.le_of_ble_eq_true hc.1.1)) hff.1 hff.2 (by simpa using hl) hd (fun H1 locs1 hP1 hD1 hS1 => ?_)
      rw [show (fs.map (ms_v ad)).set (aux % 64) (ms_v ad v) = (fs.set (aux % 64) v).map (ms_v ad) from (List.map_set ..).symm] at hP1 hD1
      have e1 := ms_cells_set (ad := ad) (cA := cA) (h := h) (c := .inr (aux / 64, fs.set (aux % 64) v)) hW.1 hlt
      rw [show (ad a, (Sum.inr (aux / 64, (fs.set (aux % 64) v).map (ms_v ad)) : va_E)) = (ad a, ms_c ad cA (.inr (aux / 64, fs.set (aux % 64) v))) from rfl, e1] at hP1 hD1
      have hk := k H1 locs1 ⟨hP1, hD1, hS1, hW.up hlt rfl⟩
      rw [hn] at hk
      exact hk
    next => cases hc
  case iaload =>
    obtain ⟨a, j, n, f, r, rfl, ha, hj, rfl, rfl⟩ := hm
    have hk := k H locs ⟨hP, hD, hS, hW⟩
    rw [hn] at hk
    rcases ha with ha | ha
    · have hlt : ms_re N a := hW.lt ha ⟨(fun z => by cases z), (fun z => by cases z)⟩ rfl
      have he := ms_cells_at (ad := ad) (cA := cA) (h := h') hW.1 hlt
      rw [ha] at he
      exact va_iald hx hb hK hP (ms_po a) 0 he rfl hj hd hk
    · subst h0
      obtain ⟨rfl, h5⟩ := hW.six ha
      have hlt5 : j.toNatClampNeg < 5 := Nat.not_le.mp fun q => hj (Or.inr q)
      rcases h5 with ⟨rfl, h5⟩ | ⟨rfl, h5⟩
      · exact va_ti hx hb hZ.2.2.1 hS hj (by rw [← h5 _ hlt5]; rfl) hd hk
      · exact va_ti hx hb hZ.2.2.2 hS hj (by rw [← h5 _ hlt5]; rfl) hd hk
  case laload =>
    obtain ⟨a, j, n, f, r, rfl, ha, hj, rfl, rfl⟩ := hm
    have hlt : ms_re N a := hW.lt ha ⟨(fun z => by cases z), (fun z => by cases z)⟩ rfl
    have he := ms_cells_at (ad := ad) (cA := cA) (h := h') hW.1 hlt
    rw [ha] at he
    have hk := k H locs ⟨hP, hD, hS, hW⟩
    rw [hn] at hk
    exact va_lald hx hb hK hP (ms_po a) 1 he rfl hj hd hk
  case baload =>
    obtain ⟨a, j, n, f, r, rfl, ha, hj, rfl, rfl⟩ := hm
    have hk := k H locs ⟨hP, hD, hS, hW⟩
    rw [hn] at hk
    rcases ha with ha | ha
    · have hlt : ms_re N a := hW.lt ha ⟨(fun z => by cases z), (fun z => by cases z)⟩ rfl
      have he := ms_cells_at (ad := ad) (cA := cA) (h := h') hW.1 hlt
      rw [ha] at he
      exact va_bald hx hb hK hP (ms_po a) 2 he rfl hj hd hk
    · have hlt : ms_re N a := hW.lt ha ⟨(fun z => by cases z), (fun z => by cases z)⟩ rfl
      have he := ms_cells_at (ad := ad) (cA := cA) (h := h') hW.1 hlt
      rw [ha] at he
      exact va_zald hx hb hK hP (ms_po a) 3 he rfl hj hd hk
  case caload =>
    obtain ⟨a, j, n, f, r, rfl, ha, hj, rfl, rfl⟩ := hm
    have hlt : ms_re N a := hW.lt ha ⟨(fun z => by cases z), (fun z => by cases z)⟩ rfl
    have he := ms_cells_at (ad := ad) (cA := cA) (h := h') hW.1 hlt
    rw [ha] at he
    have hk := k H locs ⟨hP, hD, hS, hW⟩
    rw [hn] at hk
    exact va_cald hx hb hK hP (ms_po a) 4 he rfl hj hd hk
  case aaload =>
    obtain ⟨a, j, n, f, b, r, rfl, ha, hj, hfb, rfl, rfl⟩ := hm
    have hlt : ms_re N a := hW.lt ha ⟨(fun z => by cases z), (fun z => by cases z)⟩ rfl
    have he := ms_cells_at (ad := ad) (cA := cA) (h := h') hW.1 hlt
    rw [ha] at he
    have hk := k H locs ⟨hP, hD, hS, hW⟩
    rw [hn] at hk
    refine va_aldq (C := "FairSlots$World") hx hb hK hP (ms_po a) 5 he rfl hj hd ?_
    rw [hfb]
    exact hk
  case iastore =>
    obtain ⟨a, j, n, f, x, r, rfl, ha, hj, rfl, rfl⟩ := hm
    have hlt : ms_re N a := hW.lt ha ⟨(fun z => by cases z), (fun z => by cases z)⟩ rfl
    have he := ms_cells_at (ad := ad) (cA := cA) (h := h) hW.1 hlt
    rw [ha] at he
    refine va_iast hx hb hK hP hD hS (ms_po a) 0 he rfl hj hd (fun H1 locs1 hP1 hD1 hS1 => ?_)
    have e1 := ms_cells_set (ad := ad) (cA := cA) (h := h) (c := .inl (0, n, .inl (upd f j.toNatClampNeg x))) hW.1 hlt
    have hk := k H1 locs1 ⟨e1 ▸ hP1, e1 ▸ hD1, hS1, hW.up hlt rfl⟩
    rw [hn] at hk
    exact hk
  case lastore =>
    obtain ⟨a, j, n, f, x, r, rfl, ha, hj, rfl, rfl⟩ := hm
    have hlt : ms_re N a := hW.lt ha ⟨(fun z => by cases z), (fun z => by cases z)⟩ rfl
    have he := ms_cells_at (ad := ad) (cA := cA) (h := h) hW.1 hlt
    rw [ha] at he
    refine va_last hx hb hK hP hD hS (ms_po a) 1 he rfl hj hd (fun H1 locs1 hP1 hD1 hS1 => ?_)
    have e1 := ms_cells_set (ad := ad) (cA := cA) (h := h) (c := .inl (1, n, .inr (.inl (vp_updL f j.toNatClampNeg x)))) hW.1 hlt
    have hk := k H1 locs1 ⟨e1 ▸ hP1, e1 ▸ hD1, hS1, hW.up hlt rfl⟩
    rw [hn] at hk
    exact hk
  case bastore =>
    obtain ⟨a, j, n, f, x, r, rfl, hj, rfl, ha⟩ := hm
    rcases ha with ⟨ha, rfl⟩ | ⟨ha, rfl⟩
    · have hlt : ms_re N a := hW.lt ha ⟨(fun z => by cases z), (fun z => by cases z)⟩ rfl
      have he := ms_cells_at (ad := ad) (cA := cA) (h := h) hW.1 hlt
      rw [ha] at he
      refine va_bast hx hb hK hP hD hS (ms_po a) 2 he rfl hj hd (fun H1 locs1 hP1 hD1 hS1 => ?_)
      have e1 := ms_cells_set (ad := ad) (cA := cA) (h := h) (c := .inl (2, n, .inl (upd f j.toNatClampNeg (vp_nar .byte x)))) hW.1 hlt
      have hk := k H1 locs1 ⟨e1 ▸ hP1, e1 ▸ hD1, hS1, hW.up hlt rfl⟩
      rw [hn] at hk
      exact hk
    · have hlt : ms_re N a := hW.lt ha ⟨(fun z => by cases z), (fun z => by cases z)⟩ rfl
      have he := ms_cells_at (ad := ad) (cA := cA) (h := h) hW.1 hlt
      rw [ha] at he
      refine va_zast hx hb hK hP hD hS (ms_po a) 3 he rfl hj hd (fun H1 locs1 hP1 hD1 hS1 => ?_)
      have e1 := ms_cells_set (ad := ad) (cA := cA) (h := h) (c := .inl (3, n, .inl (upd f j.toNatClampNeg (vp_nar .boolean x)))) hW.1 hlt
      have hk := k H1 locs1 ⟨e1 ▸ hP1, e1 ▸ hD1, hS1, hW.up hlt rfl⟩
      rw [hn] at hk
      exact hk
  case castore =>
    obtain ⟨a, j, n, f, x, r, rfl, ha, hj, rfl, rfl⟩ := hm
    have hlt : ms_re N a := hW.lt ha ⟨(fun z => by cases z), (fun z => by cases z)⟩ rfl
    have he := ms_cells_at (ad := ad) (cA := cA) (h := h) hW.1 hlt
    rw [ha] at he
    refine va_cast hx hb hK hP hD hS (ms_po a) 4 he rfl hj hd (fun H1 locs1 hP1 hD1 hS1 => ?_)
    have e1 := ms_cells_set (ad := ad) (cA := cA) (h := h) (c := .inl (4, n, .inl (upd f j.toNatClampNeg (vp_nar .char x)))) hW.1 hlt
    have hk := k H1 locs1 ⟨e1 ▸ hP1, e1 ▸ hD1, hS1, hW.up hlt rfl⟩
    rw [hn] at hk
    exact hk
  case arraylength =>
    obtain ⟨a, t, n, f, r, rfl, ha, ht, rfl, rfl⟩ := hm
    have hlt : ms_re N a := hW.lt ha ⟨(fun z => by cases z), (fun z => by cases z)⟩ (by
      show (!(Nat.beq t 6)) = true
      cases hz : Nat.beq t 6 with
      | false => rfl
      | true => have := Nat.eq_of_beq_eq_true hz; omega)
    have he := ms_cells_at (ad := ad) (cA := cA) (h := h') hW.1 hlt
    rw [ha] at he
    have hk := k H locs ⟨hP, hD, hS, hW⟩
    rw [hn] at hk
    have hty : ∃ ty, (ms_tys cA)[t]? = some (cA t, ty) := by
      match t, ht with
      | 0, _ => exact ⟨_, rfl⟩
      | 1, _ => exact ⟨_, rfl⟩
      | 2, _ => exact ⟨_, rfl⟩
      | 3, _ => exact ⟨_, rfl⟩
      | 4, _ => exact ⟨_, rfl⟩
      | 5, _ => exact ⟨_, rfl⟩
    obtain ⟨ty, hty⟩ := hty
    rcases f with f | f | f | f | f
    · exact va_alen hx hb hK hP (ms_po a) t he hty rfl hd hk
    · exact va_alen hx hb hK hP (ms_po a) t he hty rfl hd hk
    · exact va_alen hx hb hK hP (ms_po a) t he hty rfl hd hk
    · exact va_alen hx hb hK hP (ms_po a) t he hty rfl hd hk
    · exact va_alen hx hb hK hP (ms_po a) t he hty rfl hd hk
  case invokestatic ix =>
    obtain ⟨rfl, a, a0, n, n0, f, g, sp, dp, kk, r, rfl, h0, ha, hr, h1, h2, h3, h4, h5, rfl, rfl⟩ := hm
    have hlt : ms_re N a := hW.lt ha ⟨(fun z => by cases z), (fun z => by cases z)⟩ rfl
    have hlt0 : ms_re N a0 := hW.lt h0 ⟨(fun z => by cases z), (fun z => by cases z)⟩ rfl
    have he := ms_cells_at (ad := ad) (cA := cA) (h := h) hW.1 hlt
    rw [ha] at he
    have he0 := ms_cells_at (ad := ad) (cA := cA) (h := h) hW.1 hlt0
    rw [h0] at he0
    simp only [ms_chk, Bool.and_eq_true, ms_mlink] at hc
    have hcat : ((st'.map (ms_v ad)).map fun v => v.category) = st'.map fun v => v.category := by
      rw [List.map_map]
      exact List.map_congr_left (fun v _ => ms_v_cat ad v)
    have hnw : nativeFrameWords "java/lang/System" "arraycopy" 5 = 7 := by decide +kernel
    have hloc : ((st'.map (ms_v ad)).map fun v => v.category).sum + (nativeFrameWords "java/lang/System" "arraycopy" 5 + 11) ≤ R.locals := by
      rw [hcat, hnw]
      omega
    refine va_copyi hx hb hml hown (hts _ (ms_in_ok hc.2)) (hts _ hCp.1) (hts _ hCp.2.1) (hts _ hCp.2.2) hK hP hD hS (ms_po a0) (ms_po a) 0 0 he0 he rfl rfl rfl h1 h2 h3 h4 h5 (fun _ _ => rfl) hfr hloc hd (fun H1 locs1 hP1 hD1 hS1 => ?_)
    have e1 := ms_cells_set (ad := ad) (cA := cA) (h := h) (c := .inl (0, n, .inl (va_cpy f g sp.toNatClampNeg dp.toNatClampNeg kk.toNatClampNeg))) hW.1 hlt
    have hk := k H1 locs1 ⟨e1 ▸ hP1, e1 ▸ hD1, hS1, hW.up hlt rfl⟩
    rw [hn] at hk
    exact hk
  all_goals (exact hm.elim)
end msMem
