theorem mj_ents_has {ad : Nat → Nat} : ∀ (as : List Value) (i : Nat) (j : Nat) (v : Value), (mj_ents as)[j]? = some (some v) → (i + j, ms_v ad v) ∈ lv_args i (as.map (ms_v ad)) := by
  intro as
  induction as with
  | nil => intro i j v h; simp [mj_ents] at h
  | cons a as ih =>
    intro i j v h
    rw [List.map_cons, lv_args, ms_v_cat]
    simp only [mj_ents] at h
    split at h
    next e =>
      have hc := ms_one e
      rw [if_neg (by omega)]
      cases j with
      | zero =>
        simp only [List.getElem?_cons_zero, Option.some.injEq] at h
        subst h
        exact List.mem_cons_self
      | succ j =>
        rw [List.getElem?_cons_succ] at h
        have := ih (i + 1) j v h
        rw [show i + 1 + j = i + (j + 1) by omega] at this
        exact List.mem_cons_of_mem _ this
    next e =>
      have hc : a.category = 2 := by cases a <;> first | rfl | cases e
      rw [if_pos hc]
      cases j with
      | zero =>
        simp only [List.getElem?_cons_zero, Option.some.injEq] at h
        subst h
        exact List.mem_cons_self
      | succ j =>
        rw [List.getElem?_cons_succ] at h
        cases j with
        | zero => simp at h
        | succ j =>
          rw [List.getElem?_cons_succ] at h
          have := ih (i + 2) j v h
          rw [show i + 2 + j = i + (j + 1 + 1) by omega] at this
          exact List.mem_cons_of_mem _ this
theorem mj_ents_len (ad : Nat → Nat) : ∀ (as : List Value), (lg_sl (as.map (ms_v ad))).length = (mj_ents as).length := by
  intro as
  induction as with
  | nil => rfl
  | cons a as ih =>
    have e0 : lg_sl ((a :: as).map (ms_v ad)) = (if (ms_v ad a).category = 2 then [.val (ms_v ad a), .second] else [.val (ms_v ad a)]) ++ lg_sl (as.map (ms_v ad)) := by
      simp [lg_sl]
    rw [e0, List.length_append, ih, ms_v_cat]
    cases a <;> simp [mj_ents, mj_one, Value.category] <;> omega
theorem ms_L_entry {ad : Nat → Nat} {as : List Value} {n : Nat} (hn : (mj_ents as).length ≤ n) : ms_L ad n (mj_ent as n) ((lg_sl (as.map (ms_v ad)) ++ List.replicate (n - (lg_sl (as.map (ms_v ad))).length) Slot.unset).toArray) := by
  have hl := lv_entry (as.map (ms_v ad)) (n := n) (by rw [mj_ents_len]; exact hn)
  refine ⟨?_, hl.1, hl.2.1, fun q hq => ?_⟩
  · simp only [mj_ent, List.length_append, List.length_replicate]
    omega
  · obtain ⟨v, h1, h2⟩ := ms_ll_inv hq
    obtain ⟨j, w⟩ := q
    dsimp only at h1 h2
    subst h2
    unfold mj_ent at h1
    rcases Nat.lt_or_ge j (mj_ents as).length with hj | hj
    · rw [List.getElem?_append_left hj] at h1
      have := mj_ents_has (ad := ad) as 0 j v h1
      rw [Nat.zero_add] at this
      exact hl.2.2 _ this
    · rw [List.getElem?_append_right hj] at h1
      have := List.eq_of_mem_replicate (List.mem_of_getElem? h1)
      cases this
/-- the small machine's runs are runs of the machine -/
theorem ms_runW (hOK : ms_OK) (hLay : ms_lay) (hCp : ms_cpy) {d : Nat} {l : Launch} {D : va_G} {cA : Nat → ClassId} {ad : Nat → Nat} {N : Nat}
    (ih : ∀ (k : Nat) (as : List Value) (h : mj_H) (r : Option Value) (h' : mj_H), mj_big d k as h r h' → ms_wf N h → ∀ (sg : mj_S), mj_sigs[k]? = some sg → ∀ sz, Met l sg.1 (ms_ws sg) (ms_room d) (ms_Pc D cA ad N sz as h) (ms_Qc D cA ad N sz h r h') 0 0 (va_A (ms_cells ad cA N h) sz))
    {p : Program} {e : Env} {s : State} {m : MethodId} {args : Array Value} {below : List Frame} {meth : Method} {c : Code} {own : String} {bs : ByteArray} {nL : Nat} {A : Nat → Prop} {ty : Option FieldType} {cs : List mj_E} {r : Option Value} {h' : mj_H} {free : Addr → Prop} {Qc : Array Value → State → Outcome → State → Prop}
    (hch : cs.all (ms_chk own bs) = true) (hx : p.tables.exec = Jvm.exec) (hb : c.code = bs) (hret : meth.sig.returnType = ty) (hlocks : meth.locks = false) (hown : s.vm.findClass own = some m.cls) (hts : ∀ w ∈ ms_T, w.before args s = true) (hml : c.maxLocals = nL)
    (hA : ∀ q : Nat, s.heap.size ≤ q → A q) (hfree : ∀ q, A q → free q) (hK : va_K D mj_cls (ms_tys cA) s) (hZ : ms_Z ad A s)
    (hQ : ∀ (H : Heap) (locs : List Loc) (t : State), ms_Rel D cA ad N A s.heap h' H locs → t.heap = H → s.WarmedH t.vm → Qc args s (.returned (r.map (ms_v ad))) t) :
    ∀ (n : Nat) (h : mj_H) (pc : Nat) (L : mj_L) (st : List Value) (H : Heap) (locs : List Loc) (ls : Array Slot), mj_run (mj_big d) ty cs n (fun v g => v = r ∧ g = h') h pc L st → ms_Rel D cA ad N A s.heap h H locs → ms_L ad nL L ls →
      W p l e (ms_room (d + 1)) s m args below meth c H locs 0 0 (MQ below Qc args s 0 0 free) (F0 m pc ls (st.map (ms_v ad))) := by
  intro n
  induction n with
  | zero => intro h pc L st H locs ls hr; exact hr.elim
  | succ n ihn =>
    intro h pc L st H locs ls hr hR hl
    obtain ⟨i, nx, aux, cv, hat, hr⟩ := hr
    obtain ⟨wi, hc⟩ := mj_at_in hch hat
    rcases hr with ⟨a, b, st', e1, hr⟩ | ⟨q, st', e1, hr⟩ | ⟨q, st', e1, hq, hr⟩ | ⟨t, st', e1, hr⟩ | ⟨st', g, e1, hr⟩ | ⟨as, rest, r1, g, e1, hB1, hr⟩ | ⟨v, e1, hv, hg⟩
    · exact ms_pureW hc e1 hx hb hown hts hl (fun ls' hl' => ihn _ _ _ _ _ _ _ hr hR hl')
    · refine ms_askW hc e1 hx hb (fun hq => ?_) (fun hq => ?_)
      · rcases hr with ⟨hq', hr⟩ | ⟨hq', hr⟩
        · exact ihn _ _ _ _ _ _ _ hr hR hl
        · exact absurd hq hq'
      · rcases hr with ⟨hq', hr⟩ | ⟨hq', hr⟩
        · exact absurd hq' hq
        · exact ihn _ _ _ _ _ _ _ hr hR hl
    · exact ms_dvW hc e1 hq hx hb (ihn _ _ _ _ _ _ _ hr hR hl)
    · exact ms_swW hc e1 hx hb (ihn _ _ _ _ _ _ _ hr hR hl)
    · refine ms_memW hc e1 hLay hCp hx hb hown hts (by rw [hml, hl.2.1]) ?_ ?_ hK hZ rfl hR (fun H1 locs1 hR1 => ihn _ _ _ _ _ _ _ hr hR1 hl)
      · show 1 ≤ d + 1
        omega
      · show 60 ≤ 60 * (d + 1)
        omega
    · have hw' := mj_big_wf d aux as h r1 g hR.2.2.2 hB1
      have hcs : ∃ cs, mj_cods[aux]? = some cs := by
        cases d with
        | zero => exact hB1.elim
        | succ d =>
          obtain ⟨sg, cs2, -, h2, -⟩ := hB1
          exact ⟨cs2, h2⟩
      exact ms_callW hOK hc e1 (fun sg hsg sz => ih aux as h r1 g hB1 hR.2.2.2 sg hsg sz) hx hb hown hts hml hl.2.1 (Nat.le_refl _) (Nat.le_refl _) hA hK hZ hR hw' ⟨Nat.zero_le _, Nat.zero_le _⟩ hcs (fun H1 locs1 hR1 => ihn _ _ _ _ _ _ _ hr hR1 hl)
    · obtain ⟨hd, hn⟩ := ms_split hc
      subst hv
      subst hg
      have hfr : ∀ q ∈ locs, free q.base := fun q hq => hfree _ (hR.2.2.1.2.2 q hq)
      cases i
      case ireturn =>
        obtain ⟨x, t, rfl, rfl, ht, hn2⟩ := e1
        exact W.zret hx hb (hret.trans ht) hn2 (fun t2 h2 hW2 => hQ H locs t2 hR h2 hW2) hfr hd hlocks
      case lreturn =>
        obtain ⟨x, rfl, rfl, ht⟩ := e1
        exact W.lret hx hb (hret.trans ht) (fun t2 h2 hW2 => hQ H locs t2 hR h2 hW2) hfr hd hlocks
      case return_ =>
        obtain ⟨rfl, rfl, ht⟩ := e1
        exact W.vret hx hb (hret.trans ht) (fun t2 h2 hW2 => hQ H locs t2 hR h2 hW2) hfr hd hlocks
      all_goals (exact e1.elim)
/-- a contract of the small machine is one of the machine, at any addresses -/
theorem ms_sound (hOK : ms_OK) (hLay : ms_lay) (hCp : ms_cpy) {l : Launch} {D : va_G} {cA : Nat → ClassId} {ad : Nat → Nat} {N : Nat} : ∀ (d k : Nat) (as : List Value) (h : mj_H) (r : Option Value) (h' : mj_H), mj_big d k as h r h' → ms_wf N h → ∀ (sg : mj_S), mj_sigs[k]? = some sg → ∀ sz, Met l sg.1 (ms_ws sg) (ms_room d) (ms_Pc D cA ad N sz as h) (ms_Qc D cA ad N sz h r h') 0 0 (va_A (ms_cells ad cA N h) sz) := by
  intro d
  induction d with
  | zero => intro k as h r h' q; exact q.elim
  | succ d ih =>
    intro k as h r h' q hw sg hsg sz
    obtain ⟨sg', cs, h1, h2, h3, n, h4⟩ := q
    cases hsg.symm.trans h1
    obtain ⟨hsig, hch⟩ := hOK k sg cs h1 h2
    simp only [ms_sig, Bool.and_eq_true, decide_eq_true_eq] at hsig
    obtain ⟨⟨⟨⟨⟨⟨⟨⟨z1, z2⟩, z3⟩, z4⟩, z5⟩, z6⟩, z7⟩, z8⟩, z9⟩ := hsig
    refine Met.ofW (cc := sg.2.1) (maxL := sg.2.2.1) (ret := sg.2.2.2.1) z3 rfl ?_
    intro p e s m args below meth c s₁ B hml hv
    obtain ⟨rfl, hsz, ⟨hP, hK, hD0⟩, hZ⟩ := hv
    have hts0 := atoms_spec (ws := ms_ws sg) B.pre
    have hts : ∀ w ∈ ms_T, w.before (as.map (ms_v ad)).toArray s = true := fun w hw => hts0 w (List.mem_cons_of_mem _ hw)
    have hown : s.vm.findClass sg.2.2.2.2.2.2.2.2.2.2 = some m.cls := by rw [z2]; exact findClass_of_methodNamed B.named
    subst hsz
    have hD := hD0.self (sz := s.heap.size)
    rw [lg_entry_eq]
    refine ms_runW (r := r) (h' := h') (Qc := ms_Qc D cA ad N s.heap.size h r h') (free := va_A (ms_cells ad cA N h) s.heap.size) hOK hLay hCp ih hch B.exec B.bytes B.returns B.notSynchronized hown hts hml (A := va_A (ms_cells ad cA N h) s.heap.size) (fun q hq => Or.inr hq) (fun q hq => hq) hK hZ ?_ n h 0 (mj_ent as sg.2.2.1) [] s.heap [] _ h4 ⟨hP, hD, va_S.rf, hw⟩ (ms_L_entry h3)
    intro H locs t hR ht hWt
    obtain ⟨hP1, hD1, hS1, hw1⟩ := hR
    exact ⟨⟨rfl, by rw [ht]; exact hP1, va_K.moved hWt.alike hK, hD1⟩, hS1.F ht⟩
