section msCall3
variable {p : Program} {l : Launch} {e : Env} {R : Room} {s : State} {m : MethodId} {args : Array Value} {below : List Frame} {meth : Method} {c : Code} {H : Heap} {locs : List Loc} {cells slots : Nat} {Q : State → Prop}
variable {own : String} {bs : ByteArray} {pc nx aux wi nL : Nat} {i : Instr} {cv : Int32} {L : mj_L} {st : List Value} {ad : Nat → Nat} {ls : Array Slot} {D : va_G} {cA : Nat → ClassId} {N : Nat} {A : Nat → Prop} {h h' : mj_H}
theorem ms3_callW {d : Nat} {as rest : List Value} {r : Option Value} (hOK : ∀ (sg : mj_S) (cs : List mj_E), mj_sigs[aux]? = some sg → mj_cods[aux]? = some cs → ms_sig sg = true) (hc : ms_chk own bs (pc, i, nx, aux, cv, wi) = true) (hca : mj_call i aux st h as rest)
    (hM : ∀ (sg : mj_S), mj_sigs[aux]? = some sg → ∀ sz, Met l sg.1 (ms_ws sg) (ms_room d) (ms_Pc D cA ad N sz as h) (ms_Qc D cA ad N sz h r h') 0 0 (va_A (ms_cells ad cA N h) sz))
    (hx : p.tables.exec = Jvm.exec) (hb : c.code = bs) (hown : s.vm.findClass own = some m.cls) (hts : ∀ w ∈ ms_T, w.before args s = true) (hml : c.maxLocals = nL) (hls : ls.size = nL) (hfr : d + 1 ≤ R.frames) (hlo : 60 * (d + 1) ≤ R.locals)
    (hA : ∀ q : Nat, s.heap.size ≤ q → A q) (hK : va_K D mj_cls (ms_tys cA) s) (hZ : ms_Z ad A s) (hR : ms_Rel D cA ad N A s.heap h H locs) (hw' : ms_wf N h') (hcell : cells ≤ R.cells ∧ slots ≤ R.slots)
    (hcs : ∃ cs, mj_cods[aux]? = some cs)
    (k : ∀ (H1 : Heap) (locs1 : List Loc), ms_Rel D cA ad N A s.heap h' H1 locs1 → W p l e R s m args below meth c H1 locs1 cells slots Q (F0 m nx ls ((r.toList ++ rest).map (ms_v ad)))) : W p l e R s m args below meth c H locs cells slots Q (F0 m pc ls (st.map (ms_v ad))) := by
  obtain ⟨hd, hn⟩ := ms_split hc
  obtain ⟨hP, hD, hS, hW⟩ := hR
  obtain ⟨sg, hsg, hst, hlen, hrest, hkind⟩ := hca
  obtain ⟨cs, hcs⟩ := hcs
  have hS0 := hOK sg cs hsg hcs
  have hFc : ∀ q, va_A (ms_cells ad cA N h) H.size q → A q := by
    intro q hq
    rcases hq with ⟨j, e1, hq⟩ | hq
    · exact hD.2 j _ hq
    · exact hA q (Nat.le_trans hS.1 hq)
  have hrr : 2 * (F0 m pc ls (st.map (ms_v ad))).monitorRoom + ((rest.map (ms_v ad)).map fun v => v.category).sum ≤ 8 := lv_room (by rw [ms_cats]; exact hrest)
  simp only [ms_sig, Bool.and_eq_true, decide_eq_true_eq] at hS0
  obtain ⟨⟨⟨⟨⟨⟨⟨⟨z1, z2⟩, z3⟩, z4⟩, z5⟩, z6⟩, z7⟩, z8⟩, z9⟩ := hS0
  have hcode : Cond.code sg.1 sg.2.1 sg.2.2.1 sg.2.2.2.1 ∈ ms_T := ms_in_ok z1
  have hini : Cond.initialized sg.1.cls ∈ ms_T := List.mem_filter.mpr ⟨z7, z8⟩
  have hmL := Nat.le_of_ble_eq_true z6
  have hgood : GoodIn ms_T (ms_ws sg) := by
    intro w hw
    rcases List.mem_cons.mp hw with rfl | hw
    · exact ms_T_good _ hcode
    · exact ms_T_good _ hw
  have hroom : (ms_room d).frames + 1 ≤ R.frames ∧ 8 + (sg.2.2.1 + 11) + (ms_room d).locals ≤ R.locals := by
    refine ⟨hfr, ?_⟩
    show 8 + (sg.2.2.1 + 11) + 60 * d ≤ R.locals
    omega
  have hfin : va_Run p l e R s m args below meth c H locs cells slots 0 0 (F0 m pc ls (st.map (ms_v ad))) (rest.map (ms_v ad)) (ms_Qc D cA ad N H.size h r h' ((as.map (ms_v ad)).toArray)) (va_A (ms_cells ad cA N h) H.size) := by
    cases i
    case invokestatic ix =>
      simp only [hkind, Bool.and_eq_true, decide_eq_true_eq] at z9
      simp only [ms_chk, Bool.and_eq_true, ms_mlink] at hc
      obtain ⟨-, hc⟩ := hc
      split at hc
      next e9 =>
        exfalso
        have e9 := Nat.eq_of_beq_eq_true e9
        subst e9
        have := mj_sigs_len
        have h9 := (List.getElem?_eq_some_iff.mp hsg).1
        omega
      next =>
        rw [hsg] at hc
        have hlink := ms_in_ok hc
        refine va_runS (As := as.map (ms_v ad)) (Ts := ms_T) ⟨hx, hb, hml, hown, hts⟩ (hM sg hsg H.size) ⟨callB_of sg.2.2.2.2.1 hts hgood rfl rfl rfl (hts _ hini) (hts _ hlink) ⟨z4, z5, z9.2⟩ hroom, hts _ (ms_in_ok z9.1)⟩ ⟨ms_blind, fun U hU hWU => ⟨rfl, by rw [hU], ⟨by rw [hU]; exact hP, va_K.moved hWU.alike hK, hD.weaken (fun _ _ _ _ => trivial)⟩, hZ.at hS.2.1 hFc hWU.alike hU⟩⟩ rfl (by simpa using hlen) hls ?_ hrr hd ⟨by simpa using hcell.1, by simpa using hcell.2⟩
        show st.map (ms_v ad) = _
        rw [hst, List.map_append, List.map_reverse]
    case invokevirtual ix =>
      obtain ⟨hkind, b, bs', fs, rfl, hbc⟩ := hkind
      simp only [hkind, Bool.and_eq_true, decide_eq_true_eq] at z9
      simp only [ms_chk, Bool.and_eq_true, ms_mlink] at hc
      obtain ⟨-, hc⟩ := hc
      split at hc
      next e9 =>
        exfalso
        have e9 := Nat.eq_of_beq_eq_true e9
        subst e9
        have := mj_sigs_len
        have h9 := (List.getElem?_eq_some_iff.mp hsg).1
        omega
      next =>
        rw [hsg] at hc
        have hlink := ms_in_ok hc
        obtain ⟨⟨⟨y1, y2⟩, y3⟩, y4⟩ := z9
        split at y4
        next q hq =>
          have y4 := of_decide_eq_true y4
          have hlt : ms_re N b := hW.lt hbc ⟨(fun z => by
            simp only [Sum.inr.injEq, Prod.mk.injEq] at z
            rw [z.1] at hq
            cases hq), (fun z => by
            simp only [Sum.inr.injEq, Prod.mk.injEq] at z
            rw [z.1] at hq
            cases hq)⟩ rfl
          have he := ms_cells_at (ad := ad) (cA := cA) (h := h) hW.1 hlt
          rw [hbc] at he
          have hrv := va_recv hK hP hq he
          rw [y4] at hrv
          have hlen2 : bs'.length + 1 = sg.2.2.2.2.1 := by simpa using hlen
          have y3' : (parseMethodDescriptor sg.1.desc).map (fun d => d.parameters.length) = some bs'.length := by
            cases hz : parseMethodDescriptor sg.1.desc with
            | none => rw [hz] at y3; cases y3
            | some x =>
              rw [hz] at y3
              simp only [Option.map_some, Option.some.injEq] at y3 ⊢
              omega
          refine va_runV (As := bs'.map (ms_v ad)) (Ts := ms_T) ⟨hx, hb, hml, hown, hts⟩ (hM sg hsg H.size) ⟨callB_of bs'.length hts hgood rfl rfl rfl (hts _ hini) (hts _ hlink) ⟨z4, z5, y3'⟩ hroom, hts _ (ms_in_ok y1), hts _ (ms_in_ok y2)⟩ ⟨ms_blind, hrv, fun U hU hWU => ⟨rfl, by rw [hU], ⟨by rw [hU]; exact hP, va_K.moved hWU.alike hK, hD.weaken (fun _ _ _ _ => trivial)⟩, hZ.at hS.2.1 hFc hWU.alike hU⟩⟩ rfl (by simp) hls ?_ hrr hd ⟨by simpa using hcell.1, by simpa using hcell.2⟩
          show st.map (ms_v ad) = _
          rw [hst, List.map_append, List.reverse_cons, List.map_append, List.map_reverse, List.append_assoc]
          rfl
        next => cases y4
    all_goals (exact hkind.elim)
  have hnx : nx = pc + 3 := by
    cases i
    case invokestatic ix => exact hn
    case invokevirtual ix => exact hn
    all_goals (exact hkind.elim)
  refine ms_goes hfin hS (fun q _ z => hFc q z) hFc (fun t H1 locs1 ht hvm hBt hS1 => ?_)
  obtain ⟨hP1, hK1, hD1⟩ := hBt
  rw [ht] at hP1
  have hk := k H1 locs1 ⟨hP1, hD1.weaken (fun _ q _ z => hFc q.1 z), hS1, hw'⟩
  rw [hnx, List.map_append] at hk
  cases r with
  | none => exact hk
  | some x => exact hk
end msCall3
/-- up to a place: n steps, then Q. The script is the cell 250, outside the memory -/
def ps (d : Nat) (xs : Nat → Int32) (Ln : Nat) (cs : List mj_E) : Nat → (mj_H → Nat → mj_L → List Value → Prop) → mj_H → Nat → mj_L → List Value → Prop
  | 0, Q, h, pc, L, st => Q h pc L st
  | n + 1, Q, h, pc, L, st => ∃ i nx aux cv, mj_at cs pc = some (i, nx, aux, cv) ∧
      ((∃ pc' L' st', mj_pure i nx aux cv L st = some (pc', L', st') ∧ ps d xs Ln cs n Q h pc' L' st')
      ∨ (∃ q st', mj_ask i st = some (q, st') ∧ ((q ∧ ps d xs Ln cs n Q h aux L st') ∨ (¬ q ∧ ps d xs Ln cs n Q h nx L st')))
      ∨ (∃ (t : Nat) (st' : List Value), mj_sw i pc st = some ((t : Int), st') ∧ ps d xs Ln cs n Q h t L st')
      ∨ (∃ st' h', mj_mem i aux st h st' h' ∧ ps d xs Ln cs n Q h' nx L st')
      ∨ (∃ as rest r h', mj_call i aux st h as rest ∧ ¬ ms_math aux ∧ mj_big d aux as h r h' ∧ ps d xs Ln cs n Q h' nx L (r.toList ++ rest))
      ∨ (i = .iaload ∧ ∃ j r, st = .int j :: .ref 250 :: r ∧ vp_in j Ln ∧ ps d xs Ln cs n Q h nx L (.int (xs j.toNatClampNeg) :: r))
      ∨ (i = .arraylength ∧ ∃ r, st = .ref 250 :: r ∧ ps d xs Ln cs n Q h nx L (.int (Int32.ofNat Ln) :: r)))
def PSt (d : Nat) (xs : Nat → Int32) (Ln : Nat) (cs : List mj_E) (Q : mj_H → Nat → mj_L → List Value → Prop) (h : mj_H) (pc : Nat) (L : mj_L) (st : List Value) : Prop := ∃ n, ps d xs Ln cs n Q h pc L st
section PSr
variable {d : Nat} {xs : Nat → Int32} {Ln : Nat} {cs : List mj_E} {Q : mj_H → Nat → mj_L → List Value → Prop} {h h' : mj_H} {pc nx aux : Nat} {L L' : mj_L} {st st' : List Value} {i : Instr} {cv : Int32}
theorem PS_end (k : Q h pc L st) : PSt d xs Ln cs Q h pc L st := ⟨0, k⟩
theorem PS_step {pc' : Nat} (h1 : mj_at cs pc = some (i, nx, aux, cv)) (h2 : mj_pure i nx aux cv L st = some (pc', L', st')) (k : PSt d xs Ln cs Q h pc' L' st') : PSt d xs Ln cs Q h pc L st := by
  obtain ⟨n, k⟩ := k
  exact ⟨n + 1, i, nx, aux, cv, h1, Or.inl ⟨_, _, _, h2, k⟩⟩
theorem PS_yes {q : Prop} (h1 : mj_at cs pc = some (i, nx, aux, cv)) (h2 : mj_ask i st = some (q, st')) (hq : q) (k : PSt d xs Ln cs Q h aux L st') : PSt d xs Ln cs Q h pc L st := by
  obtain ⟨n, k⟩ := k
  exact ⟨n + 1, i, nx, aux, cv, h1, Or.inr (Or.inl ⟨_, _, h2, Or.inl ⟨hq, k⟩⟩)⟩
theorem PS_no {q : Prop} (h1 : mj_at cs pc = some (i, nx, aux, cv)) (h2 : mj_ask i st = some (q, st')) (hq : ¬ q) (k : PSt d xs Ln cs Q h nx L st') : PSt d xs Ln cs Q h pc L st := by
  obtain ⟨n, k⟩ := k
  exact ⟨n + 1, i, nx, aux, cv, h1, Or.inr (Or.inl ⟨_, _, h2, Or.inr ⟨hq, k⟩⟩)⟩
theorem PS_sw {t : Nat} (h1 : mj_at cs pc = some (i, nx, aux, cv)) (h2 : mj_sw i pc st = some ((t : Int), st')) (k : PSt d xs Ln cs Q h t L st') : PSt d xs Ln cs Q h pc L st := by
  obtain ⟨n, k⟩ := k
  exact ⟨n + 1, i, nx, aux, cv, h1, Or.inr (Or.inr (Or.inl ⟨_, _, h2, k⟩))⟩
theorem PS_mem (h1 : mj_at cs pc = some (i, nx, aux, cv)) (h2 : mj_mem i aux st h st' h') (k : PSt d xs Ln cs Q h' nx L st') : PSt d xs Ln cs Q h pc L st := by
  obtain ⟨n, k⟩ := k
  exact ⟨n + 1, i, nx, aux, cv, h1, Or.inr (Or.inr (Or.inr (Or.inl ⟨_, _, h2, k⟩)))⟩
theorem PS_call {as rest : List Value} {r : Option Value} (h1 : mj_at cs pc = some (i, nx, aux, cv)) (h2 : mj_call i aux st h as rest) (hm : ¬ ms_math aux) (hb : mj_big d aux as h r h') (k : PSt d xs Ln cs Q h' nx L (r.toList ++ rest)) : PSt d xs Ln cs Q h pc L st := by
  obtain ⟨n, k⟩ := k
  exact ⟨n + 1, i, nx, aux, cv, h1, Or.inr (Or.inr (Or.inr (Or.inr (Or.inl ⟨_, _, _, _, h2, hm, hb, k⟩))))⟩
theorem PS_sld {j : Int32} {r : List Value} (h1 : mj_at cs pc = some (.iaload, nx, aux, cv)) (hj : vp_in j Ln) (k : PSt d xs Ln cs Q h nx L (.int (xs j.toNatClampNeg) :: r)) : PSt d xs Ln cs Q h pc L (.int j :: .ref 250 :: r) := by
  obtain ⟨n, k⟩ := k
  exact ⟨n + 1, _, nx, aux, cv, h1, Or.inr (Or.inr (Or.inr (Or.inr (Or.inr (Or.inl ⟨rfl, _, _, rfl, hj, k⟩)))))⟩
theorem PS_slen {r : List Value} (h1 : mj_at cs pc = some (.arraylength, nx, aux, cv)) (k : PSt d xs Ln cs Q h nx L (.int (Int32.ofNat Ln) :: r)) : PSt d xs Ln cs Q h pc L (.ref 250 :: r) := by
  obtain ⟨n, k⟩ := k
  exact ⟨n + 1, _, nx, aux, cv, h1, Or.inr (Or.inr (Or.inr (Or.inr (Or.inr (Or.inr ⟨rfl, _, rfl, k⟩)))))⟩
theorem PS_gos (sp : List Nat) : ∀ (n : Nat) {pc : Nat} {L : mj_L} {st : List Value} {pc' : Nat} {L' : mj_L} {st' : List Value}, mj_gos cs sp n pc L st = (pc', L', st') → PSt d xs Ln cs Q h pc' L' st' → PSt d xs Ln cs Q h pc L st := by
  intro n
  induction n with
  | zero =>
    intro pc L st pc' L' st' h1 k
    simp only [mj_gos, Prod.mk.injEq] at h1
    obtain ⟨rfl, rfl, rfl⟩ := h1
    exact k
  | succ n ih =>
    intro pc L st pc' L' st' h1 k
    rw [mj_gos] at h1
    split at h1
    next =>
      simp only [Prod.mk.injEq] at h1
      obtain ⟨rfl, rfl, rfl⟩ := h1
      exact k
    next =>
      split at h1
      next i nx aux cv e1 =>
        split at h1
        next p2 L2 s2 e2 => exact PS_step e1 e2 (ih h1 k)
        next =>
          simp only [Prod.mk.injEq] at h1
          obtain ⟨rfl, rfl, rfl⟩ := h1
          exact k
      next =>
        simp only [Prod.mk.injEq] at h1
        obtain ⟨rfl, rfl, rfl⟩ := h1
        exact k
end PSr
section PSw
variable {p : Program} {l : Launch} {e : Env} {R : Room} {s : State} {m : MethodId} {args : Array Value} {below : List Frame} {meth : Method} {c : Code} {cells slots : Nat} {Q : State → Prop}
variable {own : String} {bs : ByteArray} {nL N d : Nat} {ad : Nat → Nat} {D : va_G} {cA : Nat → ClassId} {A : Nat → Prop} {cs : List mj_E} {xs : Nat → Int32} {Ln : Nat} {Q' : mj_H → Nat → mj_L → List Value → Prop}
/-- a run up to a place is one of the machine -/
theorem psW (hOK : ms_OK2) (hLay : ms_lay) (hCp : ms_cpy) (hch : cs.all (ms_chk own bs) = true) (hx : p.tables.exec = Jvm.exec) (hb : c.code = bs) (hown : s.vm.findClass own = some m.cls) (hts : ∀ w ∈ ms_T, w.before args s = true) (hml : c.maxLocals = nL)
    (hA : ∀ q : Nat, s.heap.size ≤ q → A q) (hK : va_K D mj_cls (ms_tys cA) s) (hZ : ms_Z ad A s) (hfr : d + 1 ≤ R.frames) (hlo : 60 * (d + 1) ≤ R.locals) (hcell : cells ≤ R.cells ∧ slots ≤ R.slots) (hX : (Ln = 0 ∧ ∀ i ∈ cs, i.2.1 ≠ .arraylength) ∨ (va_X (ad 250) Ln xs s s.heap ∧ ad 250 < s.heap.size ∧ ¬ A (ad 250)))
    (kk : ∀ (h : mj_H) (pc : Nat) (L : mj_L) (st : List Value) (H : Heap) (locs : List Loc) (ls : Array Slot), Q' h pc L st → ms_Rel D cA ad N A s.heap h H locs → ms_L ad nL L ls → W p l e R s m args below meth c H locs cells slots Q (F0 m pc ls (st.map (ms_v ad)))) :
    ∀ (n : Nat) (h : mj_H) (pc : Nat) (L : mj_L) (st : List Value) (H : Heap) (locs : List Loc) (ls : Array Slot), ps d xs Ln cs n Q' h pc L st → ms_Rel D cA ad N A s.heap h H locs → ms_L ad nL L ls → W p l e R s m args below meth c H locs cells slots Q (F0 m pc ls (st.map (ms_v ad))) := by
  intro n
  induction n with
  | zero => intro h pc L st H locs ls hr hR hl; exact kk _ _ _ _ _ _ _ hr hR hl
  | succ n ihn =>
    intro h pc L st H locs ls hr hR hl
    obtain ⟨i, nx, aux, cv, hat, hr⟩ := hr
    obtain ⟨wi, hc⟩ := mj_at_in hch hat
    rcases hr with ⟨a, b, st', e1, hr⟩ | ⟨q, st', e1, hr⟩ | ⟨t, st', e1, hr⟩ | ⟨st', g, e1, hr⟩ | ⟨as, rest, r1, g, e1, hm, hB1, hr⟩ | ⟨rfl, j, r, rfl, hj, hr⟩ | ⟨rfl, r, rfl, hr⟩
    · exact ms_pureW hc e1 hx hb hown hts hl (fun ls' hl' => ihn _ _ _ _ _ _ _ hr hR hl')
    · refine ms_askW hc e1 hx hb (fun hq => ?_) (fun hq => ?_)
      · rcases hr with ⟨hq', hr⟩ | ⟨hq', hr⟩
        · exact ihn _ _ _ _ _ _ _ hr hR hl
        · exact absurd hq hq'
      · rcases hr with ⟨hq', hr⟩ | ⟨hq', hr⟩
        · exact absurd hq' hq
        · exact ihn _ _ _ _ _ _ _ hr hR hl
    · exact ms_swW hc e1 hx hb (ihn _ _ _ _ _ _ _ hr hR hl)
    · exact ms_memW hc e1 hLay hCp hx hb hown hts (by rw [hml, hl.2.1]) (by omega) (by omega) hK hZ rfl hR (fun H1 locs1 hR1 => ihn _ _ _ _ _ _ _ hr hR1 hl)
    · have hw' := mj_big_wf d aux as h r1 g hR.2.2.2 hB1
      have hcs : ∃ cs, mj_cods[aux]? = some cs := by
        cases d with
        | zero => exact hB1.elim
        | succ d =>
          obtain ⟨sg, cs2, -, h2, -⟩ := hB1
          exact ⟨cs2, h2⟩
      exact ms3_callW (fun sg cs h1 h2 => (hOK aux sg cs hm h1 h2).1) hc e1 (fun sg hsg sz => ms2_sound hOK hLay hCp d aux as h r1 g hB1 hR.2.2.2 hm sg hsg sz) hx hb hown hts hml hl.2.1 hfr hlo hA hK hZ hR hw' hcell hcs (fun H1 locs1 hR1 => ihn _ _ _ _ _ _ _ hr hR1 hl)
    · obtain ⟨hd, hn⟩ := ms_split hc
      rcases hX with ⟨h0, hal⟩ | ⟨hX, hbl, hbA⟩
      · exact absurd (Or.inr (by omega)) hj
      · have hk := ihn _ _ _ _ _ _ _ hr hR hl
        rw [hn] at hk
        exact va_sld hx hb hX hbl hbA hR.2.2.1 hj hd hk
    · obtain ⟨hd, hn⟩ := ms_split hc
      rcases hX with ⟨h0, hal⟩ | ⟨hX, hbl, hbA⟩
      · exfalso
        have hmem : ∀ {cs : List mj_E} {pc : Nat} {i : Instr} {nx aux : Nat} {cv : Int32}, mj_at cs pc = some (i, nx, aux, cv) → ∃ q ∈ cs, q.2.1 = i := by
          intro cs
          induction cs with
          | nil => intro pc i nx aux cv h; cases h
          | cons q r ih =>
            intro pc i nx aux cv h
            obtain ⟨p1, i1, n1, a1, c1, w1⟩ := q
            simp only [mj_at] at h
            split at h
            next =>
              cases h
              exact ⟨_, List.mem_cons_self, rfl⟩
            next =>
              obtain ⟨q, h1, h2⟩ := ih h
              exact ⟨q, List.mem_cons_of_mem _ h1, h2⟩
        obtain ⟨q, h1, h2⟩ := hmem hat
        exact hal q h1 h2
      · have hk := ihn _ _ _ _ _ _ _ hr hR hl
        rw [hn] at hk
        exact va_slen hx hb hX hbl hbA hR.2.2.1 hd hk
end PSw
