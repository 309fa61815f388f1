def cx_room (d mc ms : Nat) : Room := { frames := d, cells := mc, slots := ms, locals := 60 * d }
def cx_ws (sg : cx_T) : List Jvm.Cond := Cond.code sg.1 sg.2.1 sg.2.2.1 none :: ms_T
def cx_Pc (D : va_G) (cA : Nat → ClassId) (b0 : Nat) (cs : List cX) (b : Nat) : Array Value → State → Prop := va_Pc [.ref (b0 + b)] (fun U => U.heap.size = b0 + cs.length ∧ va_P D mj_cls (cx_W b0 cA cs) U.heap ∧ va_K D mj_cls (ms_tys cA) U ∧ va_AO "FairSlots$World" U)
def cx_Qc (D : va_G) (cA : Nat → ClassId) (b0 : Nat) (cs' : List cX) : Array Value → State → Outcome → State → Prop := fun _ st oc t => (oc = .returned none ∧ va_P D mj_cls (cx_W b0 cA cs') t.heap) ∧ va_F (cx_A b0) st t
theorem cx_blind {D : va_G} {cA : Nat → ClassId} {b0 b : Nat} {cs : List cX} : FrameBlind (cx_Pc D cA b0 cs b) := by
  intro a U g mk q
  obtain ⟨q0, q1, qP, qK, qA⟩ := q
  exact ⟨q0, q1, qP, va_K.moved (u := U) (U := U.calling g mk a) (Vm.Alike.refl U.vm) qK, va_AO.moved (u := U) (U := U.calling g mk a) (Vm.Alike.refl U.vm) qA⟩
theorem cx_at_in {own : String} {bs : ByteArray} : ∀ {cs : List mj_E} {pc : Nat} {i : Instr} {nx aux : Nat} {cv : Int32}, cs.all (cx_chk own bs) = true → mj_at cs pc = some (i, nx, aux, cv) → ∃ wi, cx_chk own bs (pc, i, nx, aux, cv, wi) = true := by
  intro cs
  induction cs with
  | nil => intro pc i nx aux cv _ h; cases h
  | cons q r ih =>
    intro pc i nx aux cv ha h
    obtain ⟨p1, i1, n1, a1, c1, w1⟩ := q
    simp only [List.all_cons, Bool.and_eq_true] at ha
    simp only [mj_at] at h
    split at h
    next e =>
      cases h
      have e := Nat.eq_of_beq_eq_true e
      subst e
      exact ⟨w1, ha.1⟩
    next => exact ih ha.2 h
def cx_Mets (l : Launch) (D : va_G) (cA : Nat → ClassId) (b0 d : Nat) : Prop := ∀ (k : Nat) (cs : List cX) (b : Nat) (cs' : List cX) (sg : cx_T) (q : Nat × Nat), cx_B d k cs b = some cs' → cx_sigs[k]? = some sg → cx_cnt[k]? = some q → Met l sg.1 (cx_ws sg) (cx_room d q.1 q.2) (cx_Pc D cA b0 cs b) (cx_Qc D cA b0 cs') q.1 q.2 (cx_A b0)
section cxC
variable {p : Program} {l : Launch} {e : Env} {R : Room} {s : State} {m : MethodId} {args : Array Value} {below : List Frame} {meth : Method} {c : Code} {H : Heap} {locs : List Loc} {cells slots : Nat} {Q : State → Prop}
variable {own : String} {bs : ByteArray} {pc nL b0 : Nat} {ls : Array Slot} {D : va_G} {cA : Nat → ClassId} {cs cs' : List cX}
theorem cx_sum_ok {r : List Value} {ad : Nat → Nat} {m : MethodId} {st : List Value} {ls : Array Slot} (h : cx_sum r = true) : 2 * (F0 m pc ls st).monitorRoom + ((r.map (ms_v ad)).map fun v => v.category).sum ≤ 8 := lv_room (by rw [ms_cats]; exact Nat.le_of_ble_eq_true h)
/-- a constructor's call -/
theorem cx_callW {d k ix b : Nat} {sg : cx_T} {tb : List mj_E} {q : Nat × Nat} {r : List Value} (hM : cx_Mets l D cA b0 d) (hOK : cx_OK) (hB : cx_B d k cs b = some cs') (hsg : cx_sigs[k]? = some sg) (htb : cx_cods[k]? = some tb) (hq : cx_cnt[k]? = some q) (hlink : Cond.methodLink own ix sg.1 ∈ ms_T) (hd : decode bs pc = .ok (.invokespecial ix, 3)) (hr : cx_sum r = true)
    (hx : p.tables.exec = Jvm.exec) (hb : c.code = bs) (hown : s.vm.findClass own = some m.cls) (hts : ∀ w ∈ ms_T, w.before args s = true) (hml : c.maxLocals = nL) (hls : ls.size = nL) (hfr : d + 1 ≤ R.frames) (hlo : 60 * (d + 1) ≤ R.locals) (hK : va_K D mj_cls (ms_tys cA) s) (hAO : va_AO "FairSlots$World" s)
    (hP : va_P D mj_cls (cx_W b0 cA cs) H) (hS : va_S (cx_A b0) s.heap H locs) (hb0 : b0 ≤ s.heap.size) (hsz : s.heap.size + cells = b0 + cs.length) (hcells : cells + q.1 ≤ R.cells) (hslots : slots + q.2 ≤ R.slots)
    (kk : ∀ (H1 : Heap) (locs1 : List Loc), va_P D mj_cls (cx_W b0 cA cs') H1 → va_S (cx_A b0) s.heap H1 locs1 → W p l e R s m args below meth c H1 locs1 (cells + q.1) (slots + q.2) Q (F0 m (pc + 3) ls (r.map (ms_v (cx_ad b0))))) : W p l e R s m args below meth c H locs cells slots Q (F0 m pc ls (((.ref b :: r : List Value)).map (ms_v (cx_ad b0)))) := by
  refine cx_sz fun hup => ?_
  have hlo2 := cx_low hP (Nat.le_trans hb0 hS.1)
  have hsize : H.size = b0 + cs.length := by omega
  have hS0 := (hOK k sg tb hsg htb).1
  simp only [cx_sig, Bool.and_eq_true, decide_eq_true_eq] at hS0
  obtain ⟨⟨⟨⟨⟨⟨⟨⟨⟨z1, z2⟩, z3⟩, z4⟩, z5⟩, z6⟩, z7⟩, z8⟩, z9⟩, z10⟩ := hS0
  have hmL := Nat.le_of_ble_eq_true z7
  have hcode : Cond.code sg.1 sg.2.1 sg.2.2.1 none ∈ ms_T := ms_in_ok z1
  have hgood : GoodIn ms_T (cx_ws sg) := by
    intro w hw
    rcases List.mem_cons.mp hw with rfl | hw
    · exact ms_T_good _ hcode
    · exact ms_T_good _ hw
  have hroom : (cx_room d q.1 q.2).frames + 1 ≤ R.frames ∧ 8 + (sg.2.2.1 + 11) + (cx_room d q.1 q.2).locals ≤ R.locals := by
    refine ⟨hfr, ?_⟩
    show 8 + (sg.2.2.1 + 11) + 60 * d ≤ R.locals
    omega
  have hfin : va_Run p l e R s m args below meth c H locs cells slots q.1 q.2 (F0 m pc ls (((.ref b :: r : List Value)).map (ms_v (cx_ad b0)))) (r.map (ms_v (cx_ad b0))) (cx_Qc D cA b0 cs' (([.ref (b0 + b)] : List Value).toArray)) (cx_A b0) := by
    exact va_runI (As := []) (b := b0 + b) (Ts := ms_T) ⟨hx, hb, hml, hown, hts⟩ (hM k cs b cs' sg q hB hsg hq) ⟨callB_of 0 hts hgood rfl rfl rfl (hts _ (cx_w_ok z8)) (hts _ hlink) ⟨z5, z6, z9⟩ hroom, z10, hts _ (ms_in_ok z2)⟩ ⟨cx_blind, fun U hU hWU => ⟨rfl, by rw [hU]; exact hsize, by rw [hU]; exact hP, va_K.moved hWU.alike hK, va_AO.moved hWU.alike hAO⟩⟩ rfl rfl hls rfl (cx_sum_ok hr) hd ⟨hcells, hslots⟩
  refine cx_goes hfin hS (fun q _ z => z) (fun q z => z) (fun t H1 locs1 ht hvm hBt hS1 => ?_)
  rw [ht] at hBt
  exact kk H1 locs1 hBt hS1
end cxC
set_option maxHeartbeats 1000000 in
theorem cx_goW (hOK : cx_OK) (hLay : ms_lay) {d : Nat} {l : Launch} {D : va_G} {cA : Nat → ClassId} {b0 : Nat} (ih : cx_Mets l D cA b0 d)
    {p : Program} {e : Env} {s : State} {m : MethodId} {args : Array Value} {below : List Frame} {meth : Method} {c : Code} {own : String} {bs : ByteArray} {nL mC mS : Nat} {tb : List mj_E} {cs' : List cX} {free : Addr → Prop} {Qc : Array Value → State → Outcome → State → Prop}
    (hch : tb.all (cx_chk own bs) = true) (hx : p.tables.exec = Jvm.exec) (hb : c.code = bs) (hret : meth.sig.returnType = none) (hlocks : meth.locks = false) (hin2 : meth.name = "<init>") (hown : s.vm.findClass own = some m.cls) (hts : ∀ w ∈ ms_T, w.before args s = true) (hml : c.maxLocals = nL)
    (hfree : ∀ q, cx_A b0 q → free q) (hK : va_K D mj_cls (ms_tys cA) s) (hAO : va_AO "FairSlots$World" s) (hb0 : b0 ≤ s.heap.size)
    (hQ : ∀ (H : Heap) (locs : List Loc) (t : State), va_P D mj_cls (cx_W b0 cA cs') H → va_S (cx_A b0) s.heap H locs → t.heap = H → s.WarmedH t.vm → Qc args s (.returned none) t) :
    ∀ (n cells slots : Nat) (cs : List cX) (pc : Nat) (L : mj_L) (st : List Value) (H : Heap) (locs : List Loc) (ls : Array Slot), cx_go (cx_B d) mC mS tb n cells slots cs pc L st = some cs' → s.heap.size + cells = b0 + cs.length → va_P D mj_cls (cx_W b0 cA cs) H → va_S (cx_A b0) s.heap H locs → ms_L (cx_ad b0) nL L ls →
      W p l e (cx_room (d + 1) mC mS) s m args below meth c H locs cells slots (MQ below Qc args s mC mS free) (F0 m pc ls (st.map (ms_v (cx_ad b0)))) := by
  intro n
  induction n with
  | zero => intro cells slots cs pc L st H locs ls h; simp only [cx_go] at h; cases h
  | succ n ihn =>
    intro cells slots cs pc L st H locs ls h hsz hP hS hl
    simp only [cx_go] at h
    split at h
    next => cases h
    next i nx aux cv hat =>
      obtain ⟨wi, hc⟩ := cx_at_in hch hat
      split at h
      next pc' L' st' hp =>
        rw [cx_pchk hp] at hc
        exact ms_pureW hc hp hx hb hown hts hl (fun ls' hl' => ihn _ _ _ _ _ _ _ _ _ h hsz hP hS hl')
      next hpn =>
        split at h
        next pc' st' hi =>
          unfold cx_if at hi
          split at hi
          next o =>
            have hc : ms_chk own bs (pc, .if_icmp .ge o, nx, aux, cv, wi) = true := hc
            obtain ⟨hd, hn⟩ := ms_split hc
            simp only [ms_chk, Bool.and_eq_true, decide_eq_true_eq] at hc
            split at hi
            next y x r =>
              split at hi
              next hq =>
                cases hi
                have hq := of_decide_eq_true hq
                exact lv_icmp_ge hx hb hd hc.2 (fun _ => ihn _ _ _ _ _ _ _ _ _ h hsz hP hS hl) (fun z => absurd hq z)
              next hq =>
                cases hi
                have hq := of_decide_eq_false hq
                rw [hn] at h
                exact lv_icmp_ge hx hb hd hc.2 (fun z => absurd z hq) (fun _ => ihn _ _ _ _ _ _ _ _ _ h hsz hP hS hl)
            next => cases hi
          next => cases hi
        next hif =>
          split at h
          next st' cs2 hm =>
            exact cx_memW hc hm hLay hx hb hown hts hin2 hK hP hS (fun H1 locs1 hP1 hS1 => ihn _ _ _ _ _ _ _ _ _ h (by rw [cx_mem_len hm]; exact hsz) hP1 hS1 hl)
          next hmn =>
            split at h
            next q k r hn =>
              split at h
              next hg =>
                simp only [Bool.and_eq_true] at hg
                exact cx_newW hc hn hLay hx hb hown hts hK hAO hP hS hb0 hsz (Nat.le_of_ble_eq_true hg.1) (Nat.le_of_ble_eq_true hg.2) (fun H1 hP1 hS1 => ihn _ _ _ _ _ _ _ _ _ h (by rw [List.length_append]; simp only [List.length_cons, List.length_nil]; omega) hP1 hS1 hl)
              next => cases h
            next hnn =>
              split at h
              next ix =>
                split at h
                next b r =>
                  simp only [cx_chk, Bool.and_eq_true, decide_eq_true_eq] at hc
                  obtain ⟨⟨hd, hnx⟩, hc⟩ := hc
                  have hnx := Nat.eq_of_beq_eq_true hnx
                  split at h
                  next h98 =>
                    rw [h98] at hc
                    split at h
                    next hsum =>
                      rw [hnx] at h
                      have hlr := cx_sum_ok (ad := cx_ad b0) (pc := pc) (m := m) (st := ((.ref b :: r : List Value)).map (ms_v (cx_ad b0))) (ls := ls) hsum
                      refine W.objInit hx hb hown (hts _ (ms_in_ok hc)) (hts _ cx_oi.1) (hts _ cx_oi.2) rfl (by rw [hml]; exact hl.2.1) rfl hd ?_ ?_ (ihn _ _ _ _ _ _ _ _ _ h hsz hP hS hl)
                      · show 1 ≤ d + 1
                        omega
                      · show _ ≤ 60 * (d + 1)
                        omega
                    next => cases h
                  next h98 =>
                    rw [h98] at hc
                    dsimp only at hc
                    split at h
                    next => cases h
                    next q hq =>
                      split at h
                      next hg =>
                        simp only [Bool.and_eq_true] at hg
                        split at h
                        next cs2 hB =>
                          rw [hnx] at h
                          split at hc
                          next sg hsg =>
                            have htb : ∃ tb, cx_cods[aux]? = some tb := by
                              cases d with
                              | zero => cases hB
                              | succ d =>
                                simp only [cx_B] at hB
                                rw [hsg] at hB
                                dsimp only at hB
                                split at hB
                                next => cases hB
                                next tb2 htb2 => exact ⟨tb2, htb2⟩
                            obtain ⟨tb2, htb⟩ := htb
                            have hlen := cx_B_len d aux cs b cs2 q hB hq
                            exact cx_callW ih hOK hB hsg htb hq (ms_in_ok hc) hd hg.1.1 hx hb hown hts hml hl.2.1 (Nat.le_refl _) (Nat.le_refl _) hK hAO hP hS hb0 hsz (Nat.le_of_ble_eq_true hg.1.2) (Nat.le_of_ble_eq_true hg.2) (fun H1 locs1 hP1 hS1 => ihn _ _ _ _ _ _ _ _ _ h (by omega) hP1 hS1 hl)
                          next => cases hc
                        next => cases h
                      next => cases h
                next => cases h
              next =>
                split at h
                next =>
                  split at h
                  next hg =>
                    cases h
                    simp only [Bool.and_eq_true] at hg
                    have g1 := Nat.eq_of_beq_eq_true hg.1
                    have g2 := Nat.eq_of_beq_eq_true hg.2
                    subst g1 g2
                    obtain ⟨hd, hn⟩ := ms_split (show ms_chk own bs (pc, .return_, nx, aux, cv, wi) = true from hc)
                    exact W.vret hx hb hret (fun t2 h2 hW2 => hQ H locs t2 hP hS h2 hW2) (fun q hq => hfree _ (hS.2.2 q hq)) hd hlocks
                  next => cases h
                next => cases h
              next => cases h
theorem cx_sound (hOK : cx_OK) (hLay : ms_lay) {l : Launch} {D : va_G} {cA : Nat → ClassId} {b0 : Nat} : ∀ d, cx_Mets l D cA b0 d := by
  intro d
  induction d with
  | zero => intro k cs b cs' sg q h; cases h
  | succ d ih =>
    intro k cs b cs' sg q h hsg hq
    simp only [cx_B] at h
    rw [hsg] at h
    dsimp only at h
    split at h
    next => cases h
    next tb htb =>
      rw [hq] at h
      dsimp only at h
      split at h
      next h1 =>
        obtain ⟨hsig, hch⟩ := hOK k sg tb hsg htb
        simp only [cx_sig, Bool.and_eq_true, decide_eq_true_eq] at hsig
        obtain ⟨⟨⟨⟨⟨⟨⟨⟨⟨z1, z2⟩, z3⟩, z4⟩, z5⟩, z6⟩, z7⟩, z8⟩, z9⟩, z10⟩ := hsig
        refine Met.ofW (cc := sg.2.1) (maxL := sg.2.2.1) (ret := none) z4 rfl ?_
        intro p e s m args below meth c s₁ B hml hv
        obtain ⟨rfl, hsz, hP, hK, hAO⟩ := hv
        have hts0 := atoms_spec (ws := cx_ws sg) B.pre
        have hts : ∀ w ∈ ms_T, w.before ([.ref (b0 + b)] : List Value).toArray s = true := fun w hw => hts0 w (List.mem_cons_of_mem _ hw)
        have hown : s.vm.findClass sg.2.2.2.2.2 = some m.cls := by rw [z3]; exact findClass_of_methodNamed B.named
        have hnm : meth.name = "<init>" := (name_of_methodNamed B.named B.method).1.trans z10
        rw [lg_entry_eq]
        refine cx_goW (cs' := cs') (Qc := cx_Qc D cA b0 cs') (free := cx_A b0) hOK hLay ih hch B.exec B.bytes B.returns B.notSynchronized hnm hown hts hml (fun q z => z) hK hAO (by omega) ?_ 400 0 0 cs 0 (mj_ent [.ref b] sg.2.2.1) [] s.heap [] _ h (by omega) hP va_S.rf (ms_L_entry (Nat.le_of_ble_eq_true h1))
        intro H locs t hP1 hS1 ht hWt
        exact ⟨⟨rfl, by rw [ht]; exact hP1⟩, hS1.F ht⟩
      next => cases h
