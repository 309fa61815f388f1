section cxR
variable {p : Program} {l : Launch} {e : Env} {R : Room} {s : State} {m : MethodId} {args : Array Value} {below : List Frame} {meth : Method} {c : Code} {H : Heap} {locs : List Loc} {cells slots : Nat} {Q : State → Prop}
variable {own : String} {bs : ByteArray} {pc nx aux wi nL b0 : Nat} {i : Instr} {cv : Int32} {L : mj_L} {st st' : List Value} {ls : Array Slot} {D : va_G} {cA : Nat → ClassId} {cs cs' : List cX}
theorem cx_sz {g : JFrame} (k : H.size ≤ s.heap.size + cells → W p l e R s m args below meth c H locs cells slots Q g) : W p l e R s m args below meth c H locs cells slots Q g := fun T hT X => k (by rw [← hT]; exact X.heapSize) T hT X
theorem cx_goes {v : Option Value} {Bt : State → Prop} {A0 A1 : Nat → Prop} {H0 : Heap} {free : Addr → Prop} {st0 rest : List Value} {mc ms : Nat} (hr : va_Run p l e R s m args below meth c H locs cells slots mc ms (F0 m pc ls st0) rest (fun st oc t => (oc = .returned v ∧ Bt t) ∧ va_F A1 st t) free) (hS : va_S A0 H0 H locs) (hA : ∀ q, q < H.size → A1 q → A0 q) (hf : ∀ q, free q → A0 q)
    (kk : ∀ (t : State) (H1 : Heap) (locs1 : List Loc), t.heap = H1 → s.vm.Alike t.vm → Bt t → va_S A0 H0 H1 locs1 → W p l e R s m args below meth c H1 locs1 (cells + mc) (slots + ms) Q (F0 m (pc + 3) ls (v.toList ++ rest))) : W p l e R s m args below meth c H locs cells slots Q (F0 m pc ls st0) := by
  intro T hT X
  obtain ⟨v', st₀, t, T', L, h0, X', hL, e1, e2, ⟨⟨hv, hb⟩, hz, hk⟩, st⟩ := hr T hT X
  cases hv
  rw [h0] at hz hk
  obtain ⟨t2, a1, b1⟩ := kk t T'.heap (locs ++ L) e1.symm (by rw [← e2]; exact X'.warmed.alike) hb
    ⟨Nat.le_trans hS.1 (by rw [e1]; exact hz), fun q h1 h2 => by rw [e1, hk q (Nat.lt_of_lt_of_le h1 hS.1) (fun z => h2 (hA q (Nat.lt_of_lt_of_le h1 hS.1) z))]; exact hS.2.1 q h1 h2, fun q hq => by
      rcases List.mem_append.mp hq with h | h
      · exact hS.2.2 q h
      · exact hf _ (hL q h)⟩ T' rfl X'
  exact ⟨t2, st t2 a1, b1⟩
theorem cx_arrW {t : ArrayType} {n : Int32} {r : List Value} {a0 : vp_A} (ht : (ms_tys cA)[aux]? = some (cA aux, newarray.typeOf t)) (ha : ∀ x : ClassId, vp_cell x a0 = arrV x n.toNatClampNeg (fun _ => defaultValue (newarray.typeOf t))) (hn : ¬ n < 0) (hle : n.toNatClampNeg ≤ 4096) (hd : decode bs pc = .ok (.newarray t, 2)) (harr : (Cond.arrayClass (newarray.typeOf t)).before args s = true)
    (hx : p.tables.exec = Jvm.exec) (hb : c.code = bs) (hK : va_K D mj_cls (ms_tys cA) s) (hP : va_P D mj_cls (cx_W b0 cA cs) H) (hS : va_S (cx_A b0) s.heap H locs) (hb0 : b0 ≤ s.heap.size) (hsz : s.heap.size + cells = b0 + cs.length) (hcells : cells + 1 ≤ R.cells) (hslots : slots + n.toNatClampNeg ≤ R.slots)
    (kk : ∀ (H1 : Heap), va_P D mj_cls (cx_W b0 cA cs ++ [(b0 + cs.length, .inl (cA aux, a0))]) H1 → va_S (cx_A b0) s.heap H1 locs → W p l e R s m args below meth c H1 locs (cells + 1) (slots + n.toNatClampNeg) Q (F0 m (pc + 2) ls (.ref (b0 + cs.length) :: r))) : W p l e R s m args below meth c H locs cells slots Q (F0 m pc ls (.int n :: r)) := by
  refine va_newa (atype := t) hx hb harr rfl hK hP cx_D hS (fun q hq => Nat.le_trans hb0 hq) ha hn rfl ?_ hcells hslots hd (fun q0 cA' H1 hK1 hP1 hD1 hS1 => cx_sz fun hup => ?_)
  · cases t <;> simp only [newarray.typeOf, componentBytes] <;> omega
  · have hq : q0 = b0 + cs.length := cx_q hP1 hD1 (by omega)
    subst hq
    have e2 : cA' = cA aux := by
      have z1 := (hK1.2 6 _ rfl).2
      have z2 := (hK.2 aux _ ht).2
      cases t <;> exact Option.some.inj (z1.symm.trans z2)
    subst e2
    exact kk H1 hP1 hS1
theorem cx_newW {q : cX} {k : Nat} {r : List Value} (hc : cx_chk own bs (pc, i, nx, aux, cv, wi) = true) (hn : cx_new i aux st = some (q, k, r)) (hLay : ms_lay) (hx : p.tables.exec = Jvm.exec) (hb : c.code = bs) (hown : s.vm.findClass own = some m.cls) (hts : ∀ w ∈ ms_T, w.before args s = true) (hK : va_K D mj_cls (ms_tys cA) s) (hAO : va_AO "FairSlots$World" s)
    (hP : va_P D mj_cls (cx_W b0 cA cs) H) (hS : va_S (cx_A b0) s.heap H locs) (hb0 : b0 ≤ s.heap.size) (hsz : s.heap.size + cells = b0 + cs.length) (hcells : cells + 1 ≤ R.cells) (hslots : slots + k ≤ R.slots)
    (kk : ∀ (H1 : Heap), va_P D mj_cls (cx_W b0 cA (cs ++ [q])) H1 → va_S (cx_A b0) s.heap H1 locs → W p l e R s m args below meth c H1 locs (cells + 1) (slots + k) Q (F0 m nx ls (((.ref cs.length :: r : List Value)).map (ms_v (cx_ad b0))))) : W p l e R s m args below meth c H locs cells slots Q (F0 m pc ls (st.map (ms_v (cx_ad b0)))) := by
  have hA : ∀ q, s.heap.size ≤ q → cx_A b0 q := fun q hq => Nat.le_trans hb0 hq
  cases i
  case new ix =>
    simp only [cx_new] at hn
    split at hn
    next q9 hq9 =>
      obtain ⟨C, T, N⟩ := q9
      cases hn
      simp only [cx_chk, Bool.and_eq_true, decide_eq_true_eq] at hc
      obtain ⟨⟨hd, hnx⟩, hc⟩ := hc
      rw [hq9] at hc
      simp only [Bool.and_eq_true] at hc
      obtain ⟨⟨h1, h2⟩, h3⟩ := hc
      have hnx := Nat.eq_of_beq_eq_true hnx
      have hl := hLay _ _ _ _ hq9
      refine va_new (ci := aux) (fs := ((List.range N).map fun k => defaultValue (mj_fty aux k)).map (ms_v (cx_ad b0))) hx hb hts hl.1 (mj_fty aux) hl.2.1 hown (hts _ (ms_in_ok h1)) (hts _ (cx_w_ok h2)) (hts _ (cx_w_ok h3)) hK hP cx_D hS hA hq9 ?_ hcells hslots hd (fun q0 H1 hP1 hD1 hS1 => cx_sz fun hup => ?_)
      · intro j hj
        unfold vp_V
        rw [List.getD_eq_getElem?_getD, List.getElem?_map, List.getElem?_map, List.getElem?_range hj]
        show _ = ms_v (cx_ad b0) (defaultValue (mj_fty aux j))
        cases mj_fty aux j <;> rfl
      · have hq : q0 = b0 + cs.length := cx_q hP1 hD1 (by omega)
        subst hq
        have hk := kk H1 (by rw [← cx_W_push]; exact hP1) hS1
        rw [hnx] at hk
        exact hk
    next => cases hn
  case newarray t =>
    simp only [cx_new] at hn
    split at hn
    next n r' =>
      split at hn
      next hg =>
        cases hn
        simp only [Bool.and_eq_true, decide_eq_true_eq] at hg
        obtain ⟨⟨hn0, hle⟩, ht⟩ := hg
        have hle := Nat.le_of_ble_eq_true hle
        have ht := Nat.le_of_ble_eq_true ht
        simp only [cx_chk, Bool.and_eq_true, decide_eq_true_eq] at hc
        obtain ⟨⟨⟨hd, hnx⟩, har⟩, hw⟩ := hc
        have hnx := Nat.eq_of_beq_eq_true hnx
        have harr := hts _ (cx_w_ok hw)
        rw [hnx] at kk
        rcases (show aux = 0 ∨ aux = 1 ∨ aux = 2 ∨ aux = 3 ∨ aux = 4 by omega) with rfl | rfl | rfl | rfl | rfl
        all_goals
          simp only [cx_arr, decide_eq_true_eq] at har
          subst har
          exact cx_arrW (a0 := (n.toNatClampNeg, _)) rfl (fun x => rfl) hn0 hle hd harr hx hb hK hP hS hb0 hsz hcells hslots (fun H1 hP1 hS1 => kk H1 (by rw [← cx_W_push]; exact hP1) hS1)
      next => cases hn
    next => cases hn
  case anewarray ix =>
    simp only [cx_new] at hn
    split at hn
    next n r' =>
      split at hn
      next hg =>
        cases hn
        simp only [Bool.and_eq_true, decide_eq_true_eq] at hg
        obtain ⟨hn0, hle⟩ := hg
        have hle := Nat.le_of_ble_eq_true hle
        simp only [cx_chk, Bool.and_eq_true, decide_eq_true_eq] at hc
        obtain ⟨⟨hd, hnx⟩, hw⟩ := hc
        have hnx := Nat.eq_of_beq_eq_true hnx
        rw [hnx] at kk
        refine va_newq hx hb hown (hts _ (ms_in_ok hw)) hAO hK hP cx_D hS hA hn0 rfl (by omega) hcells hslots hd (fun q0 cA' H1 hK1 hP1 hD1 hS1 => cx_sz fun hup => ?_)
        have hq : q0 = b0 + cs.length := cx_q hP1 hD1 (by omega)
        subst hq
        have e2 : cA' = cA 5 := by
          obtain ⟨_, _, _, _, _, z1⟩ := (hK1.2 6 _ rfl).2
          obtain ⟨_, _, _, _, _, z2⟩ := (hK.2 5 _ rfl).2
          exact Option.some.inj (z1.symm.trans z2)
        subst e2
        exact kk H1 (by rw [← cx_W_push]; exact hP1) hS1
      next => cases hn
    next => cases hn
  all_goals (cases hn)
theorem cx_in_ok {j : Int32} {n : Nat} (h : cx_in j n = true) : vp_in j n := by
  unfold cx_in at h
  simp only [Bool.and_eq_true, decide_eq_true_eq] at h
  have := Nat.le_of_ble_eq_true h.2
  unfold vp_in
  rintro (z | z)
  · exact h.1 z
  · omega
theorem cx_memW (hc : cx_chk own bs (pc, i, nx, aux, cv, wi) = true) (hm : cx_mem i aux st cs = some (st', cs')) (hLay : ms_lay) (hx : p.tables.exec = Jvm.exec) (hb : c.code = bs) (hown : s.vm.findClass own = some m.cls) (hts : ∀ w ∈ ms_T, w.before args s = true) (hin2 : meth.name = "<init>") (hK : va_K D mj_cls (ms_tys cA) s) (hP : va_P D mj_cls (cx_W b0 cA cs) H) (hS : va_S (cx_A b0) s.heap H locs)
    (kk : ∀ (H1 : Heap) (locs1 : List Loc), va_P D mj_cls (cx_W b0 cA cs') H1 → va_S (cx_A b0) s.heap H1 locs1 → W p l e R s m args below meth c H1 locs1 cells slots Q (F0 m nx ls (st'.map (ms_v (cx_ad b0))))) : W p l e R s m args below meth c H locs cells slots Q (F0 m pc ls (st.map (ms_v (cx_ad b0)))) := by
  cases i
  case getfield ix =>
    simp only [cx_mem] at hm
    split at hm
    next a r =>
      split at hm
      next ci fs hcs =>
        split at hm
        next hci =>
          split at hm
          next v hv =>
            cases hm
            have hci := Nat.eq_of_beq_eq_true hci
            subst hci
            obtain ⟨hd, hn⟩ := ms_split (show ms_chk own bs (pc, .getfield ix, nx, aux, cv, wi) = true from hc)
            have hc : ms_chk own bs (pc, .getfield ix, nx, aux, cv, wi) = true := hc
            simp only [ms_chk, Bool.and_eq_true, ms_link] at hc
            obtain ⟨-, hc⟩ := hc
            split at hc
            next C T M hcl =>
              simp only [Bool.and_eq_true] at hc
              have hk := kk H locs hP hS
              rw [hn] at hk
              exact va_get hx hb hts (hLay _ _ _ _ hcl).1 hown hK hP a (cx_W_at hcs) hcl (aux % 64) (Nat.le_of_ble_eq_true hc.1.1) (hts _ (ms_in_ok hc.1.2)) (fun _ z => z) (by rw [List.getElem?_map, hv]; rfl) hd hk
            next => cases hc
          next => cases hm
        next => cases hm
      next => cases hm
    next => cases hm
  case putfield ix =>
    simp only [cx_mem] at hm
    split at hm
    next v a r =>
      split at hm
      next ci fs hcs =>
        split at hm
        next hg =>
          cases hm
          simp only [Bool.and_eq_true] at hg
          obtain ⟨⟨hci, hl⟩, hf⟩ := hg
          have hci := Nat.eq_of_beq_eq_true hci
          have hl := Nat.le_of_ble_eq_true hl
          subst hci
          simp only [cx_chk, Bool.and_eq_true, decide_eq_true_eq] at hc
          obtain ⟨⟨hd, hnx⟩, hc⟩ := hc
          have hnx := Nat.eq_of_beq_eq_true hnx
          split at hc
          next r9 hcl =>
            obtain ⟨C, T, N⟩ := r9
            simp only [Bool.and_eq_true] at hc
            obtain ⟨⟨h1, h2⟩, h3⟩ := hc
            have hlay := hLay _ _ _ _ hcl
            have hff := ms_fit (ad := cx_ad b0) hf
            have hk : ∀ (H1 : Heap) (locs1 : List Loc), va_P D mj_cls ((cx_W b0 cA cs).set a (b0 + a, .inr (aux / 64, (fs.map (ms_v (cx_ad b0))).set (aux % 64) (ms_v (cx_ad b0) v)))) H1 → va_D (cx_A b0) ((cx_W b0 cA cs).set a (b0 + a, .inr (aux / 64, (fs.map (ms_v (cx_ad b0))).set (aux % 64) (ms_v (cx_ad b0) v)))) → va_S (cx_A b0) s.heap H1 locs1 → W p l e R s m args below meth c H1 locs1 cells slots Q (F0 m (pc + 3) ls (st'.map (ms_v (cx_ad b0)))) := by
              intro H1 locs1 hP1 _ hS1
              rw [show (fs.map (ms_v (cx_ad b0))).set (aux % 64) (ms_v (cx_ad b0) v) = (fs.set (aux % 64) v).map (ms_v (cx_ad b0)) from (List.map_set ..).symm] at hP1
              have z := kk H1 locs1 (by rw [← cx_W_set]; exact hP1) hS1
              rw [hnx] at z
              exact z
            by_cases hfin : (T (aux % 64)).2.2.2 = true
            · refine va_putF hx hb hts hlay.1 (mj_fty (aux / 64)) hlay.2.1 hlay.2.2 hown hK hP cx_D hS a (cx_W_at hcs) hcl (aux % 64) (Nat.le_of_ble_eq_true h1) (hts _ (ms_in_ok h2)) (fun _ z => z) hfin hin2 ?_ (hlay.2.1 _ (Nat.le_of_ble_eq_true h1)) hff.1 hff.2 (by rw [List.length_map]; exact hl) hd hk
              rw [hfin] at h3
              simpa using h3
            · exact va_put hx hb hts hlay.1 (mj_fty (aux / 64)) hlay.2.1 hlay.2.2 hown hK hP cx_D hS a (cx_W_at hcs) hcl (aux % 64) (Nat.le_of_ble_eq_true h1) (hts _ (ms_in_ok h2)) (fun _ z => z) (by simpa using hfin) (hlay.2.1 _ (Nat.le_of_ble_eq_true h1)) hff.1 hff.2 (by rw [List.length_map]; exact hl) hd hk
          next => cases hc
        next => cases hm
      next => cases hm
    next => cases hm
  case iastore =>
    simp only [cx_mem] at hm
    split at hm
    next x j a r =>
      split at hm
      next n us hcs =>
        split at hm
        next hj =>
          cases hm
          obtain ⟨hd, hn⟩ := ms_split (show ms_chk own bs (pc, .iastore, nx, aux, cv, wi) = true from hc)
          refine va_iast hx hb hK hP cx_D hS a 0 (cx_W_at hcs) rfl (cx_in_ok hj) hd (fun H1 locs1 hP1 _ hS1 => ?_)
          have z := kk H1 locs1 (by rw [← cx_W_set]; exact hP1) hS1
          rw [hn] at z
          exact z
        next => cases hm
      next => cases hm
    next => cases hm
  case bastore =>
    simp only [cx_mem] at hm
    split at hm
    next x j a r =>
      split at hm
      next n us hcs =>
        split at hm
        next hj =>
          cases hm
          obtain ⟨hd, hn⟩ := ms_split (show ms_chk own bs (pc, .bastore, nx, aux, cv, wi) = true from hc)
          refine va_bast hx hb hK hP cx_D hS a 2 (cx_W_at hcs) rfl (cx_in_ok hj) hd (fun H1 locs1 hP1 _ hS1 => ?_)
          have z := kk H1 locs1 (by rw [← cx_W_set]; exact hP1) hS1
          rw [hn] at z
          exact z
        next => cases hm
      next => cases hm
    next => cases hm
  case aastore =>
    simp only [cx_mem] at hm
    split at hm
    next b j a r =>
      split at hm
      next n us hcs =>
        split at hm
        next fs hcb =>
          split at hm
          next hj =>
            cases hm
            simp only [cx_chk, Bool.and_eq_true, decide_eq_true_eq] at hc
            obtain ⟨hd, hnx⟩ := hc
            have hnx := Nat.eq_of_beq_eq_true hnx
            refine va_astq hx hb hK hP cx_D hS a 5 b 9 (r := (RX9, TX9, 17)) (cx_W_at hcs) rfl (cx_W_at hcb) rfl (cx_in_ok hj) hd (fun H1 locs1 hP1 _ hS1 => ?_)
            have e9 : (va_up (fun k => (cx_r us k).map (cx_ad b0)) j.toNatClampNeg (some (b0 + b))) = fun k => (cx_r ((j.toNatClampNeg, b) :: us) k).map (cx_ad b0) := by
              funext k
              simp only [va_up, cx_r]
              split <;> rfl
            rw [e9] at hP1
            have z := kk H1 locs1 (by rw [← cx_W_set]; exact hP1) hS1
            rw [hnx] at z
            exact z
          next => cases hm
        next => cases hm
      next => cases hm
    next => cases hm
  all_goals (cases hm)
end cxR
