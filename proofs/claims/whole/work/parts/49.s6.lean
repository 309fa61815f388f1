def ms_T : List Jvm.Cond := lw_tbl.filter goodWord
theorem ms_T_good : GoodIn ms_T ms_T := fun _ hw => ⟨hw, good_of_word (List.mem_filter.mp hw).2⟩
theorem ms_in_ok {wi : Nat} {w : Jvm.Cond} (h : ms_in wi w = true) : w ∈ ms_T := by
  unfold ms_in at h
  simp only [Bool.and_eq_true, decide_eq_true_eq] at h
  exact List.mem_filter.mpr ⟨List.mem_of_getElem? h.1, h.2⟩
def ms_ws (sg : mj_S) : List Jvm.Cond := Cond.code sg.1 sg.2.1 sg.2.2.1 sg.2.2.2.1 :: ms_T
def ms_v (ad : Nat → Nat) : Value → Value
  | .ref a => .ref (ad a)
  | v => v
theorem ms_v_cat (ad : Nat → Nat) (v : Value) : (ms_v ad v).category = v.category := by cases v <;> rfl
def ms_c (ad : Nat → Nat) (cA : Nat → ClassId) : mj_C → va_E
  | .inl (t, n, .inr (.inr (.inr (.inr f)))) => .inl (cA t, n, .inr (.inr (.inr (.inr (fun k => (f k).map ad)))))
  | .inl (t, n, .inl f) => .inl (cA t, n, .inl f)
  | .inl (t, n, .inr (.inl f)) => .inl (cA t, n, .inr (.inl f))
  | .inl (t, n, .inr (.inr (.inl f))) => .inl (cA t, n, .inr (.inr (.inl f)))
  | .inl (t, n, .inr (.inr (.inr (.inl f)))) => .inl (cA t, n, .inr (.inr (.inr (.inl f))))
  | .inr (ci, fs) => .inr (ci, fs.map (ms_v ad))
/-- the cells' places in the list: there are no cells 63, 64 -/
def ms_nm (i : Nat) : Nat := if i < 63 then i else i + 2
def ms_po (a : Nat) : Nat := if a < 63 then a else a - 2
def ms_re (N a : Nat) : Prop := a < N ∧ a ≠ 63 ∧ a ≠ 64
theorem ms_nm_po {N a : Nat} (h : ms_re N a) : ms_nm (ms_po a) = a := by
  obtain ⟨h1, h2, h3⟩ := h
  unfold ms_nm ms_po
  by_cases q : a < 63
  · simp [q]
  · have q2 : ¬ a - 2 < 63 := by omega
    simp [q, q2]
    omega
theorem ms_po_lt {N a : Nat} (hN : 65 ≤ N) (h : ms_re N a) : ms_po a < N - 2 := by
  obtain ⟨h1, h2, h3⟩ := h
  unfold ms_po
  split <;> omega
theorem ms_po_nm (i : Nat) : ms_po (ms_nm i) = i := by
  unfold ms_nm ms_po
  by_cases q : i < 63
  · simp [q]
  · have q2 : ¬ i + 2 < 63 := by omega
    simp [q, q2]
def ms_cells (ad : Nat → Nat) (cA : Nat → ClassId) (N : Nat) (h : mj_H) : va_W := (List.range (N - 2)).map fun i => (ad (ms_nm i), ms_c ad cA (h (ms_nm i)))
theorem ms_cells_at {ad : Nat → Nat} {cA : Nat → ClassId} {N : Nat} {h : mj_H} {a : Nat} (hN : 65 ≤ N) (ha : ms_re N a) : (ms_cells ad cA N h)[ms_po a]? = some (ad a, ms_c ad cA (h a)) := by
  unfold ms_cells
  rw [List.getElem?_map, List.getElem?_range (ms_po_lt hN ha)]
  show some (ad (ms_nm (ms_po a)), ms_c ad cA (h (ms_nm (ms_po a)))) = _
  rw [ms_nm_po ha]
theorem ms_cells_set {ad : Nat → Nat} {cA : Nat → ClassId} {N : Nat} {h : mj_H} {a : Nat} {c : mj_C} (hN : 65 ≤ N) (ha : ms_re N a) : (ms_cells ad cA N h).set (ms_po a) (ad a, ms_c ad cA c) = ms_cells ad cA N (mj_up h a c) := by
  apply List.ext_getElem?
  intro i
  rw [List.getElem?_set]
  have hl : (ms_cells ad cA N h).length = N - 2 := by simp [ms_cells]
  have hp := ms_po_lt hN ha
  by_cases hi : i < N - 2
  · have e1 : (ms_cells ad cA N h)[i]? = some (ad (ms_nm i), ms_c ad cA (h (ms_nm i))) := by
      unfold ms_cells
      rw [List.getElem?_map, List.getElem?_range hi]
      rfl
    have e2 : (ms_cells ad cA N (mj_up h a c))[i]? = some (ad (ms_nm i), ms_c ad cA (mj_up h a c (ms_nm i))) := by
      unfold ms_cells
      rw [List.getElem?_map, List.getElem?_range hi]
      rfl
    rw [e1, e2]
    by_cases e : ms_po a = i
    · subst e
      rw [if_pos rfl, if_pos (by rw [hl]; exact hp), ms_nm_po ha]
      simp [mj_up]
    · have e2 : ¬ ms_nm i = a := fun q => e (by rw [← q]; exact ms_po_nm i)
      rw [if_neg e]
      simp [mj_up, e2]
  · have h1 : (ms_cells ad cA N h)[i]? = none := List.getElem?_eq_none (by omega)
    have h2 : (ms_cells ad cA N (mj_up h a c))[i]? = none := List.getElem?_eq_none (by simp [ms_cells]; omega)
    rw [h1, h2]
    have : ms_po a ≠ i := by omega
    simp [this]
def ms_n6 : mj_C → Bool
  | .inl (t, _) => !(Nat.beq t 6)
  | .inr _ => true
/-- Hearsay's two rows, which nobody writes -/
def ms_lo (k : Nat) : Int32 := if k < 2 then 1 else 0
def ms_hi (k : Nat) : Int32 := if k < 2 then 12 else if k < 4 then 1 else 20
def ms_wf (N : Nat) (h : mj_H) : Prop := 65 ≤ N ∧ h 63 = .inr (98, []) ∧ h 64 = .inr (98, []) ∧ (∀ i, N ≤ i → h i = .inr (99, []) ∨ ∃ f, h i = .inl (6, 5, .inl f) ∧ ((i = 247 ∧ ∀ k, k < 5 → f k = ms_lo k) ∨ (i = 248 ∧ ∀ k, k < 5 → f k = ms_hi k))) ∧ ∀ i, i < N → ms_n6 (h i) = true
theorem ms_wf.lt {N : Nat} {h : mj_H} (hw : ms_wf N h) {a : Nat} {c : mj_C} (ha : h a = c) (hc : c ≠ .inr (99, []) ∧ c ≠ .inr (98, [])) (h6 : ms_n6 c = true) : ms_re N a := by
  refine ⟨?_, fun q => ?_, fun q => ?_⟩
  · rcases Nat.lt_or_ge a N with q | q
    · exact q
    · rcases hw.2.2.2.1 a q with z | ⟨f, z, -⟩
      · exact absurd (ha.symm.trans z) hc.1
      · rw [← ha, z] at h6
        cases h6
  · subst q
    exact hc.2 (ha.symm.trans hw.2.1)
  · subst q
    exact hc.2 (ha.symm.trans hw.2.2.1)
theorem ms_wf.six {N : Nat} {h : mj_H} (hw : ms_wf N h) {a n : Nat} {f : Nat → Int32} (ha : h a = .inl (6, n, .inl f)) : n = 5 ∧ ((a = 247 ∧ ∀ k, k < 5 → f k = ms_lo k) ∨ (a = 248 ∧ ∀ k, k < 5 → f k = ms_hi k)) := by
  rcases Nat.lt_or_ge a N with q | q
  · have z := hw.2.2.2.2 a q
    rw [ha] at z
    cases z
  · rcases hw.2.2.2.1 a q with z | ⟨g, z, z2⟩
    · rw [ha] at z
      cases z
    · rw [ha] at z
      cases z
      exact ⟨rfl, z2⟩
theorem ms_wf.up {N : Nat} {h : mj_H} (hw : ms_wf N h) {a : Nat} {c : mj_C} (ha : ms_re N a) (h6 : ms_n6 c = true) : ms_wf N (mj_up h a c) := by
  obtain ⟨a1, a2, a3⟩ := ha
  refine ⟨hw.1, ?_, ?_, fun i hi => ?_, fun i hi => ?_⟩
  · unfold mj_up
    rw [if_neg (fun q => a2 q.symm)]
    exact hw.2.1
  · unfold mj_up
    rw [if_neg (fun q => a3 q.symm)]
    exact hw.2.2.1
  · unfold mj_up
    rw [if_neg (by omega)]
    exact hw.2.2.2.1 i hi
  · unfold mj_up
    split
    · exact h6
    · exact hw.2.2.2.2 i hi
def ms_ll (ad : Nat → Nat) (L : mj_L) : List (Nat × Value) := (List.range L.length).filterMap fun i => match L[i]? with
  | some (some v) => some (i, ms_v ad v)
  | _ => none
theorem ms_ll_mem {ad : Nat → Nat} {L : mj_L} {i : Nat} {v : Value} (h : L[i]? = some (some v)) : (i, ms_v ad v) ∈ ms_ll ad L := by
  unfold ms_ll
  rw [List.mem_filterMap]
  refine ⟨i, List.mem_range.mpr (List.getElem?_eq_some_iff.mp h).1, ?_⟩
  rw [h]
theorem ms_ll_inv {ad : Nat → Nat} {L : mj_L} {q : Nat × Value} (h : q ∈ ms_ll ad L) : ∃ v, L[q.1]? = some (some v) ∧ q.2 = ms_v ad v := by
  unfold ms_ll at h
  rw [List.mem_filterMap] at h
  obtain ⟨i, -, h⟩ := h
  split at h
  next v e =>
    cases h
    exact ⟨v, e, rfl⟩
  next => cases h
def ms_L (ad : Nat → Nat) (nL : Nat) (L : mj_L) (ls : Array Slot) : Prop := L.length = nL ∧ lv_has ls nL (ms_ll ad L)
theorem ms_L.at {ad : Nat → Nat} {nL : Nat} {L : mj_L} {ls : Array Slot} (h : ms_L ad nL L ls) {i : Nat} {v : Value} (hv : L[i]? = some (some v)) : ls[i]? = some (.val (ms_v ad v)) := h.2.2.2 _ (ms_ll_mem hv)
theorem mj_blank_len (L : mj_L) (i : Nat) : (mj_blank L i).length = L.length := by
  cases i with
  | zero => rfl
  | succ j =>
    simp only [mj_blank]
    split <;> simp
theorem mj_blank_get {L : mj_L} {i j : Nat} {u : Value} (h : (mj_blank L i)[j]? = some (some u)) : L[j]? = some (some u) ∧ ¬ (j + 1 = i ∧ u.category = 2) := by
  cases i with
  | zero => exact ⟨h, fun q => by omega⟩
  | succ k =>
    simp only [mj_blank] at h
    split at h
    next x e =>
      rw [List.getElem?_set] at h
      by_cases hk : k = j
      · subst hk
        simp at h
      · rw [if_neg hk] at h
        exact ⟨h, fun q => hk (by omega)⟩
    next x e =>
      rw [List.getElem?_set] at h
      by_cases hk : k = j
      · subst hk
        simp at h
      · rw [if_neg hk] at h
        exact ⟨h, fun q => hk (by omega)⟩
    next n1 n2 =>
      refine ⟨h, fun q => ?_⟩
      obtain ⟨q1, q2⟩ := q
      have hk : k = j := by omega
      subst hk
      cases u with
      | long x => exact n1 x h
      | double x => exact n2 x h
      | _ => simp [Value.category] at q2
theorem ms_L.set1 {ad : Nat → Nat} {nL i : Nat} {L : mj_L} {v : Value} {ls' : Array Slot} (hn : L.length = nL) (h : lv_has ls' nL ((i, ms_v ad v) :: (ms_ll ad L).filter (fun q => !(q.1 == i) && !(q.1 + 1 == i && q.2.category == 2)))) : ms_L ad nL (mj_set1 L i v) ls' := by
  refine ⟨by simp [mj_set1, mj_blank_len, hn], h.1, h.2.1, fun q hq => ?_⟩
  obtain ⟨u, h1, h2⟩ := ms_ll_inv hq
  obtain ⟨j, w⟩ := q
  dsimp only at h1 h2
  subst h2
  unfold mj_set1 at h1
  rw [List.getElem?_set] at h1
  by_cases e : i = j
  · subst e
    rw [if_pos rfl] at h1
    split at h1
    next =>
      cases h1
      exact h.2.2 (i, ms_v ad v) List.mem_cons_self
    next => cases h1
  · rw [if_neg e] at h1
    obtain ⟨h3, h4⟩ := mj_blank_get h1
    refine h.2.2 (j, ms_v ad u) (List.mem_cons_of_mem _ (List.mem_filter.mpr ⟨ms_ll_mem h3, ?_⟩))
    dsimp only
    rw [ms_v_cat]
    simp only [Bool.and_eq_true, Bool.not_eq_true', beq_eq_false_iff_ne, ne_eq, Bool.and_eq_false_iff]
    refine ⟨fun q => e q.symm, ?_⟩
    by_cases e2 : j + 1 = i
    · exact Or.inr (fun q => h4 ⟨e2, q⟩)
    · exact Or.inl e2
theorem ms_L.set2 {ad : Nat → Nat} {nL i : Nat} {L : mj_L} {v : Value} {ls' : Array Slot} (hn : L.length = nL) (h : lv_has ls' nL ((i, ms_v ad v) :: (ms_ll ad L).filter (fun q => !(q.1 == i) && (!(q.1 == i + 1) && !(q.1 + 1 == i && q.2.category == 2))))) : ms_L ad nL (mj_set2 L i v) ls' := by
  refine ⟨by simp [mj_set2, mj_blank_len, hn], h.1, h.2.1, fun q hq => ?_⟩
  obtain ⟨u, h1, h2⟩ := ms_ll_inv hq
  obtain ⟨j, w⟩ := q
  dsimp only at h1 h2
  subst h2
  unfold mj_set2 at h1
  rw [List.getElem?_set] at h1
  by_cases e9 : i + 1 = j
  · subst e9
    rw [if_pos rfl] at h1
    split at h1
    next => cases h1
    next => cases h1
  rw [if_neg e9, List.getElem?_set] at h1
  by_cases e : i = j
  · subst e
    rw [if_pos rfl] at h1
    split at h1
    next =>
      cases h1
      exact h.2.2 (i, ms_v ad v) List.mem_cons_self
    next => cases h1
  · rw [if_neg e] at h1
    obtain ⟨h3, h4⟩ := mj_blank_get h1
    refine h.2.2 (j, ms_v ad u) (List.mem_cons_of_mem _ (List.mem_filter.mpr ⟨ms_ll_mem h3, ?_⟩))
    dsimp only
    rw [ms_v_cat]
    simp only [Bool.and_eq_true, Bool.not_eq_true', beq_eq_false_iff_ne, ne_eq, Bool.and_eq_false_iff]
    refine ⟨fun q => e q.symm, fun q => e9 q.symm, ?_⟩
    by_cases e2 : j + 1 = i
    · exact Or.inr (fun q => h4 ⟨e2, q⟩)
    · exact Or.inl e2
theorem ms_op2 {f : Int32 → Int32 → Int32} {L : mj_L} {nx : Nat} {st : List Value} {a : Nat} {b : mj_L} {c : List Value} (h : mj_op2 f L nx st = some (a, b, c)) : ∃ x y r, st = .int y :: .int x :: r ∧ a = nx ∧ b = L ∧ c = .int (f x y) :: r := by
  unfold mj_op2 at h
  split at h
  next y x r => cases h; exact ⟨x, y, r, rfl, rfl, rfl, rfl⟩
  next => cases h
theorem ms_op2l {f : Int64 → Int64 → Int64} {L : mj_L} {nx : Nat} {st : List Value} {a : Nat} {b : mj_L} {c : List Value} (h : mj_op2l f L nx st = some (a, b, c)) : ∃ x y r, st = .long y :: .long x :: r ∧ a = nx ∧ b = L ∧ c = .long (f x y) :: r := by
  unfold mj_op2l at h
  split at h
  next y x r => cases h; exact ⟨x, y, r, rfl, rfl, rfl, rfl⟩
  next => cases h
theorem ms_op1 {f : Int32 → Value} {L : mj_L} {nx : Nat} {st : List Value} {a : Nat} {b : mj_L} {c : List Value} (h : mj_op1 f L nx st = some (a, b, c)) : ∃ x r, st = .int x :: r ∧ a = nx ∧ b = L ∧ c = f x :: r := by
  unfold mj_op1 at h
  split at h
  next x r => cases h; exact ⟨x, r, rfl, rfl, rfl, rfl⟩
  next => cases h
theorem ms_op1l {f : Int64 → Value} {L : mj_L} {nx : Nat} {st : List Value} {a : Nat} {b : mj_L} {c : List Value} (h : mj_op1l f L nx st = some (a, b, c)) : ∃ x r, st = .long x :: r ∧ a = nx ∧ b = L ∧ c = f x :: r := by
  unfold mj_op1l at h
  split at h
  next x r => cases h; exact ⟨x, r, rfl, rfl, rfl, rfl⟩
  next => cases h
theorem ms_ldi {L : mj_L} {i nx : Nat} {st : List Value} {a : Nat} {b : mj_L} {c : List Value} (h : mj_ldi L i nx st = some (a, b, c)) : ∃ x, L[i]? = some (some (.int x)) ∧ a = nx ∧ b = L ∧ c = .int x :: st := by
  unfold mj_ldi at h
  split at h
  next x e => cases h; exact ⟨x, e, rfl, rfl, rfl⟩
  next => cases h
theorem ms_ldl {L : mj_L} {i nx : Nat} {st : List Value} {a : Nat} {b : mj_L} {c : List Value} (h : mj_ldl L i nx st = some (a, b, c)) : ∃ x, L[i]? = some (some (.long x)) ∧ a = nx ∧ b = L ∧ c = .long x :: st := by
  unfold mj_ldl at h
  split at h
  next x e => cases h; exact ⟨x, e, rfl, rfl, rfl⟩
  next => cases h
theorem ms_lda {L : mj_L} {i nx : Nat} {st : List Value} {a : Nat} {b : mj_L} {c : List Value} (h : mj_lda L i nx st = some (a, b, c)) : ∃ x, L[i]? = some (some (.ref x)) ∧ a = nx ∧ b = L ∧ c = .ref x :: st := by
  unfold mj_lda at h
  split at h
  next x e => cases h; exact ⟨x, e, rfl, rfl, rfl⟩
  next => cases h
theorem ms_sti {L : mj_L} {i nx : Nat} {st : List Value} {a : Nat} {b : mj_L} {c : List Value} (h : mj_sti L i nx st = some (a, b, c)) : ∃ x r, st = .int x :: r ∧ i < L.length ∧ a = nx ∧ b = mj_set1 L i (.int x) ∧ c = r := by
  unfold mj_sti at h
  split at h
  next x r =>
    split at h
    next e => cases h; exact ⟨x, _, rfl, Nat.le_of_ble_eq_true e, rfl, rfl, rfl⟩
    next => cases h
  next => cases h
theorem ms_sta {L : mj_L} {i nx : Nat} {st : List Value} {a : Nat} {b : mj_L} {c : List Value} (h : mj_sta L i nx st = some (a, b, c)) : ∃ x r, st = .ref x :: r ∧ i < L.length ∧ a = nx ∧ b = mj_set1 L i (.ref x) ∧ c = r := by
  unfold mj_sta at h
  split at h
  next x r =>
    split at h
    next e => cases h; exact ⟨x, _, rfl, Nat.le_of_ble_eq_true e, rfl, rfl, rfl⟩
    next => cases h
  next => cases h
theorem ms_stl {L : mj_L} {i nx : Nat} {st : List Value} {a : Nat} {b : mj_L} {c : List Value} (h : mj_stl L i nx st = some (a, b, c)) : ∃ x r, st = .long x :: r ∧ i + 1 < L.length ∧ a = nx ∧ b = mj_set2 L i (.long x) ∧ c = r := by
  unfold mj_stl at h
  split at h
  next x r =>
    split at h
    next e => cases h; exact ⟨x, _, rfl, Nat.le_of_ble_eq_true e, rfl, rfl, rfl⟩
    next => cases h
  next => cases h
theorem ms_inc {L : mj_L} {i nx : Nat} {cv : Int32} {st : List Value} {a : Nat} {b : mj_L} {c : List Value} (h : mj_inc L i nx cv st = some (a, b, c)) : ∃ x, L[i]? = some (some (.int x)) ∧ i < L.length ∧ a = nx ∧ b = mj_set1 L i (.int (x + cv)) ∧ c = st := by
  unfold mj_inc at h
  split at h
  next x e =>
    split at h
    next e1 => cases h; exact ⟨x, e, Nat.le_of_ble_eq_true e1, rfl, rfl, rfl⟩
    next => cases h
  next => cases h
theorem ms_one {v : Value} (h : mj_one v = true) : v.category = 1 := by cases v <;> first | rfl | cases h
section msPure
variable {p : Program} {l : Launch} {e : Env} {R : Room} {s : State} {m : MethodId} {args : Array Value} {below : List Frame} {meth : Method} {c : Code} {H : Heap} {locs : List Loc} {cells slots : Nat} {Q : State → Prop}
variable {own : String} {bs : ByteArray} {pc nx aux wi nL : Nat} {i : Instr} {cv : Int32} {L L' : mj_L} {st st' : List Value} {pc' : Nat} {ad : Nat → Nat} {ls : Array Slot}
theorem ms_split (hc : ms_chk own bs (pc, i, nx, aux, cv, wi) = true) : decode bs pc = .ok (i, ms_len i (nx - pc)) ∧ nx = pc + ms_len i (nx - pc) := by
  unfold ms_chk at hc
  simp only [Bool.and_eq_true, decide_eq_true_eq] at hc
  exact ⟨hc.1.1, Nat.eq_of_beq_eq_true hc.1.2⟩
theorem ms_pureW (hc : ms_chk own bs (pc, i, nx, aux, cv, wi) = true) (hp : mj_pure i nx aux cv L st = some (pc', L', st')) (hx : p.tables.exec = Jvm.exec) (hb : c.code = bs) (hown : s.vm.findClass own = some m.cls) (hts : ∀ w ∈ ms_T, w.before args s = true) (hl : ms_L ad nL L ls)
    (k : ∀ ls', ms_L ad nL L' ls' → W p l e R s m args below meth c H locs cells slots Q (F0 m pc' ls' (st'.map (ms_v ad)))) : W p l e R s m args below meth c H locs cells slots Q (F0 m pc ls (st.map (ms_v ad))) := by
  obtain ⟨hd, hn⟩ := ms_split hc
  cases i
  case iconst n =>
    cases hp
    simp only [ms_chk, Bool.and_eq_true, decide_eq_true_eq] at hc
    exact lv_iconst hx hb hd hc.2 (by rw [hn] at k; exact k ls hl)
  case bipush n =>
    cases hp
    simp only [ms_chk, Bool.and_eq_true, decide_eq_true_eq] at hc
    exact lv_bipush hx hb hd hc.2 (by rw [hn] at k; exact k ls hl)
  case sipush n =>
    cases hp
    simp only [ms_chk, Bool.and_eq_true, decide_eq_true_eq] at hc
    exact lv_sipush hx hb hd hc.2 (by rw [hn] at k; exact k ls hl)
  case ldc n =>
    cases hp
    simp only [ms_chk, Bool.and_eq_true, decide_eq_true_eq] at hc
    exact lv_ldc hx hb hown (hts _ (ms_in_ok hc.2)) hd (by rw [hn] at k; exact k ls hl)
  case ldc_w n =>
    cases hp
    simp only [ms_chk, Bool.and_eq_true, decide_eq_true_eq] at hc
    exact lv_ldcw hx hb hown (hts _ (ms_in_ok hc.2)) hd (by rw [hn] at k; exact k ls hl)
  case ldc2_w n =>
    cases hp
    simp only [ms_chk, Bool.and_eq_true, decide_eq_true_eq] at hc
    exact lv_ldc2 hx hb hown (hts _ (ms_in_ok hc.2)) hd (by rw [hn] at k; exact k ls hl)
  case lconst n =>
    match n, hp, hd with
    | 0, hp, hd => cases hp; exact lv_lconst hx hb hd rfl (by rw [hn] at k; exact k ls hl)
    | 1, hp, hd => cases hp; exact lv_lconst hx hb hd rfl (by rw [hn] at k; exact k ls hl)
  case iload_n n =>
    obtain ⟨x, h1, rfl, rfl, rfl⟩ := ms_ldi hp
    exact lv_iload_n hx hb hd rfl (hl.at h1) (by rw [hn] at k; exact k ls hl)
  case iload n =>
    obtain ⟨x, h1, rfl, rfl, rfl⟩ := ms_ldi hp
    exact lv_iload hx hb hd (hl.at h1) (by rw [hn] at k; exact k ls hl)
  case lload_n n =>
    obtain ⟨x, h1, rfl, rfl, rfl⟩ := ms_ldl hp
    exact lv_lload_n hx hb hd rfl (hl.at h1) (by rw [hn] at k; exact k ls hl)
  case lload n =>
    obtain ⟨x, h1, rfl, rfl, rfl⟩ := ms_ldl hp
    exact lv_lload hx hb hd (hl.at h1) (by rw [hn] at k; exact k ls hl)
  case aload_n n =>
    obtain ⟨x, h1, rfl, rfl, rfl⟩ := ms_lda hp
    exact lv_aload_n hx hb hd rfl (hl.at h1) (by rw [hn] at k; exact k ls hl)
  case aload n =>
    obtain ⟨x, h1, rfl, rfl, rfl⟩ := ms_lda hp
    exact lv_aload hx hb hd (hl.at h1) (by rw [hn] at k; exact k ls hl)
  case istore_n n =>
    obtain ⟨x, r, rfl, h1, rfl, rfl, rfl⟩ := ms_sti hp
    exact lv_istore_n hx hb hd rfl hl.2 (by rw [← hl.1]; exact h1) rfl (fun ls' h' => by rw [hn] at k; exact k ls' (ms_L.set1 hl.1 h'))
  case istore n =>
    obtain ⟨x, r, rfl, h1, rfl, rfl, rfl⟩ := ms_sti hp
    exact lv_istore hx hb hd hl.2 (by rw [← hl.1]; exact h1) rfl (fun ls' h' => by rw [hn] at k; exact k ls' (ms_L.set1 hl.1 h'))
  case lstore_n n =>
    obtain ⟨x, r, rfl, h1, rfl, rfl, rfl⟩ := ms_stl hp
    exact lv_lstore_n hx hb hd rfl hl.2 (by rw [← hl.1]; exact h1) rfl (fun ls' h' => by rw [hn] at k; exact k ls' (ms_L.set2 hl.1 h'))
  case lstore n =>
    obtain ⟨x, r, rfl, h1, rfl, rfl, rfl⟩ := ms_stl hp
    exact lv_lstore hx hb hd hl.2 (by rw [← hl.1]; exact h1) rfl (fun ls' h' => by rw [hn] at k; exact k ls' (ms_L.set2 hl.1 h'))
  case astore_n n =>
    obtain ⟨x, r, rfl, h1, rfl, rfl, rfl⟩ := ms_sta hp
    exact lv_astore_n hx hb hd rfl hl.2 (by rw [← hl.1]; exact h1) rfl (fun ls' h' => by rw [hn] at k; exact k ls' (ms_L.set1 hl.1 h'))
  case astore n =>
    obtain ⟨x, r, rfl, h1, rfl, rfl, rfl⟩ := ms_sta hp
    exact lv_astore hx hb hd hl.2 (by rw [← hl.1]; exact h1) rfl (fun ls' h' => by rw [hn] at k; exact k ls' (ms_L.set1 hl.1 h'))
  case iinc n v =>
    obtain ⟨x, h1, h2, rfl, rfl, rfl⟩ := ms_inc hp
    simp only [ms_chk, Bool.and_eq_true, decide_eq_true_eq] at hc
    obtain ⟨j, hj⟩ := List.getElem?_of_mem (ms_ll_mem (ad := ad) h1)
    exact lv_iinc hx hb hd hl.2 hj (by rw [hc.2]) (by rw [← hl.1]; exact h2) rfl (fun ls' h' => by rw [hn] at k; exact k ls' (ms_L.set1 hl.1 h'))
  case iadd => obtain ⟨x, y, r, rfl, rfl, rfl, rfl⟩ := ms_op2 (f := fun x y => x + y) hp; exact lv_iadd hx hb hd (by rw [hn] at k; exact k ls hl)
  case isub => obtain ⟨x, y, r, rfl, rfl, rfl, rfl⟩ := ms_op2 (f := fun x y => x - y) hp; exact lv_isub hx hb hd (by rw [hn] at k; exact k ls hl)
  case imul => obtain ⟨x, y, r, rfl, rfl, rfl, rfl⟩ := ms_op2 (f := fun x y => x * y) hp; exact lv_imul hx hb hd (by rw [hn] at k; exact k ls hl)
  case iand => obtain ⟨x, y, r, rfl, rfl, rfl, rfl⟩ := ms_op2 (f := fun x y => x &&& y) hp; exact lv_iand hx hb hd (by rw [hn] at k; exact k ls hl)
  case ior => obtain ⟨x, y, r, rfl, rfl, rfl, rfl⟩ := ms_op2 (f := fun x y => x ||| y) hp; exact lv_ior hx hb hd (by rw [hn] at k; exact k ls hl)
  case ixor => obtain ⟨x, y, r, rfl, rfl, rfl, rfl⟩ := ms_op2 (f := fun x y => x ^^^ y) hp; exact lv_ixor hx hb hd (by rw [hn] at k; exact k ls hl)
  case ishl => obtain ⟨x, y, r, rfl, rfl, rfl, rfl⟩ := ms_op2 (f := fun x y => x <<< (y &&& 31)) hp; exact lv_ishl hx hb hd (by rw [hn] at k; exact k ls hl)
  case ishr => obtain ⟨x, y, r, rfl, rfl, rfl, rfl⟩ := ms_op2 (f := fun x y => x >>> (y &&& 31)) hp; exact lv_ishr hx hb hd (by rw [hn] at k; exact k ls hl)
  case iushr => obtain ⟨x, y, r, rfl, rfl, rfl, rfl⟩ := ms_op2 (f := mj_ushr) hp; exact lv_iushr hx hb hd rfl (by rw [hn] at k; exact k ls hl)
  case ladd => obtain ⟨x, y, r, rfl, rfl, rfl, rfl⟩ := ms_op2l (f := fun x y => x + y) hp; exact lv_ladd hx hb hd (by rw [hn] at k; exact k ls hl)
  case lsub => obtain ⟨x, y, r, rfl, rfl, rfl, rfl⟩ := ms_op2l (f := fun x y => x - y) hp; exact lv_lsub hx hb hd (by rw [hn] at k; exact k ls hl)
  case lmul => obtain ⟨x, y, r, rfl, rfl, rfl, rfl⟩ := ms_op2l (f := fun x y => x * y) hp; exact lv_lmul hx hb hd (by rw [hn] at k; exact k ls hl)
  case i2l => obtain ⟨x, r, rfl, rfl, rfl, rfl⟩ := ms_op1 (f := fun x => .long x.toInt64) hp; exact lv_i2l hx hb hd rfl (by rw [hn] at k; exact k ls hl)
  case i2b => obtain ⟨x, r, rfl, rfl, rfl, rfl⟩ := ms_op1 (f := fun x => .int x.toInt8.toInt32) hp; exact lv_i2b hx hb hd rfl (by rw [hn] at k; exact k ls hl)
  case i2s => obtain ⟨x, r, rfl, rfl, rfl, rfl⟩ := ms_op1 (f := fun x => .int x.toInt16.toInt32) hp; exact lv_i2s hx hb hd rfl (by rw [hn] at k; exact k ls hl)
  case i2c => obtain ⟨x, r, rfl, rfl, rfl, rfl⟩ := ms_op1 (f := fun x => .int (x.toUInt32 % 65536).toInt32) hp; exact lv_i2c hx hb hd rfl (by rw [hn] at k; exact k ls hl)
  case l2i => obtain ⟨x, r, rfl, rfl, rfl, rfl⟩ := ms_op1l (f := fun x => .int x.toInt32) hp; exact lv_l2i hx hb hd rfl (by rw [hn] at k; exact k ls hl)
  case lneg => obtain ⟨x, r, rfl, rfl, rfl, rfl⟩ := ms_op1l (f := fun x => .long (-x)) hp; exact lv_lneg hx hb hd (by rw [hn] at k; exact k ls hl)
  case lcmp =>
    simp only [mj_pure] at hp
    split at hp
    next y x r => cases hp; exact W.lcmp hx hb hd (by rw [hn] at k; exact k ls hl)
    next => cases hp
  case dup =>
    simp only [mj_pure] at hp
    split at hp
    next v r =>
      split at hp
      next e1 => cases hp; exact lv_dup hx hb hd (by rw [ms_v_cat]; exact ms_one e1) (by rw [hn] at k; exact k ls hl)
      next => cases hp
    next => cases hp
  case pop =>
    simp only [mj_pure] at hp
    split at hp
    next v r =>
      split at hp
      next e1 => cases hp; exact lv_pop hx hb hd (by rw [ms_v_cat]; exact ms_one e1) (by rw [hn] at k; exact k ls hl)
      next => cases hp
    next => cases hp
  case dup_x1 =>
    simp only [mj_pure] at hp
    split at hp
    next v w r =>
      split at hp
      next e1 =>
        simp only [Bool.and_eq_true] at e1
        cases hp
        exact lv_dup_x1 hx hb hd (by rw [ms_v_cat]; exact ms_one e1.1) (by rw [ms_v_cat]; exact ms_one e1.2) (by rw [hn] at k; exact k ls hl)
      next => cases hp
    next => cases hp
  case dup2 =>
    simp only [mj_pure] at hp
    split at hp
    next v w r =>
      split at hp
      next e1 =>
        simp only [Bool.and_eq_true] at e1
        cases hp
        exact lv_dup2_11 hx hb hd (by rw [ms_v_cat]; exact ms_one e1.1) (by rw [ms_v_cat]; exact ms_one e1.2) (by rw [hn] at k; exact k ls hl)
      next => cases hp
    next => cases hp
  case goto o =>
    cases hp
    simp only [ms_chk, Bool.and_eq_true, decide_eq_true_eq] at hc
    exact lv_goto hx hb hd hc.2 (k ls hl)
  all_goals (cases hp)
end msPure
