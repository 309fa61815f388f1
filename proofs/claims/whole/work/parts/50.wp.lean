/-! a run does no worse where more is known of the locals -/
def mj_le (L L' : mj_L) : Prop := L.length = L'.length ∧ ∀ (i : Nat) (v : Value), L[i]? = some (some v) → L'[i]? = some (some v)
theorem mj_blank_put {L : mj_L} {i j : Nat} {u : Value} (h : L[j]? = some (some u)) (hn : ¬ (j + 1 = i ∧ u.category = 2)) : (mj_blank L i)[j]? = some (some u) := by
  cases i with
  | zero => exact h
  | succ i =>
    simp only [mj_blank]
    split
    next z e =>
      rw [List.getElem?_set_ne (fun q => hn ⟨by omega, by subst q; rw [h] at e; cases e; rfl⟩)]
      exact h
    next z e =>
      rw [List.getElem?_set_ne (fun q => hn ⟨by omega, by subst q; rw [h] at e; cases e; rfl⟩)]
      exact h
    next => exact h
theorem mj_le.blank {L L' : mj_L} (h : mj_le L L') (i : Nat) : mj_le (mj_blank L i) (mj_blank L' i) := by
  refine ⟨by rw [mj_blank_len, mj_blank_len]; exact h.1, fun j v e => ?_⟩
  obtain ⟨e1, e2⟩ := mj_blank_get e
  exact mj_blank_put (h.2 _ _ e1) e2
theorem mj_le.set {L L' : mj_L} (h : mj_le L L') (i : Nat) (x : Option Value) : mj_le (L.set i x) (L'.set i x) := by
  refine ⟨by rw [List.length_set, List.length_set]; exact h.1, fun j v e => ?_⟩
  rw [List.getElem?_set] at e ⊢
  split at e
  next q =>
    subst q
    rw [if_pos rfl, ← h.1]
    exact e
  next q =>
    rw [if_neg q]
    exact h.2 _ _ e
theorem mj_le.set1 {L L' : mj_L} (h : mj_le L L') (i : Nat) (v : Value) : mj_le (mj_set1 L i v) (mj_set1 L' i v) := (h.blank i).set i _
theorem mj_le.set2 {L L' : mj_L} (h : mj_le L L') (i : Nat) (v : Value) : mj_le (mj_set2 L i v) (mj_set2 L' i v) := ((h.blank i).set i _).set (i + 1) _
theorem mj_le_ldi {L L' : mj_L} (hle : mj_le L L') {k nx : Nat} {st : List Value} {pc' : Nat} {L1 : mj_L} {st1 : List Value} (h : mj_ldi L k nx st = some (pc', L1, st1)) : ∃ L2, mj_ldi L' k nx st = some (pc', L2, st1) ∧ mj_le L1 L2 := by
  obtain ⟨x, e, rfl, rfl, rfl⟩ := ms_ldi h
  exact ⟨L', by unfold mj_ldi; rw [hle.2 _ _ e], hle⟩
theorem mj_le_ldl {L L' : mj_L} (hle : mj_le L L') {k nx : Nat} {st : List Value} {pc' : Nat} {L1 : mj_L} {st1 : List Value} (h : mj_ldl L k nx st = some (pc', L1, st1)) : ∃ L2, mj_ldl L' k nx st = some (pc', L2, st1) ∧ mj_le L1 L2 := by
  obtain ⟨x, e, rfl, rfl, rfl⟩ := ms_ldl h
  exact ⟨L', by unfold mj_ldl; rw [hle.2 _ _ e], hle⟩
theorem mj_le_lda {L L' : mj_L} (hle : mj_le L L') {k nx : Nat} {st : List Value} {pc' : Nat} {L1 : mj_L} {st1 : List Value} (h : mj_lda L k nx st = some (pc', L1, st1)) : ∃ L2, mj_lda L' k nx st = some (pc', L2, st1) ∧ mj_le L1 L2 := by
  obtain ⟨x, e, rfl, rfl, rfl⟩ := ms_lda h
  exact ⟨L', by unfold mj_lda; rw [hle.2 _ _ e], hle⟩
theorem mj_le_sti {L L' : mj_L} (hle : mj_le L L') {k nx : Nat} {st : List Value} {pc' : Nat} {L1 : mj_L} {st1 : List Value} (h : mj_sti L k nx st = some (pc', L1, st1)) : ∃ L2, mj_sti L' k nx st = some (pc', L2, st1) ∧ mj_le L1 L2 := by
  obtain ⟨x, r, rfl, hi, rfl, rfl, rfl⟩ := ms_sti h
  refine ⟨_, ?_, hle.set1 k _⟩
  unfold mj_sti
  dsimp only
  rw [show Nat.ble (k + 1) L'.length = true from Nat.ble_eq_true_of_le (by rw [← hle.1]; exact hi)]
theorem mj_le_sta {L L' : mj_L} (hle : mj_le L L') {k nx : Nat} {st : List Value} {pc' : Nat} {L1 : mj_L} {st1 : List Value} (h : mj_sta L k nx st = some (pc', L1, st1)) : ∃ L2, mj_sta L' k nx st = some (pc', L2, st1) ∧ mj_le L1 L2 := by
  obtain ⟨x, r, rfl, hi, rfl, rfl, rfl⟩ := ms_sta h
  refine ⟨_, ?_, hle.set1 k _⟩
  unfold mj_sta
  dsimp only
  rw [show Nat.ble (k + 1) L'.length = true from Nat.ble_eq_true_of_le (by rw [← hle.1]; exact hi)]
theorem mj_le_stl {L L' : mj_L} (hle : mj_le L L') {k nx : Nat} {st : List Value} {pc' : Nat} {L1 : mj_L} {st1 : List Value} (h : mj_stl L k nx st = some (pc', L1, st1)) : ∃ L2, mj_stl L' k nx st = some (pc', L2, st1) ∧ mj_le L1 L2 := by
  obtain ⟨x, r, rfl, hi, rfl, rfl, rfl⟩ := ms_stl h
  refine ⟨_, ?_, hle.set2 k _⟩
  unfold mj_stl
  dsimp only
  rw [show Nat.ble (k + 2) L'.length = true from Nat.ble_eq_true_of_le (by rw [← hle.1]; exact hi)]
theorem mj_le_inc {L L' : mj_L} (hle : mj_le L L') {k nx : Nat} {cv : Int32} {st : List Value} {pc' : Nat} {L1 : mj_L} {st1 : List Value} (h : mj_inc L k nx cv st = some (pc', L1, st1)) : ∃ L2, mj_inc L' k nx cv st = some (pc', L2, st1) ∧ mj_le L1 L2 := by
  obtain ⟨x, e, hi, rfl, rfl, rfl⟩ := ms_inc h
  refine ⟨_, ?_, hle.set1 k _⟩
  unfold mj_inc
  rw [hle.2 _ _ e]
  dsimp only
  rw [show Nat.ble (k + 1) L'.length = true from Nat.ble_eq_true_of_le (by rw [← hle.1]; exact hi)]
theorem mj_pure_le {i : Instr} {nx aux : Nat} {cv : Int32} {L L' : mj_L} {st : List Value} {pc' : Nat} {L1 : mj_L} {st1 : List Value} (hle : mj_le L L') (h : mj_pure i nx aux cv L st = some (pc', L1, st1)) : ∃ L2, mj_pure i nx aux cv L' st = some (pc', L2, st1) ∧ mj_le L1 L2 := by
  cases i
  case iload_n k => exact mj_le_ldi hle h
  case iload k => exact mj_le_ldi hle h
  case lload_n k => exact mj_le_ldl hle h
  case lload k => exact mj_le_ldl hle h
  case aload_n k => exact mj_le_lda hle h
  case aload k => exact mj_le_lda hle h
  case istore_n k => exact mj_le_sti hle h
  case istore k => exact mj_le_sti hle h
  case lstore_n k => exact mj_le_stl hle h
  case lstore k => exact mj_le_stl hle h
  case astore_n k => exact mj_le_sta hle h
  case astore k => exact mj_le_sta hle h
  case iinc k z => exact mj_le_inc hle h
  all_goals
    unfold mj_pure at h ⊢
    dsimp only at h ⊢
    first
      | (cases h; exact ⟨L', rfl, hle⟩)
      | cases h
      | (repeat' split at h)
    all_goals first
      | (cases h; exact ⟨L', rfl, hle⟩)
      | (cases h)
      | (simp only [Option.some.injEq, Prod.mk.injEq] at h; obtain ⟨rfl, rfl, rfl⟩ := h; refine ⟨L', ?_, hle⟩; simp_all)
theorem mj_run_le {B : mj_B} {ty : Option FieldType} {cs : List mj_E} : ∀ (n : Nat) {Q : Option Value → mj_H → Prop} {h : mj_H} {pc : Nat} {L L' : mj_L} {st : List Value}, mj_le L L' → mj_run B ty cs n Q h pc L st → mj_run B ty cs n Q h pc L' st := by
  intro n
  induction n with
  | zero => intro Q h pc L L' st _ hr; exact hr.elim
  | succ n ih =>
    intro Q h pc L L' st hle hr
    obtain ⟨i, nx, aux, cv, hat, hr⟩ := hr
    refine ⟨i, nx, aux, cv, hat, ?_⟩
    rcases hr with ⟨a, b, c, e, hr⟩ | ⟨q, c, e, hr⟩ | ⟨q, c, e, hq, hr⟩ | ⟨t, c, e, hr⟩ | ⟨c, g, e, hr⟩ | ⟨a, b, r1, g, e, hB1, hr⟩ | ⟨v, e, hr⟩
    · obtain ⟨L2, e2, h2⟩ := mj_pure_le hle e
      exact Or.inl ⟨a, L2, c, e2, ih h2 hr⟩
    · rcases hr with ⟨hq, hr⟩ | ⟨hq, hr⟩
      · exact Or.inr (Or.inl ⟨q, c, e, Or.inl ⟨hq, ih hle hr⟩⟩)
      · exact Or.inr (Or.inl ⟨q, c, e, Or.inr ⟨hq, ih hle hr⟩⟩)
    · exact Or.inr (Or.inr (Or.inl ⟨q, c, e, hq, ih hle hr⟩))
    · exact Or.inr (Or.inr (Or.inr (Or.inl ⟨t, c, e, ih hle hr⟩)))
    · exact Or.inr (Or.inr (Or.inr (Or.inr (Or.inl ⟨c, g, e, ih hle hr⟩))))
    · exact Or.inr (Or.inr (Or.inr (Or.inr (Or.inr (Or.inl ⟨a, b, r1, g, e, hB1, ih hle hr⟩)))))
    · exact Or.inr (Or.inr (Or.inr (Or.inr (Or.inr (Or.inr ⟨v, e, hr⟩)))))
theorem mj_less {d : Nat} {ty : Option FieldType} {cs : List mj_E} {Q : Option Value → mj_H → Prop} {h : mj_H} {pc : Nat} {L L' : mj_L} {st : List Value} (k : mj_Rn d ty cs Q h pc L st) (hle : mj_le L L') : mj_Rn d ty cs Q h pc L' st := by
  obtain ⟨n, k⟩ := k
  exact ⟨n, mj_run_le n hle k⟩
theorem le0 : mj_le [] [] := ⟨rfl, fun _ _ e => e⟩
theorem leS {x : Option Value} {r s : mj_L} (h : mj_le r s) : mj_le (x :: r) (x :: s) := ⟨by simp [h.1], fun i v e => by
  cases i with
  | zero => exact e
  | succ i => exact h.2 i v e⟩
theorem leN {x : Option Value} {r s : mj_L} (h : mj_le r s) : mj_le (none :: r) (x :: s) := ⟨by simp [h.1], fun i v e => by
  cases i with
  | zero => cases e
  | succ i => exact h.2 i v e⟩
/-! a method told by what must hold behind it -/
abbrev wK : Type := Int32 → (Nat → Nat → Int32) → (Nat → Nat → Int64) → (Nat → Nat → Option Nat) → Prop
abbrev wKl : Type := Int64 → (Nat → Nat → Int32) → (Nat → Nat → Int64) → (Nat → Nat → Option Nat) → Prop
abbrev wKv : Type := (Nat → Nat → Int32) → (Nat → Nat → Int64) → (Nat → Nat → Option Nat) → Prop
def wQ (K : wK) : Option Value → mj_H → Prop := fun r g => ∃ v M ML R, r = some (.int v) ∧ g = fm_mk (M, ML, R) ∧ K v M ML R
def wQl (K : wKl) : Option Value → mj_H → Prop := fun r g => ∃ v M ML R, r = some (.long v) ∧ g = fm_mk (M, ML, R) ∧ K v M ML R
def wQv (K : wKv) : Option Value → mj_H → Prop := fun r g => ∃ M ML R, r = none ∧ g = fm_mk (M, ML, R) ∧ K M ML R
def wI (d k : Nat) (as : List Value) (M : Nat → Nat → Int32) (ML : Nat → Nat → Int64) (R : Nat → Nat → Option Nat) (K : wK) : Prop := mj_Mt d k as (fm_mk (M, ML, R)) (wQ K)
def wL (d k : Nat) (as : List Value) (M : Nat → Nat → Int32) (ML : Nat → Nat → Int64) (R : Nat → Nat → Option Nat) (K : wKl) : Prop := mj_Mt d k as (fm_mk (M, ML, R)) (wQl K)
def wV (d k : Nat) (as : List Value) (M : Nat → Nat → Int32) (ML : Nat → Nat → Int64) (R : Nat → Nat → Option Nat) (K : wKv) : Prop := mj_Mt d k as (fm_mk (M, ML, R)) (wQv K)
/-- a contract that stands already -/
theorem wI_of {d d' k : Nat} {as : List Value} {M M' : Nat → Nat → Int32} {ML ML' : Nat → Nat → Int64} {R R' : Nat → Nat → Option Nat} {v : Int32} {K : wK} (t : mj_big d' k as (fm_mk (M, ML, R)) (some (.int v)) (fm_mk (M', ML', R'))) (hd : d' ≤ d) (h : K v M' ML' R') : wI d k as M ML R K := ⟨_, _, mj_big_le hd t, v, M', ML', R', rfl, rfl, h⟩
theorem wL_of {d d' k : Nat} {as : List Value} {M M' : Nat → Nat → Int32} {ML ML' : Nat → Nat → Int64} {R R' : Nat → Nat → Option Nat} {v : Int64} {K : wKl} (t : mj_big d' k as (fm_mk (M, ML, R)) (some (.long v)) (fm_mk (M', ML', R'))) (hd : d' ≤ d) (h : K v M' ML' R') : wL d k as M ML R K := ⟨_, _, mj_big_le hd t, v, M', ML', R', rfl, rfl, h⟩
theorem wV_of {d d' k : Nat} {as : List Value} {M M' : Nat → Nat → Int32} {ML ML' : Nat → Nat → Int64} {R R' : Nat → Nat → Option Nat} {K : wKv} (t : mj_big d' k as (fm_mk (M, ML, R)) none (fm_mk (M', ML', R'))) (hd : d' ≤ d) (h : K M' ML' R') : wV d k as M ML R K := ⟨_, _, mj_big_le hd t, M', ML', R', rfl, rfl, h⟩
theorem wI_imp {d d' k : Nat} {as : List Value} {M : Nat → Nat → Int32} {ML : Nat → Nat → Int64} {R : Nat → Nat → Option Nat} {K K' : wK} (hd : d' ≤ d) (h : wI d' k as M ML R K) (hk : ∀ v M' ML' R', K v M' ML' R' → K' v M' ML' R') : wI d k as M ML R K' := (mj_Mt.le hd h).imp (fun r g ⟨v, M', ML', R', h1, h2, h3⟩ => ⟨v, M', ML', R', h1, h2, hk _ _ _ _ h3⟩)
theorem wL_imp {d d' k : Nat} {as : List Value} {M : Nat → Nat → Int32} {ML : Nat → Nat → Int64} {R : Nat → Nat → Option Nat} {K K' : wKl} (hd : d' ≤ d) (h : wL d' k as M ML R K) (hk : ∀ v M' ML' R', K v M' ML' R' → K' v M' ML' R') : wL d k as M ML R K' := (mj_Mt.le hd h).imp (fun r g ⟨v, M', ML', R', h1, h2, h3⟩ => ⟨v, M', ML', R', h1, h2, hk _ _ _ _ h3⟩)
theorem wV_imp {d d' k : Nat} {as : List Value} {M : Nat → Nat → Int32} {ML : Nat → Nat → Int64} {R : Nat → Nat → Option Nat} {K K' : wKv} (hd : d' ≤ d) (h : wV d' k as M ML R K) (hk : ∀ M' ML' R', K M' ML' R' → K' M' ML' R') : wV d k as M ML R K' := (mj_Mt.le hd h).imp (fun r g ⟨M', ML', R', h1, h2, h3⟩ => ⟨M', ML', R', h1, h2, hk _ _ _ h3⟩)
section wpRules
variable {d : Nat} {ty : Option FieldType} {cs : List mj_E} {Q : Option Value → mj_H → Prop} {M : Nat → Nat → Int32} {ML : Nat → Nat → Int64} {R : Nat → Nat → Option Nat} {pc : Nat} {L : mj_L} {st : List Value}
theorem mj_wIs {ix nx aux : Nat} {cv : Int32} {sg : mj_S} {as rest : List Value} {K : wK} (hW : wI d aux as M ML R K) (h1 : mj_at cs pc = some (.invokestatic ix, nx, aux, cv)) (hsg : mj_sigs[aux]? = some sg) (hst : st = as.reverse ++ rest) (hn : as.length = sg.2.2.2.2.1) (hr : Nat.ble (rest.map fun v => v.category).sum 8 = true) (hs : sg.2.2.2.2.2.1 = true) (kk : ∀ v M1 L1 R1, K v M1 L1 R1 → mj_Rn d ty cs Q (fm_mk (M1, L1, R1)) nx L (.int v :: rest)) : mj_Rn d ty cs Q (fm_mk (M, ML, R)) pc L st :=
  mj_cs h1 hsg hst hn hr hs hW (fun r g q => by obtain ⟨v, M1, L1, R1, rfl, rfl, h3⟩ := q; exact kk v M1 L1 R1 h3)
theorem mj_wIv {ix nx aux : Nat} {cv : Int32} {sg : mj_S} {b ci : Nat} {bs rest fs : List Value} {K : wK} (hW : wI d aux (.ref b :: bs) M ML R K) (hb : fm_mk (M, ML, R) b = .inr (ci, fs)) (h1 : mj_at cs pc = some (.invokevirtual ix, nx, aux, cv)) (hsg : mj_sigs[aux]? = some sg) (hst : st = (Value.ref b :: bs).reverse ++ rest) (hn : (Value.ref b :: bs).length = sg.2.2.2.2.1) (hr : Nat.ble (rest.map fun v => v.category).sum 8 = true) (hs : sg.2.2.2.2.2.1 = false ∧ sg.2.2.2.2.2.2.1 = ci) (kk : ∀ v M1 L1 R1, K v M1 L1 R1 → mj_Rn d ty cs Q (fm_mk (M1, L1, R1)) nx L (.int v :: rest)) : mj_Rn d ty cs Q (fm_mk (M, ML, R)) pc L st := by
  obtain ⟨hs, rfl⟩ := hs
  exact mj_cv hb h1 hsg hst hn hr hs hW (fun r g q => by obtain ⟨v, M1, L1, R1, rfl, rfl, h3⟩ := q; exact kk v M1 L1 R1 h3)
theorem mj_wLs {ix nx aux : Nat} {cv : Int32} {sg : mj_S} {as rest : List Value} {K : wKl} (hW : wL d aux as M ML R K) (h1 : mj_at cs pc = some (.invokestatic ix, nx, aux, cv)) (hsg : mj_sigs[aux]? = some sg) (hst : st = as.reverse ++ rest) (hn : as.length = sg.2.2.2.2.1) (hr : Nat.ble (rest.map fun v => v.category).sum 8 = true) (hs : sg.2.2.2.2.2.1 = true) (kk : ∀ v M1 L1 R1, K v M1 L1 R1 → mj_Rn d ty cs Q (fm_mk (M1, L1, R1)) nx L (.long v :: rest)) : mj_Rn d ty cs Q (fm_mk (M, ML, R)) pc L st :=
  mj_cs h1 hsg hst hn hr hs hW (fun r g q => by obtain ⟨v, M1, L1, R1, rfl, rfl, h3⟩ := q; exact kk v M1 L1 R1 h3)
theorem mj_wLv {ix nx aux : Nat} {cv : Int32} {sg : mj_S} {b ci : Nat} {bs rest fs : List Value} {K : wKl} (hW : wL d aux (.ref b :: bs) M ML R K) (hb : fm_mk (M, ML, R) b = .inr (ci, fs)) (h1 : mj_at cs pc = some (.invokevirtual ix, nx, aux, cv)) (hsg : mj_sigs[aux]? = some sg) (hst : st = (Value.ref b :: bs).reverse ++ rest) (hn : (Value.ref b :: bs).length = sg.2.2.2.2.1) (hr : Nat.ble (rest.map fun v => v.category).sum 8 = true) (hs : sg.2.2.2.2.2.1 = false ∧ sg.2.2.2.2.2.2.1 = ci) (kk : ∀ v M1 L1 R1, K v M1 L1 R1 → mj_Rn d ty cs Q (fm_mk (M1, L1, R1)) nx L (.long v :: rest)) : mj_Rn d ty cs Q (fm_mk (M, ML, R)) pc L st := by
  obtain ⟨hs, rfl⟩ := hs
  exact mj_cv hb h1 hsg hst hn hr hs hW (fun r g q => by obtain ⟨v, M1, L1, R1, rfl, rfl, h3⟩ := q; exact kk v M1 L1 R1 h3)
theorem mj_wVs {ix nx aux : Nat} {cv : Int32} {sg : mj_S} {as rest : List Value} {K : wKv} (hW : wV d aux as M ML R K) (h1 : mj_at cs pc = some (.invokestatic ix, nx, aux, cv)) (hsg : mj_sigs[aux]? = some sg) (hst : st = as.reverse ++ rest) (hn : as.length = sg.2.2.2.2.1) (hr : Nat.ble (rest.map fun v => v.category).sum 8 = true) (hs : sg.2.2.2.2.2.1 = true) (kk : ∀ M1 L1 R1, K M1 L1 R1 → mj_Rn d ty cs Q (fm_mk (M1, L1, R1)) nx L rest) : mj_Rn d ty cs Q (fm_mk (M, ML, R)) pc L st :=
  mj_cs h1 hsg hst hn hr hs hW (fun r g q => by obtain ⟨M1, L1, R1, rfl, rfl, h3⟩ := q; exact kk M1 L1 R1 h3)
theorem mj_wVv {ix nx aux : Nat} {cv : Int32} {sg : mj_S} {b ci : Nat} {bs rest fs : List Value} {K : wKv} (hW : wV d aux (.ref b :: bs) M ML R K) (hb : fm_mk (M, ML, R) b = .inr (ci, fs)) (h1 : mj_at cs pc = some (.invokevirtual ix, nx, aux, cv)) (hsg : mj_sigs[aux]? = some sg) (hst : st = (Value.ref b :: bs).reverse ++ rest) (hn : (Value.ref b :: bs).length = sg.2.2.2.2.1) (hr : Nat.ble (rest.map fun v => v.category).sum 8 = true) (hs : sg.2.2.2.2.2.1 = false ∧ sg.2.2.2.2.2.2.1 = ci) (kk : ∀ M1 L1 R1, K M1 L1 R1 → mj_Rn d ty cs Q (fm_mk (M1, L1, R1)) nx L rest) : mj_Rn d ty cs Q (fm_mk (M, ML, R)) pc L st := by
  obtain ⟨hs, rfl⟩ := hs
  exact mj_cv hb h1 hsg hst hn hr hs hW (fun r g q => by obtain ⟨M1, L1, R1, rfl, rfl, h3⟩ := q; exact kk M1 L1 R1 h3)
theorem fn_ld6 {nx aux a n : Nat} {cv : Int32} {r : List Value} {j : Int32} (hs : fm_sh a = .inl (6, n)) (h1 : mj_at cs pc = some (.iaload, nx, aux, cv)) (hj : vp_in j n) (kk : mj_Rn d ty cs Q (fm_mk (M, ML, R)) nx L (.int (M a j.toNatClampNeg) :: r)) : mj_Rn d ty cs Q (fm_mk (M, ML, R)) pc L (.int j :: .ref a :: r) :=
  mj_iald6 (fm_a hs) hj h1 kk
theorem fn_ldk {nx aux a n k : Nat} {cv : Int32} {r : List Value} {j : Int32} (hj : j = nI k) (hk : k < n) (hn : Nat.ble n 4096 = true) (hs : fm_sh a = .inl (0, n)) (h1 : mj_at cs pc = some (.iaload, nx, aux, cv)) (kk : mj_Rn d ty cs Q (fm_mk (M, ML, R)) nx L (.int (M a k) :: r)) : mj_Rn d ty cs Q (fm_mk (M, ML, R)) pc L (.int j :: .ref a :: r) := by
  have hn := Nat.le_of_ble_eq_true hn
  subst hj
  refine fn_ld hs h1 (in_nI hk (by omega)) ?_
  rw [nI_clamp (by omega)]
  exact kk
theorem fn_ldk6 {nx aux a n k : Nat} {cv : Int32} {r : List Value} {j : Int32} (hj : j = nI k) (hk : k < n) (hn : Nat.ble n 4096 = true) (hs : fm_sh a = .inl (6, n)) (h1 : mj_at cs pc = some (.iaload, nx, aux, cv)) (kk : mj_Rn d ty cs Q (fm_mk (M, ML, R)) nx L (.int (M a k) :: r)) : mj_Rn d ty cs Q (fm_mk (M, ML, R)) pc L (.int j :: .ref a :: r) := by
  have hn := Nat.le_of_ble_eq_true hn
  subst hj
  refine fn_ld6 hs h1 (in_nI hk (by omega)) ?_
  rw [nI_clamp (by omega)]
  exact kk
theorem fn_ldkl {nx aux a n k : Nat} {cv : Int32} {r : List Value} {j : Int32} (hj : j = nI k) (hk : k < n) (hn : Nat.ble n 4096 = true) (hs : fm_sh a = .inl (1, n)) (h1 : mj_at cs pc = some (.laload, nx, aux, cv)) (kk : mj_Rn d ty cs Q (fm_mk (M, ML, R)) nx L (.long (ML a k) :: r)) : mj_Rn d ty cs Q (fm_mk (M, ML, R)) pc L (.int j :: .ref a :: r) := by
  have hn := Nat.le_of_ble_eq_true hn
  subst hj
  refine fn_ldl hs h1 (in_nI hk (by omega)) ?_
  rw [nI_clamp (by omega)]
  exact kk
theorem fn_ldkb {nx aux a n k : Nat} {cv : Int32} {r : List Value} {j : Int32} (hj : j = nI k) (hk : k < n) (hn : Nat.ble n 4096 = true) (hs : fm_sh a = .inl (2, n)) (h1 : mj_at cs pc = some (.baload, nx, aux, cv)) (kk : mj_Rn d ty cs Q (fm_mk (M, ML, R)) nx L (.int (M a k) :: r)) : mj_Rn d ty cs Q (fm_mk (M, ML, R)) pc L (.int j :: .ref a :: r) := by
  have hn := Nat.le_of_ble_eq_true hn
  subst hj
  refine fn_ldb hs h1 (in_nI hk (by omega)) ?_
  rw [nI_clamp (by omega)]
  exact kk
theorem fn_ldkz {nx aux a n k : Nat} {cv : Int32} {r : List Value} {j : Int32} (hj : j = nI k) (hk : k < n) (hn : Nat.ble n 4096 = true) (hs : fm_sh a = .inl (3, n)) (h1 : mj_at cs pc = some (.baload, nx, aux, cv)) (kk : mj_Rn d ty cs Q (fm_mk (M, ML, R)) nx L (.int (M a k) :: r)) : mj_Rn d ty cs Q (fm_mk (M, ML, R)) pc L (.int j :: .ref a :: r) := by
  have hn := Nat.le_of_ble_eq_true hn
  subst hj
  refine fn_ldz hs h1 (in_nI hk (by omega)) ?_
  rw [nI_clamp (by omega)]
  exact kk
theorem fn_ldkc {nx aux a n k : Nat} {cv : Int32} {r : List Value} {j : Int32} (hj : j = nI k) (hk : k < n) (hn : Nat.ble n 4096 = true) (hs : fm_sh a = .inl (4, n)) (h1 : mj_at cs pc = some (.caload, nx, aux, cv)) (kk : mj_Rn d ty cs Q (fm_mk (M, ML, R)) nx L (.int (M a k) :: r)) : mj_Rn d ty cs Q (fm_mk (M, ML, R)) pc L (.int j :: .ref a :: r) := by
  have hn := Nat.le_of_ble_eq_true hn
  subst hj
  refine fn_ldc hs h1 (in_nI hk (by omega)) ?_
  rw [nI_clamp (by omega)]
  exact kk
theorem fn_stk {nx aux a n k : Nat} {cv : Int32} {r : List Value} {j : Int32} {x : Int32} (hj : j = nI k) (hk : k < n) (hn : Nat.ble n 4096 = true) (hs : fm_sh a = .inl (0, n)) (h1 : mj_at cs pc = some (.iastore, nx, aux, cv)) (kk : mj_Rn d ty cs Q (fm_mk (fm_u M a k x, ML, R)) nx L r) : mj_Rn d ty cs Q (fm_mk (M, ML, R)) pc L (.int x :: .int j :: .ref a :: r) := by
  have hn := Nat.le_of_ble_eq_true hn
  subst hj
  refine fn_st hs h1 (in_nI hk (by omega)) ?_
  rw [nI_clamp (by omega)]
  exact kk
theorem fn_stkl {nx aux a n k : Nat} {cv : Int32} {r : List Value} {j : Int32} {x : Int64} (hj : j = nI k) (hk : k < n) (hn : Nat.ble n 4096 = true) (hs : fm_sh a = .inl (1, n)) (h1 : mj_at cs pc = some (.lastore, nx, aux, cv)) (kk : mj_Rn d ty cs Q (fm_mk (M, fm_ul ML a k x, R)) nx L r) : mj_Rn d ty cs Q (fm_mk (M, ML, R)) pc L (.long x :: .int j :: .ref a :: r) := by
  have hn := Nat.le_of_ble_eq_true hn
  subst hj
  refine fn_stl hs h1 (in_nI hk (by omega)) ?_
  rw [nI_clamp (by omega)]
  exact kk
theorem fn_stkb {nx aux a n k : Nat} {cv : Int32} {r : List Value} {j : Int32} {x : Int32} (hj : j = nI k) (hk : k < n) (hn : Nat.ble n 4096 = true) (hs : fm_sh a = .inl (2, n)) (h1 : mj_at cs pc = some (.bastore, nx, aux, cv)) (kk : mj_Rn d ty cs Q (fm_mk (fm_u M a k (vp_nar .byte x), ML, R)) nx L r) : mj_Rn d ty cs Q (fm_mk (M, ML, R)) pc L (.int x :: .int j :: .ref a :: r) := by
  have hn := Nat.le_of_ble_eq_true hn
  subst hj
  refine fn_stb hs h1 (in_nI hk (by omega)) ?_
  rw [nI_clamp (by omega)]
  exact kk
theorem fn_stkz {nx aux a n k : Nat} {cv : Int32} {r : List Value} {j : Int32} {x : Int32} (hj : j = nI k) (hk : k < n) (hn : Nat.ble n 4096 = true) (hs : fm_sh a = .inl (3, n)) (h1 : mj_at cs pc = some (.bastore, nx, aux, cv)) (kk : mj_Rn d ty cs Q (fm_mk (fm_u M a k (vp_nar .boolean x), ML, R)) nx L r) : mj_Rn d ty cs Q (fm_mk (M, ML, R)) pc L (.int x :: .int j :: .ref a :: r) := by
  have hn := Nat.le_of_ble_eq_true hn
  subst hj
  refine fn_stz hs h1 (in_nI hk (by omega)) ?_
  rw [nI_clamp (by omega)]
  exact kk
theorem fn_stkc {nx aux a n k : Nat} {cv : Int32} {r : List Value} {j : Int32} {x : Int32} (hj : j = nI k) (hk : k < n) (hn : Nat.ble n 4096 = true) (hs : fm_sh a = .inl (4, n)) (h1 : mj_at cs pc = some (.castore, nx, aux, cv)) (kk : mj_Rn d ty cs Q (fm_mk (fm_u M a k (vp_nar .char x), ML, R)) nx L r) : mj_Rn d ty cs Q (fm_mk (M, ML, R)) pc L (.int x :: .int j :: .ref a :: r) := by
  have hn := Nat.le_of_ble_eq_true hn
  subst hj
  refine fn_stc hs h1 (in_nI hk (by omega)) ?_
  rw [nI_clamp (by omega)]
  exact kk
end wpRules
theorem fm_v2 : fm_sh 2 = .inl (0, 8) := by decide +kernel
theorem fm_v3 : fm_sh 3 = .inl (0, 8) := by decide +kernel
theorem fm_v4 : fm_sh 4 = .inl (0, 8) := by decide +kernel
theorem fm_v5 : fm_sh 5 = .inl (0, 8) := by decide +kernel
theorem fm_v6 : fm_sh 6 = .inl (0, 8) := by decide +kernel
theorem fm_v7 : fm_sh 7 = .inl (0, 8) := by decide +kernel
theorem fm_v8 : fm_sh 8 = .inl (0, 8) := by decide +kernel
theorem fm_v9 : fm_sh 9 = .inl (0, 8) := by decide +kernel
theorem fm_v10 : fm_sh 10 = .inl (0, 8) := by decide +kernel
theorem fm_v11 : fm_sh 11 = .inl (0, 8) := by decide +kernel
theorem fm_v13 : fm_sh 13 = .inl (0, 8) := by decide +kernel
theorem fm_v14 : fm_sh 14 = .inl (0, 8) := by decide +kernel
theorem fm_v15 : fm_sh 15 = .inl (0, 8) := by decide +kernel
theorem fm_v16 : fm_sh 16 = .inl (0, 8) := by decide +kernel
theorem fm_v17 : fm_sh 17 = .inl (0, 8) := by decide +kernel
theorem fm_v18 : fm_sh 18 = .inl (0, 8) := by decide +kernel
theorem fm_v19 : fm_sh 19 = .inl (0, 8) := by decide +kernel
theorem fm_v20 : fm_sh 20 = .inl (0, 8) := by decide +kernel
theorem fm_v21 : fm_sh 21 = .inl (0, 8) := by decide +kernel
theorem fm_v22 : fm_sh 22 = .inl (0, 8) := by decide +kernel
theorem fm_v24 : fm_sh 24 = .inl (0, 8) := by decide +kernel
theorem fm_v25 : fm_sh 25 = .inl (0, 8) := by decide +kernel
theorem fm_v26 : fm_sh 26 = .inl (0, 8) := by decide +kernel
theorem fm_v27 : fm_sh 27 = .inl (0, 8) := by decide +kernel
theorem fm_v28 : fm_sh 28 = .inl (0, 8) := by decide +kernel
theorem fm_v29 : fm_sh 29 = .inl (0, 8) := by decide +kernel
theorem fm_v30 : fm_sh 30 = .inl (0, 8) := by decide +kernel
theorem fm_v31 : fm_sh 31 = .inl (0, 8) := by decide +kernel
theorem fm_v32 : fm_sh 32 = .inl (0, 8) := by decide +kernel
theorem fm_v33 : fm_sh 33 = .inl (0, 8) := by decide +kernel
theorem sw_out {x : Int32} {n : Nat} (hn : n < 2 ^ 31) (h : ∀ k, k < n → ¬ x = nI k) : x.toInt < 0 ∨ (n : Int) ≤ x.toInt := by
  rcases Int.lt_or_le x.toInt 0 with q | q
  · exact Or.inl q
  · refine Or.inr (Int.not_lt.mp (fun q2 => ?_))
    refine h x.toInt.toNat (by omega) ?_
    apply Int32.toInt_inj.mp
    have e : (nI x.toInt.toNat).toInt = ((x.toInt.toNat : Nat) : Int) := nI_toInt (by omega)
    rw [e]
    omega
theorem sw_out3 {x : Int32} (h0 : ¬ x = 0) (h1 : ¬ x = 1) (h2 : ¬ x = 2) (h3 : ¬ x = 3) : x.toInt < 0 ∨ 3 < x.toInt := by
  rcases sw_out (x := x) (n := 4) (by decide) (fun k hk => by
    match k, hk with
    | 0, _ => exact h0
    | 1, _ => exact h1
    | 2, _ => exact h2
    | 3, _ => exact h3
    | k + 4, hk => exact absurd hk (by omega)) with q | q
  · exact Or.inl q
  · exact Or.inr (by omega)
theorem sw_out4 {x : Int32} (h0 : ¬ x = 0) (h1 : ¬ x = 1) (h2 : ¬ x = 2) (h3 : ¬ x = 3) (h4 : ¬ x = 4) : x.toInt < 0 ∨ 4 < x.toInt := by
  rcases sw_out (x := x) (n := 5) (by decide) (fun k hk => by
    match k, hk with
    | 0, _ => exact h0
    | 1, _ => exact h1
    | 2, _ => exact h2
    | 3, _ => exact h3
    | 4, _ => exact h4
    | k + 5, hk => exact absurd hk (by omega)) with q | q
  · exact Or.inl q
  · exact Or.inr (by omega)
theorem sw_out10 {x : Int32} (h0 : ¬ x = 0) (h1 : ¬ x = 1) (h2 : ¬ x = 2) (h3 : ¬ x = 3) (h4 : ¬ x = 4) (h5 : ¬ x = 5) (h6 : ¬ x = 6) (h7 : ¬ x = 7) (h8 : ¬ x = 8) (h9 : ¬ x = 9) (h10 : ¬ x = 10) : x.toInt < 0 ∨ 10 < x.toInt := by
  rcases sw_out (x := x) (n := 11) (by decide) (fun k hk => by
    match k, hk with
    | 0, _ => exact h0
    | 1, _ => exact h1
    | 2, _ => exact h2
    | 3, _ => exact h3
    | 4, _ => exact h4
    | 5, _ => exact h5
    | 6, _ => exact h6
    | 7, _ => exact h7
    | 8, _ => exact h8
    | 9, _ => exact h9
    | 10, _ => exact h10
    | k + 11, hk => exact absurd hk (by omega)) with q | q
  · exact Or.inl q
  · exact Or.inr (by omega)
