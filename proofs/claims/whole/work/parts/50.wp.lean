/-! a method told by what must hold behind it -/
abbrev wK : Type := Int32 → (Nat → Nat → Int32) → (Nat → Nat → Int64) → (Nat → Nat → Option Nat) → Prop
abbrev wKl : Type := Int64 → (Nat → Nat → Int32) → (Nat → Nat → Int64) → (Nat → Nat → Option Nat) → Prop
abbrev wKv : Type := (Nat → Nat → Int32) → (Nat → Nat → Int64) → (Nat → Nat → Option Nat) → Prop
def wQ (K : wK) : Option Value → mj_H → Prop := fun r g => ∃ v M ML R, r = some (.int v) ∧ g = fm_mk (M, ML, R) ∧ K v M ML R
def wQl (K : wKl) : Option Value → mj_H → Prop := fun r g => ∃ v M ML R, r = some (.long v) ∧ g = fm_mk (M, ML, R) ∧ K v M ML R
def wQv (K : wKv) : Option Value → mj_H → Prop := fun r g => ∃ M ML R, r = none ∧ g = fm_mk (M, ML, R) ∧ K M ML R
def wI (d k : Nat) (as : List Value) (M : Nat → Nat → Int32) (ML : Nat → Nat → Int64) (R : Nat → Nat → Option Nat) (K : wK) : Prop := mj_Mt d k as (fm_mk (M, ML, R)) (wQ K)
def wL (d k : Nat) (as : List Value) (M : Nat → Nat → Int32) (ML : Nat → Nat → Int64) (R : Nat → Nat → Option Nat) (K : wKl) : Prop := mj_Mt d k as (fm_mk (M, ML, R)) (wQl K)
def wV (d k : Nat) (as : List Value) (M : Nat → Nat → Int32) (ML : Nat → Nat → Int64) (R : Nat → Nat → Option Nat) (K : wKv) : Prop := mj_Mt d k as (fm_mk (M, ML, R)) (wQv K)
/-- a contract that stands already -/
theorem wI_of {d d' k : Nat} {as : List Value} {M M' : Nat → Nat → Int32} {ML ML' : Nat → Nat → Int64} {R R' : Nat → Nat → Option Nat} {v : Int32} {K : wK} (t : mj_big d' k as (fm_mk (M, ML, R)) (some (.int v)) (fm_mk (M', ML', R'))) (hd : d' ≤ d) (h : K v M' ML' R') : wI d k as M ML R K := ⟨_, _, mj_big_le hd t, v, M', ML', R', rfl, rfl, h⟩
theorem wL_of {d d' k : Nat} {as : List Value} {M M' : Nat → Nat → Int32} {ML ML' : Nat → Nat → Int64} {R R' : Nat → Nat → Option Nat} {v : Int64} {K : wKl} (t : mj_big d' k as (fm_mk (M, ML, R)) (some (.long v)) (fm_mk (M', ML', R'))) (hd : d' ≤ d) (h : K v M' ML' R') : wL d k as M ML R K := ⟨_, _, mj_big_le hd t, v, M', ML', R', rfl, rfl, h⟩
theorem wV_of {d d' k : Nat} {as : List Value} {M M' : Nat → Nat → Int32} {ML ML' : Nat → Nat → Int64} {R R' : Nat → Nat → Option Nat} {K : wKv} (t : mj_big d' k as (fm_mk (M, ML, R)) none (fm_mk (M', ML', R'))) (hd : d' ≤ d) (h : K M' ML' R') : wV d k as M ML R K := ⟨_, _, mj_big_le hd t, M', ML', R', rfl, rfl, h⟩
theorem wI_imp {d d' k : Nat} {as : List Value} {M : Nat → Nat → Int32} {ML : Nat → Nat → Int64} {R : Nat → Nat → Option Nat} {K K' : wK} (hd : d' ≤ d) (h : wI d' k as M ML R K) (hk : ∀ v M' ML' R', K v M' ML' R' → K' v M' ML' R') : wI d k as M ML R K' := (mj_Mt.le hd h).imp (fun r g ⟨v, M', ML', R', h1, h2, h3⟩ => ⟨v, M', ML', R', h1, h2, hk _ _ _ _ h3⟩)
theorem wL_imp {d d' k : Nat} {as : List Value} {M : Nat → Nat → Int32} {ML : Nat → Nat → Int64} {R : Nat → Nat → Option Nat} {K K' : wKl} (hd : d' ≤ d) (h : wL d' k as M ML R K) (hk : ∀ v M' ML' R', K v M' ML' R' → K' v M' ML' R') : wL d k as M ML R K' := (mj_Mt.le hd h).imp (fun r g ⟨v, M', ML', R', h1, h2, h3⟩ => ⟨v, M', ML', R', h1, h2, hk _ _ _ _ h3⟩)
theorem wV_imp {d d' k : Nat} {as : List Value} {M : Nat → Nat → Int32} {ML : Nat → Nat → Int64} {R : Nat → Nat → Option Nat} {K K' : wKv} (hd : d' ≤ d) (h : wV d' k as M ML R K) (hk : ∀ M' ML' R', K M' ML' R' → K' M' ML' R') : wV d k as M ML R K' := (mj_Mt.le hd h).imp (fun r g ⟨M', ML', R', h1, h2, h3⟩ => ⟨M', ML', R', h1, h2, hk _ _ _ h3⟩)
section wpRules
variable {d : Nat} {ty : Option FieldType} {cs : List mj_E} {Q : Option Value → mj_H → Prop} {M : Nat → Nat → Int32} {ML : Nat → Nat → Int64} {R : Nat → Nat → Option Nat} {pc : Nat} {L : mj_L} {st : List Value}
theorem mj_wIs {ix nx aux : Nat} {cv : Int32} {sg : mj_S} {as rest : List Value} {K : wK} (hW : wI d aux as M ML R K) (h1 : mj_at cs pc = some (.invokestatic ix, nx, aux, cv)) (hsg : mj_sigs[aux]? = some sg) (hst : st = as.reverse ++ rest) (hn : as.length = sg.2.2.2.2.1) (hr : Nat.ble (rest.map fun v => v.category).sum 8 = true) (hs : sg.2.2.2.2.2.1 = true) (kk : ∀ v M1 L1 R1, K v M1 L1 R1 → mj_Rn d ty cs Q (fm_mk (M1, L1, R1)) nx L (.int v :: rest)) : mj_Rn d ty cs Q (fm_mk (M, ML, R)) pc L st :=
  mj_cs h1 hsg hst hn hr hs hW (fun r g q => by obtain ⟨v, M1, L1, R1, rfl, rfl, h3⟩ := q; exact kk v M1 L1 R1 h3)
theorem mj_wIv {ix nx aux : Nat} {cv : Int32} {sg : mj_S} {b ci : Nat} {bs rest fs : List Value} {K : wK} (hW : wI d aux (.ref b :: bs) M ML R K) (hb : fm_mk (M, ML, R) b = .inr (ci, fs)) (h1 : mj_at cs pc = some (.invokevirtual ix, nx, aux, cv)) (hsg : mj_sigs[aux]? = some sg) (hst : st = (Value.ref b :: bs).reverse ++ rest) (hn : (Value.ref b :: bs).length = sg.2.2.2.2.1) (hr : Nat.ble (rest.map fun v => v.category).sum 8 = true) (hs : sg.2.2.2.2.2.1 = false ∧ sg.2.2.2.2.2.2.1 = ci) (kk : ∀ v M1 L1 R1, K v M1 L1 R1 → mj_Rn d ty cs Q (fm_mk (M1, L1, R1)) nx L (.int v :: rest)) : mj_Rn d ty cs Q (fm_mk (M, ML, R)) pc L st := by
  obtain ⟨hs, rfl⟩ := hs
  exact mj_cv hb h1 hsg hst hn hr hs hW (fun r g q => by obtain ⟨v, M1, L1, R1, rfl, rfl, h3⟩ := q; exact kk v M1 L1 R1 h3)
theorem mj_wLs {ix nx aux : Nat} {cv : Int32} {sg : mj_S} {as rest : List Value} {K : wKl} (hW : wL d aux as M ML R K) (h1 : mj_at cs pc = some (.invokestatic ix, nx, aux, cv)) (hsg : mj_sigs[aux]? = some sg) (hst : st = as.reverse ++ rest) (hn : as.length = sg.2.2.2.2.1) (hr : Nat.ble (rest.map fun v => v.category).sum 8 = true) (hs : sg.2.2.2.2.2.1 = true) (kk : ∀ v M1 L1 R1, K v M1 L1 R1 → mj_Rn d ty cs Q (fm_mk (M1, L1, R1)) nx L (.long v :: rest)) : mj_Rn d ty cs Q (fm_mk (M, ML, R)) pc L st :=
  mj_cs h1 hsg hst hn hr hs hW (fun r g q => by obtain ⟨v, M1, L1, R1, rfl, rfl, h3⟩ := q; exact kk v M1 L1 R1 h3)
theorem mj_wLv {ix nx aux : Nat} {cv : Int32} {sg : mj_S} {b ci : Nat} {bs rest fs : List Value} {K : wKl} (hW : wL d aux (.ref b :: bs) M ML R K) (hb : fm_mk (M, ML, R) b = .inr (ci, fs)) (h1 : mj_at cs pc = some (.invokevirtual ix, nx, aux, cv)) (hsg : mj_sigs[aux]? = some sg) (hst : st = (Value.ref b :: bs).reverse ++ rest) (hn : (Value.ref b :: bs).length = sg.2.2.2.2.1) (hr : Nat.ble (rest.map fun v => v.category).sum 8 = true) (hs : sg.2.2.2.2.2.1 = false ∧ sg.2.2.2.2.2.2.1 = ci) (kk : ∀ v M1 L1 R1, K v M1 L1 R1 → mj_Rn d ty cs Q (fm_mk (M1, L1, R1)) nx L (.long v :: rest)) : mj_Rn d ty cs Q (fm_mk (M, ML, R)) pc L st := by
  obtain ⟨hs, rfl⟩ := hs
  exact mj_cv hb h1 hsg hst hn hr hs hW (fun r g q => by obtain ⟨v, M1, L1, R1, rfl, rfl, h3⟩ := q; exact kk v M1 L1 R1 h3)
theorem mj_wVs {ix nx aux : Nat} {cv : Int32} {sg : mj_S} {as rest : List Value} {K : wKv} (hW : wV d aux as M ML R K) (h1 : mj_at cs pc = some (.invokestatic ix, nx, aux, cv)) (hsg : mj_sigs[aux]? = some sg) (hst : st = as.reverse ++ rest) (hn : as.length = sg.2.2.2.2.1) (hr : Nat.ble (rest.map fun v => v.category).sum 8 = true) (hs : sg.2.2.2.2.2.1 = true) (kk : ∀ M1 L1 R1, K M1 L1 R1 → mj_Rn d ty cs Q (fm_mk (M1, L1, R1)) nx L rest) : mj_Rn d ty cs Q (fm_mk (M, ML, R)) pc L st :=
  mj_cs h1 hsg hst hn hr hs hW (fun r g q => by obtain ⟨M1, L1, R1, rfl, rfl, h3⟩ := q; exact kk M1 L1 R1 h3)
theorem mj_wVv {ix nx aux : Nat} {cv : Int32} {sg : mj_S} {b ci : Nat} {bs rest fs : List Value} {K : wKv} (hW : wV d aux (.ref b :: bs) M ML R K) (hb : fm_mk (M, ML, R) b = .inr (ci, fs)) (h1 : mj_at cs pc = some (.invokevirtual ix, nx, aux, cv)) (hsg : mj_sigs[aux]? = some sg) (hst : st = (Value.ref b :: bs).reverse ++ rest) (hn : (Value.ref b :: bs).length = sg.2.2.2.2.1) (hr : Nat.ble (rest.map fun v => v.category).sum 8 = true) (hs : sg.2.2.2.2.2.1 = false ∧ sg.2.2.2.2.2.2.1 = ci) (kk : ∀ M1 L1 R1, K M1 L1 R1 → mj_Rn d ty cs Q (fm_mk (M1, L1, R1)) nx L rest) : mj_Rn d ty cs Q (fm_mk (M, ML, R)) pc L st := by
  obtain ⟨hs, rfl⟩ := hs
  exact mj_cv hb h1 hsg hst hn hr hs hW (fun r g q => by obtain ⟨M1, L1, R1, rfl, rfl, h3⟩ := q; exact kk M1 L1 R1 h3)
theorem fn_ldk {nx aux a n k : Nat} {cv : Int32} {r : List Value} {j : Int32} (hj : j = nI k) (hk : k < n) (hn : Nat.ble n 4096 = true) (hs : fm_sh a = .inl (0, n)) (h1 : mj_at cs pc = some (.iaload, nx, aux, cv)) (kk : mj_Rn d ty cs Q (fm_mk (M, ML, R)) nx L (.int (M a k) :: r)) : mj_Rn d ty cs Q (fm_mk (M, ML, R)) pc L (.int j :: .ref a :: r) := by
  have hn := Nat.le_of_ble_eq_true hn
  subst hj
  refine fn_ld hs h1 (in_nI hk (by omega)) ?_
  rw [nI_clamp (by omega)]
  exact kk
theorem fn_ldkl {nx aux a n k : Nat} {cv : Int32} {r : List Value} {j : Int32} (hj : j = nI k) (hk : k < n) (hn : Nat.ble n 4096 = true) (hs : fm_sh a = .inl (1, n)) (h1 : mj_at cs pc = some (.laload, nx, aux, cv)) (kk : mj_Rn d ty cs Q (fm_mk (M, ML, R)) nx L (.long (ML a k) :: r)) : mj_Rn d ty cs Q (fm_mk (M, ML, R)) pc L (.int j :: .ref a :: r) := by
  have hn := Nat.le_of_ble_eq_true hn
  subst hj
  refine fn_ldl hs h1 (in_nI hk (by omega)) ?_
  rw [nI_clamp (by omega)]
  exact kk
theorem fn_ldkb {nx aux a n k : Nat} {cv : Int32} {r : List Value} {j : Int32} (hj : j = nI k) (hk : k < n) (hn : Nat.ble n 4096 = true) (hs : fm_sh a = .inl (2, n)) (h1 : mj_at cs pc = some (.baload, nx, aux, cv)) (kk : mj_Rn d ty cs Q (fm_mk (M, ML, R)) nx L (.int (M a k) :: r)) : mj_Rn d ty cs Q (fm_mk (M, ML, R)) pc L (.int j :: .ref a :: r) := by
  have hn := Nat.le_of_ble_eq_true hn
  subst hj
  refine fn_ldb hs h1 (in_nI hk (by omega)) ?_
  rw [nI_clamp (by omega)]
  exact kk
theorem fn_ldkz {nx aux a n k : Nat} {cv : Int32} {r : List Value} {j : Int32} (hj : j = nI k) (hk : k < n) (hn : Nat.ble n 4096 = true) (hs : fm_sh a = .inl (3, n)) (h1 : mj_at cs pc = some (.baload, nx, aux, cv)) (kk : mj_Rn d ty cs Q (fm_mk (M, ML, R)) nx L (.int (M a k) :: r)) : mj_Rn d ty cs Q (fm_mk (M, ML, R)) pc L (.int j :: .ref a :: r) := by
  have hn := Nat.le_of_ble_eq_true hn
  subst hj
  refine fn_ldz hs h1 (in_nI hk (by omega)) ?_
  rw [nI_clamp (by omega)]
  exact kk
theorem fn_ldkc {nx aux a n k : Nat} {cv : Int32} {r : List Value} {j : Int32} (hj : j = nI k) (hk : k < n) (hn : Nat.ble n 4096 = true) (hs : fm_sh a = .inl (4, n)) (h1 : mj_at cs pc = some (.caload, nx, aux, cv)) (kk : mj_Rn d ty cs Q (fm_mk (M, ML, R)) nx L (.int (M a k) :: r)) : mj_Rn d ty cs Q (fm_mk (M, ML, R)) pc L (.int j :: .ref a :: r) := by
  have hn := Nat.le_of_ble_eq_true hn
  subst hj
  refine fn_ldc hs h1 (in_nI hk (by omega)) ?_
  rw [nI_clamp (by omega)]
  exact kk
theorem fn_stk {nx aux a n k : Nat} {cv : Int32} {r : List Value} {j : Int32} {x : Int32} (hj : j = nI k) (hk : k < n) (hn : Nat.ble n 4096 = true) (hs : fm_sh a = .inl (0, n)) (h1 : mj_at cs pc = some (.iastore, nx, aux, cv)) (kk : mj_Rn d ty cs Q (fm_mk (fm_u M a k x, ML, R)) nx L r) : mj_Rn d ty cs Q (fm_mk (M, ML, R)) pc L (.int x :: .int j :: .ref a :: r) := by
  have hn := Nat.le_of_ble_eq_true hn
  subst hj
  refine fn_st hs h1 (in_nI hk (by omega)) ?_
  rw [nI_clamp (by omega)]
  exact kk
theorem fn_stkl {nx aux a n k : Nat} {cv : Int32} {r : List Value} {j : Int32} {x : Int64} (hj : j = nI k) (hk : k < n) (hn : Nat.ble n 4096 = true) (hs : fm_sh a = .inl (1, n)) (h1 : mj_at cs pc = some (.lastore, nx, aux, cv)) (kk : mj_Rn d ty cs Q (fm_mk (M, fm_ul ML a k x, R)) nx L r) : mj_Rn d ty cs Q (fm_mk (M, ML, R)) pc L (.long x :: .int j :: .ref a :: r) := by
  have hn := Nat.le_of_ble_eq_true hn
  subst hj
  refine fn_stl hs h1 (in_nI hk (by omega)) ?_
  rw [nI_clamp (by omega)]
  exact kk
theorem fn_stkb {nx aux a n k : Nat} {cv : Int32} {r : List Value} {j : Int32} {x : Int32} (hj : j = nI k) (hk : k < n) (hn : Nat.ble n 4096 = true) (hs : fm_sh a = .inl (2, n)) (h1 : mj_at cs pc = some (.bastore, nx, aux, cv)) (kk : mj_Rn d ty cs Q (fm_mk (fm_u M a k (vp_nar .byte x), ML, R)) nx L r) : mj_Rn d ty cs Q (fm_mk (M, ML, R)) pc L (.int x :: .int j :: .ref a :: r) := by
  have hn := Nat.le_of_ble_eq_true hn
  subst hj
  refine fn_stb hs h1 (in_nI hk (by omega)) ?_
  rw [nI_clamp (by omega)]
  exact kk
theorem fn_stkz {nx aux a n k : Nat} {cv : Int32} {r : List Value} {j : Int32} {x : Int32} (hj : j = nI k) (hk : k < n) (hn : Nat.ble n 4096 = true) (hs : fm_sh a = .inl (3, n)) (h1 : mj_at cs pc = some (.bastore, nx, aux, cv)) (kk : mj_Rn d ty cs Q (fm_mk (fm_u M a k (vp_nar .boolean x), ML, R)) nx L r) : mj_Rn d ty cs Q (fm_mk (M, ML, R)) pc L (.int x :: .int j :: .ref a :: r) := by
  have hn := Nat.le_of_ble_eq_true hn
  subst hj
  refine fn_stz hs h1 (in_nI hk (by omega)) ?_
  rw [nI_clamp (by omega)]
  exact kk
theorem fn_stkc {nx aux a n k : Nat} {cv : Int32} {r : List Value} {j : Int32} {x : Int32} (hj : j = nI k) (hk : k < n) (hn : Nat.ble n 4096 = true) (hs : fm_sh a = .inl (4, n)) (h1 : mj_at cs pc = some (.castore, nx, aux, cv)) (kk : mj_Rn d ty cs Q (fm_mk (fm_u M a k (vp_nar .char x), ML, R)) nx L r) : mj_Rn d ty cs Q (fm_mk (M, ML, R)) pc L (.int x :: .int j :: .ref a :: r) := by
  have hn := Nat.le_of_ble_eq_true hn
  subst hj
  refine fn_stc hs h1 (in_nI hk (by omega)) ?_
  rw [nI_clamp (by omega)]
  exact kk
end wpRules
theorem fm_v2 : fm_sh 2 = .inl (0, 8) := by decide +kernel
theorem fm_v3 : fm_sh 3 = .inl (0, 8) := by decide +kernel
theorem fm_v4 : fm_sh 4 = .inl (0, 8) := by decide +kernel
theorem fm_v5 : fm_sh 5 = .inl (0, 8) := by decide +kernel
theorem fm_v6 : fm_sh 6 = .inl (0, 8) := by decide +kernel
theorem fm_v7 : fm_sh 7 = .inl (0, 8) := by decide +kernel
theorem fm_v8 : fm_sh 8 = .inl (0, 8) := by decide +kernel
theorem fm_v9 : fm_sh 9 = .inl (0, 8) := by decide +kernel
theorem fm_v10 : fm_sh 10 = .inl (0, 8) := by decide +kernel
theorem fm_v11 : fm_sh 11 = .inl (0, 8) := by decide +kernel
theorem fm_v13 : fm_sh 13 = .inl (0, 8) := by decide +kernel
theorem fm_v14 : fm_sh 14 = .inl (0, 8) := by decide +kernel
theorem fm_v15 : fm_sh 15 = .inl (0, 8) := by decide +kernel
theorem fm_v16 : fm_sh 16 = .inl (0, 8) := by decide +kernel
theorem fm_v17 : fm_sh 17 = .inl (0, 8) := by decide +kernel
theorem fm_v18 : fm_sh 18 = .inl (0, 8) := by decide +kernel
theorem fm_v19 : fm_sh 19 = .inl (0, 8) := by decide +kernel
theorem fm_v20 : fm_sh 20 = .inl (0, 8) := by decide +kernel
theorem fm_v21 : fm_sh 21 = .inl (0, 8) := by decide +kernel
theorem fm_v22 : fm_sh 22 = .inl (0, 8) := by decide +kernel
theorem fm_v24 : fm_sh 24 = .inl (0, 8) := by decide +kernel
theorem fm_v25 : fm_sh 25 = .inl (0, 8) := by decide +kernel
theorem fm_v26 : fm_sh 26 = .inl (0, 8) := by decide +kernel
theorem fm_v27 : fm_sh 27 = .inl (0, 8) := by decide +kernel
theorem fm_v28 : fm_sh 28 = .inl (0, 8) := by decide +kernel
theorem fm_v29 : fm_sh 29 = .inl (0, 8) := by decide +kernel
theorem fm_v30 : fm_sh 30 = .inl (0, 8) := by decide +kernel
theorem fm_v31 : fm_sh 31 = .inl (0, 8) := by decide +kernel
theorem fm_v32 : fm_sh 32 = .inl (0, 8) := by decide +kernel
theorem fm_v33 : fm_sh 33 = .inl (0, 8) := by decide +kernel
theorem sw_out {x : Int32} {n : Nat} (hn : n < 2 ^ 31) (h : ∀ k, k < n → ¬ x = nI k) : x.toInt < 0 ∨ (n : Int) ≤ x.toInt := by
  rcases Int.lt_or_le x.toInt 0 with q | q
  · exact Or.inl q
  · refine Or.inr (Int.not_lt.mp (fun q2 => ?_))
    refine h x.toInt.toNat (by omega) ?_
    apply Int32.toInt_inj.mp
    have e : (nI x.toInt.toNat).toInt = ((x.toInt.toNat : Nat) : Int) := nI_toInt (by omega)
    rw [e]
    omega
theorem sw_out4 {x : Int32} (h0 : ¬ x = 0) (h1 : ¬ x = 1) (h2 : ¬ x = 2) (h3 : ¬ x = 3) (h4 : ¬ x = 4) : x.toInt < 0 ∨ 4 < x.toInt := by
  rcases sw_out (x := x) (n := 5) (by decide) (fun k hk => by
    match k, hk with
    | 0, _ => exact h0
    | 1, _ => exact h1
    | 2, _ => exact h2
    | 3, _ => exact h3
    | 4, _ => exact h4
    | k + 5, hk => exact absurd hk (by omega)) with q | q
  · exact Or.inl q
  · exact Or.inr (by omega)
theorem sw_out10 {x : Int32} (h0 : ¬ x = 0) (h1 : ¬ x = 1) (h2 : ¬ x = 2) (h3 : ¬ x = 3) (h4 : ¬ x = 4) (h5 : ¬ x = 5) (h6 : ¬ x = 6) (h7 : ¬ x = 7) (h8 : ¬ x = 8) (h9 : ¬ x = 9) (h10 : ¬ x = 10) : x.toInt < 0 ∨ 10 < x.toInt := by
  rcases sw_out (x := x) (n := 11) (by decide) (fun k hk => by
    match k, hk with
    | 0, _ => exact h0
    | 1, _ => exact h1
    | 2, _ => exact h2
    | 3, _ => exact h3
    | 4, _ => exact h4
    | 5, _ => exact h5
    | 6, _ => exact h6
    | 7, _ => exact h7
    | 8, _ => exact h8
    | 9, _ => exact h9
    | 10, _ => exact h10
    | k + 11, hk => exact absurd hk (by omega)) with q | q
  · exact Or.inl q
  · exact Or.inr (by omega)
