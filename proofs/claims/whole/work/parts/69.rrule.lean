/-! the reference's methods, told over what the row is -/
theorem rngc (lo hi : Nat) (hl : lo < 2 ^ 31) (hh : hi < 2 ^ 31) (v : Int32) : (∃ n, lo ≤ n ∧ n ≤ hi ∧ v = nI n) ∨ (v < nI lo ∨ nI hi < v) := by
  by_cases h1 : v < nI lo
  · exact Or.inr (Or.inl h1)
  · by_cases h2 : nI hi < v
    · exact Or.inr (Or.inr h2)
    · have h1 := Int32.le_iff_toInt_le.mp (Int32.not_lt.mp h1)
      have h2 := Int32.le_iff_toInt_le.mp (Int32.not_lt.mp h2)
      rw [nI_toInt hl] at h1
      rw [nI_toInt hh] at h2
      refine Or.inl ⟨v.toInt.toNat, by omega, by omega, ?_⟩
      apply Int32.toInt_inj.mp
      rw [nI_toInt (by omega)]
      omega
theorem in_y {lo hi n : Nat} (hh : hi < 2 ^ 31) (h1 : lo ≤ n) (h2 : n ≤ hi) : md_in (nI n) (nI lo) (nI hi) = 1 := by
  rw [md_in, if_neg (fun z => absurd ((nI_ltI (by omega) (by omega)).mp z) (by omega)), if_neg (fun z => absurd ((nI_ltI (by omega) (by omega)).mp z) (by omega))]
theorem in_n {lo hi v : Int32} (h : v < lo ∨ hi < v) : md_in v lo hi = 0 := by
  rw [md_in]
  by_cases h1 : v < lo
  · rw [if_pos h1]
  · rw [if_neg h1, if_pos (h.resolve_left h1)]
def nL (n : Nat) : Int64 := (nI n).toInt64
section rrule
variable {d r B : Nat} {g : gr} {ts : List Nat} {rw : List Int64} {M : Nat → Nat → Int32} {ML : Nat → Nat → Int64} {R : Nat → Nat → Option Nat}
theorem R_in {K : wK} (hd : 1 ≤ d) {v l u : Int32} (h : K (md_in v l u) M ML R) : wI d 132 [.int v, .int l, .int u] M ML R K := wI_of (t_min3 _ v l u) hd h
theorem R_has {K : wK} (hd : 1 ≤ d) {w q : Nat} (hw : w < 256) (hq : q < 8) (h : K (if w.testBit q = true then 1 else 0) M ML R) : wI d 133 [.int (nI w), .int (nI q)] M ML R K := wI_of (t_mhas _ (nI w) (nI q)) hd (by rw [m_has hw hq]; exact h)
theorem R_bc {K : wK} (hd : 1 ≤ d) {w : Nat} (hw : w < 256) (h : K (nI (bc w)) M ML R) : wI d 236 [.int (nI w)] M ML R K := wI_of (t_bitCount _ (nI w)) hd (by rw [bt_bc w hw]; exact h)
theorem R_max {K : wK} (hd : 1 ≤ d) {x y : Int32} (h : K (jd_max x y) M ML R) : wI d 239 [.int x, .int y] M ML R K := wI_of (t_max _ x y) hd h
theorem R_min {K : wK} (hd : 1 ≤ d) {x y : Int32} (h : K (jd_min x y) M ML R) : wI d 240 [.int x, .int y] M ML R K := wI_of (t_min _ x y) hd h
theorem R_th {K : wK} (hr : fm_N r) (hd : 1 ≤ d) (ha : rr (M r) g) (hg : gok g B) {q : Nat} (hq : q < 8) (h : K (if 0 < g q then 1 else 0) M ML R) : wI d 136 [.ref r, .int (nI q)] M ML R K := by
  refine wI_of (t_mthere hr (M, ML, R) q hq) hd ?_
  dsimp only
  rw [m_th ha hg hq]
  exact h
theorem m_task (ha : rr (M 220) g) (hg : gok g B) (t : Int32) : (∃ q, q < 8 ∧ t = nI q ∧ 0 < g q ∧ md_task (M 220) t = 1) ∨ (¬ th g t ∧ md_task (M 220) t = 0) := by
  rcases i8c (t := t) with ⟨q, hq, rfl⟩ | h
  · have e : md_in (nI q) 0 7 = 1 := in_y (lo := 0) (hi := 7) (by decide) (by omega) (by omega)
    rw [md_task, e, if_neg (by decide), nI_clamp (by omega), m_th ha hg hq]
    by_cases h : 0 < g q
    · exact Or.inl ⟨q, hq, rfl, h, by rw [if_pos h]; rfl⟩
    · exact Or.inr ⟨fun z => h ((th_nI hq).mp z), by rw [if_neg h]; rfl⟩
  · refine Or.inr ⟨fun ⟨q, hq, e, _⟩ => nI_n8 h hq e, ?_⟩
    have e : md_in t 0 7 = 0 := in_n (by
      rcases h with h | h
      · exact Or.inl h
      · exact Or.inr (Int32.lt_of_lt_of_le (by decide) h))
    rw [md_task, e, if_pos rfl]
theorem R_task {K : wK} (hd : 2 ≤ d) (ha : rr (M 220) g) (hg : gok g B) (t : Int32) (h1 : ∀ q, q < 8 → t = nI q → 0 < g q → K 1 M ML R) (h0 : ¬ th g t → K 0 M ML R) : wI d 137 [.ref 219, .int t] M ML R K := by
  refine wI_of (t_mtask (M, ML, R) t) hd ?_
  dsimp only
  rcases m_task ha hg t with ⟨q, hq, e, h, h2⟩ | ⟨h, h2⟩
  · rw [h2]; exact h1 q hq e h
  · rw [h2]; exact h0 h
theorem m_tset {a : Nat → Int32} (ha : rr a g) (hg : gok g B) : ∀ k, k ≤ 8 → md_thereOf a k = nI (bm (fun q => decide (0 < g q)) k) := by
  intro k
  induction k with
  | zero => intro _; rfl
  | succ k ih =>
    intro hk
    rw [md_thereOf, ih (by omega), m_th ha hg (by omega), bm]
    by_cases h : 0 < g k
    · rw [if_pos h, if_neg (by decide), if_pos (by simp [h]), bt_or _ (bm_lt _ k (by omega)) k (by omega)]
    · rw [if_neg h, if_pos rfl, if_neg (by simp [h])]
      exact Int32.or_zero
theorem R_tset {K : wK} (hr : fm_N r) (hd : 2 ≤ d) (ha : rr (M r) g) (hg : gok g B) (h : K (nI (g_ts g)) M ML R) : wI d 138 [.ref r] M ML R K := by
  refine wI_of (t_mthereOf hr (M, ML, R)) hd ?_
  dsimp only
  rw [m_tset ha hg 8 (by omega)]
  exact h
theorem m_doa {a : Nat → Int32} (ha : rr a g) : ∀ k, k ≤ 8 → md_dof a k = nI (g_da g k) := by
  intro k
  induction k with
  | zero => intro _; rfl
  | succ k ih =>
    intro hk
    rw [md_dof, ih (by omega), ha _ (by omega), g_da, nI_add]
theorem R_doa {K : wK} (hr : fm_N r) (hd : 1 ≤ d) (ha : rr (M r) g) (h : K (nI (g_da g 8)) M ML R) : wI d 229 [.ref r] M ML R K := by
  refine wI_of (t_mdoneOf hr (M, ML, R)) hd ?_
  dsimp only
  rw [m_doa ha 8 (by omega)]
  exact h
theorem rr_ne (ha : rr (M r) g) {q : Nat} (hq : q < 8) (hg : gok g B) (h0 : 0 < g q) : ¬ M r q = 0 := by
  rw [ha q (by omega)]
  exact nI_ne0 h0 (by have := hg.e hq; omega)
theorem R_rel {K : wK} (hr : fm_N r) (hd : 1 ≤ d) (ha : rr (M r) g) (hg : gok g B) (hB : B < 2 ^ 22) {q i : Nat} (hq : q < 8) (h0 : 0 < g q) (hi : 0 < i) (hi2 : i < 2 ^ 23) (h : K (nI (g_rel g q i)) M ML R) : wI d 142 [.ref r, .int (nI q), .int (nI i)] M ML R K := by
  refine wI_of (t_mrel hr (M, ML, R) q hq (rr_ne ha hq hg h0) (nI i)) hd ?_
  dsimp only
  rw [m_rel ha hg hB hq h0 hi hi2]
  exact h
theorem R_dl {K : wK} (hr : fm_N r) (hd : 1 ≤ d) (ha : rr (M r) g) (hg : gok g B) (hB : B < 2 ^ 22) {q i : Nat} (hq : q < 8) (h0 : 0 < g q) (hi2 : i < 2 ^ 23) (h : K (nI (g_dl g q i)) M ML R) : wI d 143 [.ref r, .int (nI q), .int (nI i)] M ML R K := by
  refine wI_of (t_mdl hr (M, ML, R) q hq (rr_ne ha hq hg h0) (nI i)) hd ?_
  dsimp only
  rw [m_dl ha hg hB hq h0 hi2]
  exact h
theorem R_ov {K : wK} (hr : fm_N r) (hd : 1 ≤ d) (ha : rr (M r) g) (hg : gok g B) {q i : Nat} (hq : q < 8) (h0 : 0 < g q) (hi2 : i < 2 ^ 23) (h : K (nI (g_ov g q i)) M ML R) : wI d 144 [.ref r, .int (nI q), .int (nI i)] M ML R K := by
  refine wI_of (t_mov hr (M, ML, R) q hq (rr_ne ha hq hg h0) (nI i)) hd ?_
  dsimp only
  rw [m_ov ha hg hq h0 hi2]
  exact h
theorem R_len {K : wK} (hr : fm_N r) (hd : 2 ≤ d) (ha : rr (M r) g) (hg : gok g B) (hB : B < 2 ^ 22) {q i : Nat} (hq : q < 8) (h0 : 0 < g q) (hi : 0 < i) (hi2 : i < 2 ^ 23) (h : K (nI (g_dl g q i) - nI (g_rel g q i)) M ML R) : wI d 145 [.ref r, .int (nI q), .int (nI i)] M ML R K := by
  refine wI_of (t_mlen hr (M, ML, R) q hq (rr_ne ha hq hg h0) (nI i)) hd ?_
  dsimp only
  rw [md_len, m_dl ha hg hB hq h0 hi2, m_rel ha hg hB hq h0 hi hi2]
  exact h
theorem R_gp {K : wK} (hr : fm_N r) (hd : 3 ≤ d) (ha : rr (M r) g) (hg : gok g B) (hB : B < 2 ^ 22) {q i : Nat} (hq : q < 8) (h0 : 0 < g q) (hi : 0 < i) (hi2 : i < 2 ^ 22) (h : K (nI (g_gp g q i)) M ML R) : wI d 146 [.ref r, .int (nI q), .int (nI i)] M ML R K := by
  obtain ⟨k1, k2⟩ := m_gp ha hg hB hq h0 hi hi2
  refine wI_of (t_mgroup hr (M, ML, R) q hq (rr_ne ha hq hg h0) (nI i) k2) hd ?_
  dsimp only
  rw [k1]
  exact h
theorem R_rdy {K : wK} (hr : fm_N r) (hd : 2 ≤ d) (ha : rr (M r) g) (hg : gok g B) (hB : B < 2 ^ 21) {q : Nat} (hq : q < 8) (h : K (if g_rd g q = true then 1 else 0) M ML R) : wI d 147 [.ref r, .int (nI q)] M ML R K := by
  refine wI_of (t_mready hr (M, ML, R) q hq) hd ?_
  dsimp only
  rw [m_rdy ha hg hB hq]
  exact h
theorem R_lag {K : wK} (hr : fm_N r) (hd : 1 ≤ d) (ha : rr (M r) g) {q : Nat} (hq : q < 8) (h : K (lgI g q) M ML R) : wI d 186 [.ref r, .int (nI q)] M ML R K := by
  refine wI_of (t_mlagUp hr (M, ML, R) q hq) hd ?_
  dsimp only
  rw [md_lag, ha _ (by omega), ha _ (by omega), ha _ (by omega), ha _ (by omega), ha _ (by omega)]
  exact h
theorem R_tell {K : wKv} (hd : 1 ≤ d) (hw : JW M ML rw) (h8 : rw.length < 16) (v : Int64) (hK : ∀ M1 L1, JW M1 L1 (rw ++ [v]) → fr (fun a i => a = 219 ∧ i = 4) M M1 → fr (fun a _ => a = 222) ML L1 → K M1 L1 R) : wV d 135 [.ref 219, .long v] M ML R K := by
  obtain ⟨h2, h3⟩ := hw
  have t := t_mtell (M, ML, R) rw.length h8 h2 v
  rw [md_tell] at t
  dsimp only at t
  rw [h2, nI_clamp (by omega)] at t
  refine wV_of t hd (hK _ _ ⟨by rw [fm_u_at, nI_1]; simp, fun k hk => ?_⟩ (fr_u ⟨rfl, rfl⟩) (fun a i z => ?_))
  · simp at hk
    by_cases e : k = rw.length
    · subst e
      simp [fm_ul, vp_updL, List.getD_eq_getElem?_getD]
    · have hk2 : k < rw.length := by omega
      have e1 : fm_ul ML 222 rw.length v 222 k = ML 222 k := by simp [fm_ul, vp_updL, e]
      rw [e1, h3 k hk2, List.getD_eq_getElem?_getD, List.getD_eq_getElem?_getD, List.getElem?_append_left hk2]
  · have z : ¬ a = 222 := z
    simp [fm_ul, z]
theorem JW_0 {M1 : Nat → Nat → Int32} (h : M1 219 4 = 0) : JW M1 ML [] := ⟨by rw [h]; rfl, fun k hk => absurd hk (by simp)⟩
/-- now is laid into then -/
theorem R_then {K : wKv} (hd : 1 ≤ d) (ha : rr (M 220) g) (hK : ∀ M1, rr (M1 227) g → fr (fun a _ => a = 227) M M1 → K M1 ML R) : wV d 170 [.ref 220, .ref 227, .int 0] M ML R K := by
  refine wV_of (t_mlay fm_s220 fm_s227 (by decide) 0 (by decide) (by decide) (by decide) (by decide) M ML R) hd (hK _ (fun k hk => ?_) (fr_row (fun _ => rfl)))
  rw [fm_row_row, md_lay, if_pos (by omega)]
  exact ha k hk
theorem R_go {K : wK} (hr : fm_N r) (hr2 : r = 220 ∨ r = 226 ∨ r = 227) (hd : 7 ≤ d) (ht : JT M R ts) (hts : tsok ts) (ha : rr (M r) g) (hg : gok g B) (hB : B < 2 ^ 21) (kept : Int32) (hK : ∀ M1, fr (fun a i => (a = 219 ∧ (i = 22 ∨ i = 23)) ∨ a = 223 ∨ a = r) M M1 → M1 219 22 = nI (bc (g_w g kept)) → M1 219 23 = nI (g_ms (g_d2 g (g_rn g ts kept)) 8) → rr (M1 r) (g_go g ts kept) → K (nI (g_rn g ts kept)) M1 ML R) : wI d 172 [.ref 219, .ref r, .int kept] M ML R K :=
  m_go hd hr (by omega) ⟨ht.1, fm_s244, ht.2.2.1, hts.1⟩ ht.2.2.2 hts ha hg hB kept (fun M1 f1 f2 h22 h23 hrr => hK M1 (fun a i z => by
    by_cases e : a = 219
    · subst e
      exact f2 i (fun y => z (by omega)) (fun y => z (by omega))
    · rw [f1 a e (fun y => z (by omega)) (fun y => z (by omega))]) h22 h23 hrr)
end rrule
