/-! the class's methods, told over what the world is -/
def th (g : gr) (t : Int32) : Prop := ∃ q, q < 8 ∧ t = nI q ∧ 0 < g q
def g_da (g : gr) : Nat → Nat
  | 0 => 0
  | k + 1 => g_da g k + g (32 + k)
def g_ts (g : gr) : Nat := bm (fun q => decide (0 < g q)) 8
theorem g_ts_lt (g : gr) : g_ts g < 256 := bm_lt _ 8 (by omega)
def lgI (g : gr) (q : Nat) : Int32 := (nI (g 41) - nI (g (16 + q))) * nI (g q) - nI (g (32 + q)) * nI (g (8 + q))
theorem i8c {t : Int32} : (∃ q, q < 8 ∧ t = nI q) ∨ (t < 0 ∨ 8 ≤ t) := by
  by_cases h1 : t < 0
  · exact Or.inr (Or.inl h1)
  · by_cases h2 : 8 ≤ t
    · exact Or.inr (Or.inr h2)
    · obtain ⟨q, hq, e⟩ := nI_of_in (in8 h1 h2)
      exact Or.inl ⟨q, hq, e⟩
theorem nI_n8 {t : Int32} (h : t < 0 ∨ 8 ≤ t) {q : Nat} (hq : q < 8) : ¬ t = nI q := fun e => by
  subst e
  rcases h with h | h
  · exact absurd h (Int32.not_lt.mpr ((nI_leI (a := 0) (by decide) (by omega)).mpr (by omega)))
  · exact absurd ((nI_leI (a := 8) (by decide) (by omega)).mp h) (by omega)
theorem nI_inj8 {p q : Nat} (hp : p < 8) (hq : q < 8) (h : nI p = nI q) : p = q := (nI_eq (by omega) (by omega)).mp h
theorem th_nI {g : gr} {q : Nat} (hq : q < 8) : th g (nI q) ↔ 0 < g q := by
  constructor
  · rintro ⟨p, hp, e, h⟩
    have := nI_inj8 hq hp e
    subst this
    exact h
  · exact fun h => ⟨q, hq, rfl, h⟩
section crule
variable {d b o B : Nat} {g : gr} {ts : List Nat} {rw : List Int64} {M : Nat → Nat → Int32} {ML : Nat → Nat → Int64} {R : Nat → Nat → Option Nat}
theorem c_th1 (hc : cr M b g) (hg : gok g B) (t : Int32) : (∃ q, q < 8 ∧ t = nI q ∧ 0 < g q ∧ wd_there M b t = 1) ∨ (¬ th g t ∧ wd_there M b t = 0) := by
  rcases i8c (t := t) with ⟨q, hq, rfl⟩ | h
  · have h1 := c_there hc hg hq
    by_cases h : 0 < g q
    · rw [if_pos h] at h1; exact Or.inl ⟨q, hq, rfl, h, h1⟩
    · rw [if_neg h] at h1; exact Or.inr ⟨fun z => h ((th_nI hq).mp z), h1⟩
  · refine Or.inr ⟨fun ⟨q, hq, e, _⟩ => nI_n8 h hq e, ?_⟩
    rw [wd_there]
    rcases h with h | h
    · rw [if_pos h]
    · by_cases h2 : t < 0
      · rw [if_pos h2]
      · rw [if_neg h2, if_pos h]
theorem C_th {K : wK} (hb : fm_W b) (hd : 1 ≤ d) (hc : cr M b g) (hg : gok g B) (t : Int32) (h1 : ∀ q, q < 8 → t = nI q → 0 < g q → K 1 M ML R) (h0 : ¬ th g t → K 0 M ML R) : wI d 49 [.ref b, .int t] M ML R K := by
  refine wI_of (t_isThere hb (M, ML, R) t) hd ?_
  dsimp only
  rcases c_th1 hc hg t with ⟨q, hq, e, h, h2⟩ | ⟨h, h2⟩
  · rw [h2]; exact h1 q hq e h
  · rw [h2]; exact h0 h
theorem C_copy {K : wKv} (hb : fm_W b) (ho : fm_W o) (hbo : b + 10 < o ∨ o + 10 < b) (hd : 1 ≤ d) (hc : cr M o g) (hK : ∀ M1, cr M1 b g → (∀ a, ¬ (b ≤ a ∧ a ≤ b + 10) → M1 a = M a) → (∀ i, 13 ≤ i → M1 b i = M b i) → K M1 ML R) : wV d 48 [.ref b, .ref o] M ML R K := by
  refine wV_of (t_copyFrom hb ho hbo (M, ML, R)) hd (hK _ ?_ (fun a ha => wd_copy_off (by omega)) (fun i hi => by rw [wd_copy_ix, if_neg (by omega), if_neg (by omega), if_neg (by omega)]))
  obtain ⟨h1, h2, h3, h4⟩ := hc
  refine ⟨?_, ?_, ?_, fun q hq => ?_⟩
  · rw [wd_copy_ix, if_neg (by decide), if_neg (by decide), if_pos rfl]; exact h1
  · rw [wd_copy_ix, if_neg (by decide), if_pos rfl]; exact h2
  · rw [wd_copy_ix, if_pos rfl]; exact h3
  · have h := h4 q hq
    unfold ct at h ⊢
    rw [wd_copy_row (by omega) hq, wd_copy_row (by omega) hq, wd_copy_row (by omega) hq, wd_copy_row (by omega) hq, wd_copy_row (by omega) hq, wd_copy_row (by omega) hq, wd_copy_row (by omega) hq, wd_copy_row (by omega) hq, wd_copy_row (by omega) hq, wd_copy_row (by omega) hq]
    exact h
theorem C_go {K : wKv} {t : Nat} (hb : fm_W b) (ht : fm_T t) (hbt : t + 1 < b ∨ b + 10 < t) (hd : 5 ≤ d) (hc : cr M b g) (hg : gok g B) (hB : B < 2 ^ 21) (htr : tr M t ts) (hts : tsok ts) (held : Int32) (hK : ∀ M1, cr M1 b (g_go g ts held) → M1 b 13 = nI (g_rn g ts held) → M1 b 14 = nI (bc (g_w g held)) → M1 b 15 = nI (g_ms (g_d2 g (g_rn g ts held)) 8) → M1 b 16 = M b 16 → (∀ a, ¬ (b ≤ a ∧ a ≤ b + 10) → M1 a = M a) → K M1 ML R) : wV d 63 [.ref b, .ref t, .int held] M ML R K := by
  obtain ⟨k1, k2, k3, k4⟩ := c_gob hc hg hB htr hts held
  exact wV_of (t_goBy hb ht hbt (M, ML, R) ts.length (g 40) hts.1 htr.1 (by have := hg.2.1; omega) hc.1 ((cr_bn hc hg (by omega)).bd (by omega)) held) hd (hK _ k1 k2 k3 k4 (wd_gob_ix (by decide) (by decide) (by decide) (by decide) (by decide)) (fun a ha => wd_gob_off (by omega)))
theorem c_tset (hc : cr M b g) (hg : gok g B) : ∀ k, k ≤ 8 → wd_thereSet M b k = nI (bm (fun q => decide (0 < g q)) k) := by
  intro k
  induction k with
  | zero => intro _; rfl
  | succ k ih =>
    intro hk
    have h1 := hg.lo (q := k) (by omega)
    have h2 := hg.lo0 (q := k) (by omega)
    rw [wd_thereSet, ih (by omega), (hc.2.2.2 k (by omega)).1, bm]
    by_cases h : 0 < g k
    · rw [if_neg (nI_nle (h2.mpr h) (by omega)), if_pos (by simp [h]), bt_or _ (bm_lt _ k (by omega)) k (by omega)]
    · rw [show g (8 + k) = 0 by omega, if_pos (by decide), if_neg (by simp [h])]
theorem C_tset {K : wK} (hb : fm_W b) (hd : 1 ≤ d) (hc : cr M b g) (hg : gok g B) (h : K (nI (g_ts g)) M ML R) : wI d 50 [.ref b] M ML R K := by
  refine wI_of (t_thereSet hb (M, ML, R)) hd ?_
  dsimp only
  rw [c_tset hc hg 8 (by omega)]
  exact h
theorem c_doa (hc : cr M b g) (hg : gok g B) : ∀ k, k ≤ 8 → wd_doa M b k = nI (g_da g k) := by
  intro k
  induction k with
  | zero => intro _; rfl
  | succ k ih =>
    intro hk
    have h1 := hg.lo (q := k) (by omega)
    have h2 := hg.lo0 (q := k) (by omega)
    rw [wd_doa, ih (by omega), (hc.2.2.2 k (by omega)).1, g_da]
    by_cases h : 0 < g k
    · rw [if_neg (nI_nle (h2.mpr h) (by omega)), ((hc.2.2.2 k (by omega)).2.2.2.2 h).2.2.2.1, nI_add]
    · rw [show g (8 + k) = 0 by omega, if_pos (by decide), (hg.n (by omega) h).2.2.2.2, Nat.add_zero]
theorem C_doa {K : wK} (hb : fm_W b) (hd : 1 ≤ d) (hc : cr M b g) (hg : gok g B) (h : K (nI (g_da g 8)) M ML R) : wI d 52 [.ref b] M ML R K := by
  refine wI_of (t_doneOfAll hb (M, ML, R)) hd ?_
  dsimp only
  rw [c_doa hc hg 8 (by omega)]
  exact h
theorem c_ws (hc : cr M b g) : ∀ k, k ≤ 8 → wd_ws M b k = nI (g_ws g k) := by
  intro k
  induction k with
  | zero => intro _; rfl
  | succ k ih =>
    intro hk
    rw [wd_ws, ih (by omega), (hc.2.2.2 k (by omega)).2.1, g_ws, nI_add]
theorem C_ws {K : wK} (hb : fm_W b) (hd : 1 ≤ d) (hc : cr M b g) (h : K (nI (g_ws g 8)) M ML R) : wI d 69 [.ref b] M ML R K := by
  refine wI_of (t_weightSum hb (M, ML, R)) hd ?_
  dsimp only
  rw [c_ws hc 8 (by omega)]
  exact h
theorem C_rdy {K : wK} (hb : fm_W b) (hd : 2 ≤ d) (hc : cr M b g) (hg : gok g B) (hB : B < 2 ^ 22) {q : Nat} (hq : q < 8) (h : K (if g_rd g q = true then 1 else 0) M ML R) : wI d 59 [.ref b, .int (nI q)] M ML R K := by
  refine wI_of (t_isReady hb (M, ML, R) (nI q)) hd ?_
  dsimp only
  rw [c_rdy hc hg hB hq]
  exact h
theorem C_run {K : wK} (hb : fm_W b) (hd : 1 ≤ d) {w q : Nat} (hw : w < 256) (h13 : M b 13 = nI w) (hq : q < 8) (h : K (if w.testBit q = true then 1 else 0) M ML R) : wI d 60 [.ref b, .int (nI q)] M ML R K := by
  refine wI_of (t_hasRun hb (M, ML, R) (nI q)) hd ?_
  dsimp only
  rw [wd_run, h13, bt_get w hw q hq]
  by_cases z : w.testBit q = true
  · rw [if_pos z] at h ⊢
    exact h
  · rw [if_neg z] at h ⊢
    exact h
theorem C_rset {K : wK} (hb : fm_W b) (hd : 3 ≤ d) (hc : cr M b g) (hg : gok g B) (hB : B < 2 ^ 22) (held : Int32) (h : K (nI (g_w g held)) M ML R) : wI d 61 [.ref b, .int held] M ML R K := by
  refine wI_of (t_readySet hb (M, ML, R) held) hd ?_
  dsimp only
  rw [c_rset hc hg hB held 8 (by omega)]
  exact h
theorem C_first {K : wK} {t w : Nat} (hb : fm_W b) (ht : fm_T t) (hd : 4 ≤ d) (hc : cr M b g) (hg : gok g B) (hB : B < 2 ^ 22) (htr : tr M t ts) (hts : tsok ts) (hw : w < 256) (hp : ∀ j, j < 8 → w.testBit j = true → 0 < g j) (h : K (ov (g_pk g ts w 8)) M ML R) : wI d 62 [.ref b, .int (nI w), .ref t] M ML R K := by
  refine wI_of (t_firstOf hb ht (M, ML, R) ts.length hts.1 htr.1 (nI w)) hd ?_
  dsimp only
  rw [c_pk hc hg hB htr hts hw hp 8 (by omega)]
  exact h
theorem C_rel {K : wK} (hb : fm_W b) (hd : 2 ≤ d) (hc : cr M b g) (hg : gok g B) {q i : Nat} (hq : q < 8) (h0 : 0 < g q) (hi : 0 < i) (hi2 : i < 2 ^ 23) (h : K (nI (g_rel g q i)) M ML R) : wI d 55 [.ref b, .int (nI q), .int (nI i)] M ML R K := by
  refine wI_of (t_releaseOf hb (M, ML, R) (nI q) (nI i) (in_nI hq (by decide))) hd ?_
  dsimp only
  obtain ⟨c1, c4, -⟩ := (hc.2.2.2 q hq).2.2.2.2 h0
  rw [nI_clamp (by omega), c1, c4, (hc.2.2.2 q hq).1, n_rel h0 (hg.e hq) (hg.lo hq) hi (by omega), nI_add]
  exact h
theorem C_dl {K : wK} (hb : fm_W b) (hd : 2 ≤ d) (hc : cr M b g) (hg : gok g B) {q i : Nat} (hq : q < 8) (h0 : 0 < g q) (hi2 : i < 2 ^ 23) (h : K (nI (g_dl g q i)) M ML R) : wI d 56 [.ref b, .int (nI q), .int (nI i)] M ML R K := by
  refine wI_of (t_deadlineOf hb (M, ML, R) (nI q) (nI i) (in_nI hq (by decide))) hd ?_
  dsimp only
  obtain ⟨c1, c4, -⟩ := (hc.2.2.2 q hq).2.2.2.2 h0
  rw [nI_clamp (by omega), c1, c4, (hc.2.2.2 q hq).1, n_dl h0 (hg.e hq) (hg.lo hq) (by omega), nI_add]
  exact h
theorem C_ov {K : wK} (hb : fm_W b) (hd : 2 ≤ d) (hc : cr M b g) (hg : gok g B) {q i : Nat} (hq : q < 8) (h0 : 0 < g q) (hi2 : i < 2 ^ 23) (h : K (nI (g_ov g q i)) M ML R) : wI d 57 [.ref b, .int (nI q), .int (nI i)] M ML R K := by
  refine wI_of (t_overlapOf hb (M, ML, R) (nI q) (nI i) (in_nI hq (by decide))) hd ?_
  dsimp only
  obtain ⟨c1, c4, -⟩ := (hc.2.2.2 q hq).2.2.2.2 h0
  rw [nI_clamp (by omega), c1, (hc.2.2.2 q hq).1, n_ov h0 (hg.e hq) (hg.lo hq) (by omega)]
  exact h
theorem c_gof (hc : cr M b g) (hg : gok g B) {q i : Nat} (hq : q < 8) (h0 : 0 < g q) (hi : 0 < i) (hi2 : i < 2 ^ 23) : wd_gof M b q (nI i) = nI (g_gp g q i) := by
  obtain ⟨c1, c4, -⟩ := (hc.2.2.2 q hq).2.2.2.2 h0
  have h3 := p_gp_lt (e := g q) (p := g (8 + q)) (i := i) (hg.e hq) (hg.lo hq) hi2
  rw [wd_gof, c1, c4, (hc.2.2.2 q hq).1, n_gp h0 (hg.e hq) (hg.lo hq) hi hi2, g_gp]
  by_cases z : p_gp (g q) (g (8 + q)) i = 0
  · rw [if_pos z, z]
    first | rw [if_pos nI_0]; rfl | rw [if_neg (fun y => y nI_0)]; rfl
  · rw [if_neg z]
    first | rw [if_neg (nI_ne0 (by omega) (by omega)), nI_add] | rw [if_pos (nI_ne0 (by omega) (by omega)), nI_add]
theorem C_gp {K : wK} (hb : fm_W b) (hd : 3 ≤ d) (hc : cr M b g) (hg : gok g B) {q i : Nat} (hq : q < 8) (h0 : 0 < g q) (hi : 0 < i) (hi2 : i < 2 ^ 23) (h : K (nI (g_gp g q i)) M ML R) : wI d 58 [.ref b, .int (nI q), .int (nI i)] M ML R K := by
  have c1 := ((hc.2.2.2 q hq).2.2.2.2 h0).1
  have e12 := hg.e hq
  have hcl : (nI q).toNatClampNeg = q := nI_clamp (by omega)
  refine wI_of (t_groupOf hb (M, ML, R) (nI q) (nI i) (in_nI hq (by decide)) (by dsimp only; rw [hcl, c1, nI_toInt (by omega)]; omega) (by rw [nI_toInt (by omega)]; omega) (by dsimp only; rw [hcl, c1, nI_toInt (by omega), nI_toInt (by omega)]; omega)) hd ?_
  dsimp only
  rw [hcl, c_gof hc hg hq h0 hi hi2]
  exact h
theorem c_lag (hc : cr M b g) {q : Nat} (hq : q < 8) (h0 : 0 < g q) : wd_lag M b q = lgI g q := by
  obtain ⟨c1, c4, c5, c6, -⟩ := (hc.2.2.2 q hq).2.2.2.2 h0
  rw [wd_lag, c1, c4, c6, (hc.2.2.2 q hq).1, hc.2.1]
  rfl
theorem C_lag {K : wK} (hb : fm_W b) (hd : 1 ≤ d) (hc : cr M b g) {q : Nat} (hq : q < 8) (h0 : 0 < g q) (h : K (lgI g q) M ML R) : wI d 71 [.ref b, .int (nI q)] M ML R K := by
  refine wI_of (t_lagUpper hb (M, ML, R) (nI q) (in_nI hq (by decide))) hd ?_
  dsimp only
  rw [nI_clamp (by omega), c_lag hc hq h0]
  exact h
/-! the ROW -/
theorem C_clear {K : wKv} (hd : 1 ≤ d) (hK : ∀ M1, IW M1 ML [] → fr (fun a _ => a = 44) M M1 → K M1 ML R) : wV d 15 [.ref 44] M ML R K := by
  refine wV_of (t_rclear (M, ML, R)) hd (hK _ ⟨by decide, ?_, fun k hk => absurd hk (by simp)⟩ (fr_u rfl))
  rw [fm_u_at]
  rfl
theorem C_add {K : wKv} (hd : 1 ≤ d) (hw : IW M ML rw) (h8 : rw.length < 8) (v : Int64) (hK : ∀ M1 L1, IW M1 L1 (rw ++ [v]) → fr (fun a _ => a = 44) M M1 → fr (fun a _ => a = 45) ML L1 → K M1 L1 R) : wV d 16 [.ref 44, .long v] M ML R K := by
  obtain ⟨h1, h2, h3⟩ := hw
  have hok : rw_ok (M, ML, R) := by
    unfold rw_ok
    dsimp only
    rw [h2]
    exact ⟨Int32.not_lt.mpr ((nI_leI (a := 0) (by decide) (by omega)).mpr (by omega)), (nI_leI (b := 8) (by omega) (by decide)).mpr (by omega)⟩
  have t := t_radd (M, ML, R) hok v
  rw [rw_add, if_neg (show ¬ 8 ≤ (M, ML, R).1 44 1 by dsimp only; rw [h2]; exact fun z => absurd ((nI_leI (a := 8) (by decide) (by omega)).mp z) (by omega))] at t
  dsimp only at t
  rw [h2, nI_clamp (by omega)] at t
  refine wV_of t hd (hK _ _ ⟨by simp; omega, by rw [fm_u_at, nI_1]; simp, fun k hk => ?_⟩ (fr_u rfl) (fun a i z => ?_))
  · simp at hk
    by_cases e : k = rw.length
    · subst e
      simp [fm_ul, vp_updL, List.getD_eq_getElem?_getD]
    · have hk2 : k < rw.length := by omega
      have e1 : fm_ul ML 45 rw.length v 45 k = ML 45 k := by simp [fm_ul, vp_updL, e]
      rw [e1, h3 k hk2, List.getD_eq_getElem?_getD, List.getD_eq_getElem?_getD, List.getElem?_append_left hk2]
  · have z : ¬ a = 45 := z
    simp [fm_ul, z]
end crule
