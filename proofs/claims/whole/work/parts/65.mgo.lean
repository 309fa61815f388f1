/-! a SLOT of the reference's row -/
theorem sub_sg {x y : Nat} (hx : x < 2 ^ 30) (hy : y < 2 ^ 30) : sg_eq (nI x - nI y) ((x : Int) - y) := by
  have h1 : (nI x - nI y).toInt = (x : Int) - y := by rw [Kit.i32_sub (by rw [nI_toInt (by omega), nI_toInt (by omega)]; omega) (by rw [nI_toInt (by omega), nI_toInt (by omega)]; omega), nI_toInt (by omega), nI_toInt (by omega)]
  have h0 : (0 : Int32).toInt = 0 := rfl
  constructor
  · rw [← Int32.toInt_inj, h1, h0]
  · rw [Int32.le_iff_toInt_le, h1, h0]
section mgo
variable {a : Nat → Int32} {g : gr} {B : Nat}
theorem m_th (hr : rr a g) (hg : gok g B) {q : Nat} (hq : q < 8) : md_th a q = if 0 < g q then 1 else 0 := by
  have h1 := hg.e hq
  rw [md_th, hr q (by omega)]
  by_cases h : 0 < g q
  · rw [if_pos h, if_neg (nI_nle h (by omega))]
  · rw [if_neg h, show g q = 0 by omega]; rfl
theorem m_rel (hr : rr a g) (hg : gok g B) (hB : B < 2 ^ 22) {q i : Nat} (hq : q < 8) (h0 : 0 < g q) (hi : 0 < i) (hi2 : i < 2 ^ 23) : md_rel a q (nI i) = nI (g_rel g q i) := by
  have h1 : (i - 1) * g (8 + q) ≤ i * g (8 + q) := Nat.mul_le_mul_right _ (by omega)
  have h2 := p_mul (i := i) (by omega) (hg.lo hq)
  have h3 := hg.e hq
  rw [md_rel, hr _ (by omega), hr _ (by omega), hr _ (by omega), show nI i - 1 = nI (i - 1) from nI_sub (b := 1) hi, nI_mul, nI_div (by omega) (by omega), nI_add]
  rfl
theorem m_dl (hr : rr a g) (hg : gok g B) (hB : B < 2 ^ 22) {q i : Nat} (hq : q < 8) (h0 : 0 < g q) (hi2 : i < 2 ^ 23) : md_dl a q (nI i) = nI (g_dl g q i) := by
  have h2 := p_mul (i := i) (by omega) (hg.lo hq)
  have h3 := hg.e hq
  rw [md_dl, hr _ (by omega), hr _ (by omega), hr _ (by omega), nI_mul, nI_add, show nI (i * g (8 + q) + g q) - 1 = nI (i * g (8 + q) + g q - 1) from nI_sub (b := 1) (by omega), nI_div (by omega) (by omega), nI_add]
  rfl
theorem m_ov (hr : rr a g) (hg : gok g B) {q i : Nat} (hq : q < 8) (h0 : 0 < g q) (hi2 : i < 2 ^ 23) : md_ov a q (nI i) = nI (g_ov g q i) := by
  have h2 := p_mul (i := i) (by omega) (hg.lo hq)
  have h3 := hg.e hq
  have h4 := Nat.mod_le (i * g (8 + q)) (g q)
  rw [md_ov, hr _ (by omega), hr _ (by omega), nI_mul, nI_rem (by omega) (by omega), g_ov, p_ov]
  by_cases h : i * g (8 + q) % g q = 0
  · rw [h, if_pos nI_0, if_pos rfl]; rfl
  · rw [if_neg h, if_neg (nI_ne0 (by omega) (by omega))]; rfl
theorem m_len (hr : rr a g) (hg : gok g B) (hB : B < 2 ^ 22) {q i : Nat} (hq : q < 8) (h0 : 0 < g q) (hi : 0 < i) (hi2 : i < 2 ^ 23) : md_len a q (nI i) = nI (p_dl (g q) (g (8 + q)) i - p_rel (g q) (g (8 + q)) i) := by
  have h1 := p_rel_dl (e := g q) (p := g (8 + q)) (i := i)
  rw [md_len, m_dl hr hg hB hq h0 hi2, m_rel hr hg hB hq h0 hi hi2, g_dl, g_rel, nI_sub (by omega)]
  congr 1
  omega
theorem m_gl (hr : rr a g) (hg : gok g B) (hB : B < 2 ^ 22) {q : Nat} (hq : q < 8) (h0 : 0 < g q) {least : Nat} (hl : least < 2 ^ 29) : ∀ n' n k, n' ≤ n → 0 < k → k + n' < 2 ^ 23 → (∃ t, t < n' ∧ p_ov (g q) (g (8 + q)) (k + t) = 0) → md_gl a q (nI (g (16 + q) + least)) n (nI k) = some (nI (g (16 + q) + p_gl (g q) (g (8 + q)) least n' k)) := by
  intro n'
  induction n' with
  | zero => intro n k _ _ _ ⟨t, ht, _⟩; omega
  | succ n' ih =>
    intro n k hn hk hkn ⟨t, ht, hto⟩
    obtain ⟨m, rfl⟩ : ∃ m, n = m + 1 := ⟨n - 1, by omega⟩
    have hp := hg.p hq h0
    have hjj := hg.dn hq
    have hbb := hg.2.2.1
    have d1 := p_dl_lt (e := g q) (p := g (8 + q)) (i := k) (by omega) (hg.lo hq) (hg.e hq)
    have d2 := p_dl_pos (e := g q) (p := g (8 + q)) (i := k) h0 (by have := hp.1; have := hp.2.1; omega) hk
    have d3 := p_rel_dl (e := g q) (p := g (8 + q)) (i := k)
    have o1 := g_ov_lt g q k
    have hrec : ¬ g_ov g q k = 0 → md_gl a q (nI (g (16 + q) + least)) m (nI k + 1) = some (nI (g (16 + q) + p_gl (g q) (g (8 + q)) least n' (k + 1))) := fun z => by
      rw [nI_1]
      refine ih m (k + 1) (by omega) (by omega) (by omega) ?_
      cases t with
      | zero => exact absurd hto z
      | succ t => exact ⟨t, by omega, by rw [show k + 1 + t = k + (t + 1) by omega]; exact hto⟩
    have hmin : nI (g (16 + q) + p_dl (g q) (g (8 + q)) k) - 1 = nI (g (16 + q) + p_dl (g q) (g (8 + q)) k - 1) := nI_sub (b := 1) (by omega)
    have eo : g_ov g q k = p_ov (g q) (g (8 + q)) k := rfl
    rw [md_gl, p_gl, m_len hr hg hB hq h0 hk (by omega), m_ov hr hg hq h0 (by omega), m_dl hr hg hB hq h0 (by omega), ← eo, g_dl]
    by_cases c3 : p_dl (g q) (g (8 + q)) k = p_rel (g q) (g (8 + q)) k + 3
    · rw [if_neg (fun z => z (by rw [show p_dl (g q) (g (8 + q)) k - p_rel (g q) (g (8 + q)) k = 3 by omega]; rfl)), hmin]
      by_cases c1 : least < p_dl (g q) (g (8 + q)) k
      · rw [if_neg (fun z => absurd ((nI_ltI (by omega) (by omega)).mp z) (by omega)), if_pos (show least < p_dl (g q) (g (8 + q)) k ∧ p_dl (g q) (g (8 + q)) k = p_rel (g q) (g (8 + q)) k + 3 from ⟨c1, c3⟩)]
        congr 2
        omega
      · rw [if_pos ((nI_ltI (by omega) (by omega)).mpr (by omega)), if_neg (show ¬ (least < p_dl (g q) (g (8 + q)) k ∧ p_dl (g q) (g (8 + q)) k = p_rel (g q) (g (8 + q)) k + 3) from fun z => c1 z.1)]
        by_cases c2 : g_ov g q k = 0
        · rw [if_pos c2, c2, if_neg (fun z => z nI_0)]
        · rw [if_neg c2, if_pos (nI_ne0 (by omega) (by omega)), hrec c2]
    · rw [if_pos (show ¬ nI (p_dl (g q) (g (8 + q)) k - p_rel (g q) (g (8 + q)) k) = 3 from fun z => c3 (by have := (nI_eq (a := p_dl (g q) (g (8 + q)) k - p_rel (g q) (g (8 + q)) k) (b := 3) (by omega) (by omega)).mp z; omega)), if_neg (show ¬ (least < p_dl (g q) (g (8 + q)) k ∧ p_dl (g q) (g (8 + q)) k = p_rel (g q) (g (8 + q)) k + 3) from fun z => c3 z.2)]
      by_cases c2 : g_ov g q k = 0
      · rw [if_pos c2, c2, if_neg (fun z => z nI_0)]
      · rw [if_neg c2, if_pos (nI_ne0 (by omega) (by omega)), hrec c2]
theorem m_gp (hr : rr a g) (hg : gok g B) (hB : B < 2 ^ 22) {q i : Nat} (hq : q < 8) (h0 : 0 < g q) (hi : 0 < i) (hi2 : i < 2 ^ 22) : md_gp a q (nI i) = nI (g_gp g q i) ∧ md_gok a q (nI i) := by
  have hp := hg.p hq h0
  have d1 := p_dl_lt (e := g q) (p := g (8 + q)) (i := i) (by omega) (hg.lo hq) (hg.e hq)
  have he := hg.e hq
  have hl := hg.lo hq
  have key := m_gl hr hg hB hq h0 (least := p_dl (g q) (g (8 + q)) i) (by omega) (g q) 13 i (by omega) hi (by omega) (p_end h0 i)
  have ed : md_dl a q (nI i) = nI (g (16 + q) + p_dl (g q) (g (8 + q)) i) := m_dl hr hg hB hq h0 (by omega)
  rw [← ed] at key
  refine ⟨?_, fun _ => by rw [key]; rfl⟩
  rw [md_gp, key, hr _ (by omega), hr _ (by omega), show (2 : Int32) * nI (g q) = nI (2 * g q) from nI_mul 2 (g q), g_gp]
  by_cases c : 2 * g q < g (8 + q)
  · rw [if_neg (fun z => absurd ((nI_leI (by omega) (by omega)).mp z) (by omega)), if_pos (by rw [p_gp, if_pos c])]
    rfl
  · have h3 := p_gp_pos (e := g q) (p := g (8 + q)) (i := i) h0 (by have := hp.1; have := hp.2.1; omega) hi c
    rw [if_pos ((nI_leI (by omega) (by omega)).mpr (by omega)), if_neg (by omega), p_gp, if_neg c]
    rfl
theorem m_nx (hr : rr a g) {q : Nat} (hq : q < 8) : a (32 + q) + 1 = nI (g_nx g q) := by rw [hr _ (by omega), nI_1]
theorem g_nx_lt2 (hg : gok g B) (hB : B < 2 ^ 21) {q : Nat} (hq : q < 8) : 0 < g_nx g q ∧ g_nx g q < 2 ^ 22 := by
  have h1 := hg.dn hq
  have h2 := hg.2.2.1
  unfold g_nx
  omega
theorem m_rdy (hr : rr a g) (hg : gok g B) (hB : B < 2 ^ 21) {q : Nat} (hq : q < 8) : md_rdy a q = if g_rd g q = true then 1 else 0 := by
  rw [md_rdy, m_th hr hg hq, g_rd]
  by_cases h : 0 < g q
  · have h1 := hg.p hq h
    have h3 := h1.2.2.2.1
    have h4 := hg.2.2.1
    have hn := g_nx_lt2 hg hB hq
    have h5 := g_rel_lt (i := g_nx g q) hg (by omega) hq (by omega)
    rw [if_pos h, if_neg (by decide), m_nx hr hq, m_rel hr hg (by omega) hq h hn.1 (by omega), hr 41 (by omega), hr _ (by omega)]
    by_cases h2 : g (24 + q) = 1
    · rw [h2, if_pos (by decide), if_pos (by simp [h])]
    · rw [show g (24 + q) = 0 by omega, if_neg (by decide)]
      by_cases h6 : g_rel g q (g_nx g q) ≤ g 41
      · rw [if_neg (fun z => absurd ((nI_ltI (by omega) (by omega)).mp z) (by omega)), if_pos (by simp [h, h6])]
      · rw [if_pos ((nI_ltI (by omega) (by omega)).mpr (by omega)), if_neg (by simp [h6])]
  · rw [if_neg h, if_pos rfl, if_neg (by simp [h])]
theorem m_lead (hr : rr a g) (hg : gok g B) (hB : B < 2 ^ 21) {p q : Nat} (hp : p < 8) (hq : q < 8) (p0 : 0 < g p) (q0 : 0 < g q) {c : Nat} (hv : c = 98 ∨ c = 100 ∨ c = 103 ∨ c = 114 ∨ c = 119) : sg_eq (md_lead a (nI c) p q) (g_ld g c p q) := by
  have np := g_nx_lt2 hg hB hp
  have nq := g_nx_lt2 hg hB hq
  have b1 := g_ov_lt g p (g_nx g p)
  have b2 := g_ov_lt g q (g_nx g q)
  have b3 := g_dl_lt (i := g_nx g p) hg (by omega) hp (by omega)
  have b4 := g_dl_lt (i := g_nx g q) hg (by omega) hq (by omega)
  have b5 := g_rel_lt (i := g_nx g p) hg (by omega) hp (by omega)
  have b6 := g_rel_lt (i := g_nx g q) hg (by omega) hq (by omega)
  have b7 := g_gp_lt (i := g_nx g p) hg (by omega) hp (by omega)
  have b8 := g_gp_lt (i := g_nx g q) hg (by omega) hq (by omega)
  have e1 : md_ov a p (nx a p) = nI (g_ov g p (g_nx g p)) := by rw [nx, m_nx hr hp]; exact m_ov hr hg hp p0 (by omega)
  have e2 : md_ov a q (nx a q) = nI (g_ov g q (g_nx g q)) := by rw [nx, m_nx hr hq]; exact m_ov hr hg hq q0 (by omega)
  have e3 : md_dl a p (nx a p) = nI (g_dl g p (g_nx g p)) := by rw [nx, m_nx hr hp]; exact m_dl hr hg (by omega) hp p0 (by omega)
  have e4 : md_dl a q (nx a q) = nI (g_dl g q (g_nx g q)) := by rw [nx, m_nx hr hq]; exact m_dl hr hg (by omega) hq q0 (by omega)
  have e5 : md_rel a p (nx a p) = nI (g_rel g p (g_nx g p)) := by rw [nx, m_nx hr hp]; exact m_rel hr hg (by omega) hp p0 np.1 (by omega)
  have e6 : md_rel a q (nx a q) = nI (g_rel g q (g_nx g q)) := by rw [nx, m_nx hr hq]; exact m_rel hr hg (by omega) hq q0 nq.1 (by omega)
  have e7 : md_gp a p (nx a p) = nI (g_gp g p (g_nx g p)) := by rw [nx, m_nx hr hp]; exact (m_gp hr hg (by omega) hp p0 np.1 (by omega)).1
  have e8 : md_gp a q (nx a q) = nI (g_gp g q (g_nx g q)) := by rw [nx, m_nx hr hq]; exact (m_gp hr hg (by omega) hq q0 nq.1 (by omega)).1
  have z1 := hg.e hp
  have z2 := hg.e hq
  have z3 := hg.lo hp
  have z4 := hg.lo hq
  rw [md_lead, e1, e2, e3, e4, e5, e6, e7, e8, g_ld]
  rcases hv with rfl | rfl | rfl | rfl | rfl
  · rw [if_pos (by decide), if_pos rfl]
    exact sub_sg (by omega) (by omega)
  · rw [if_neg (by decide), if_pos (by decide), if_neg (by decide), if_pos rfl]
    exact sub_sg (by omega) (by omega)
  · rw [if_neg (show ¬ nI 103 = 98 by decide), if_neg (show ¬ nI 103 = 100 by decide), if_pos (show nI 103 = 103 by decide), if_neg (show ¬ (103 : Nat) = 98 by decide), if_neg (show ¬ (103 : Nat) = 100 by decide), if_pos (show (103 : Nat) = 103 from rfl)]
    by_cases y1 : g_ov g p (g_nx g p) = 0
    · rw [if_pos y1, y1, if_pos (by decide)]
      exact ⟨by simp, by simp⟩
    · rw [if_neg y1, show g_ov g p (g_nx g p) = 1 by omega, if_neg (fun z => z rfl)]
      by_cases y2 : g_ov g q (g_nx g q) = 0
      · rw [if_pos y2, y2, if_pos (by decide)]
        exact ⟨by simp, by simp⟩
      · rw [if_neg y2, show g_ov g q (g_nx g q) = 1 by omega, if_neg (fun z => z rfl)]
        exact sub_sg (by omega) (by omega)
  · rw [if_neg (by decide), if_neg (by decide), if_neg (by decide), if_neg (by decide), if_neg (by decide), if_neg (by decide), if_neg (by decide), if_neg (by decide)]
    exact sub_sg (by omega) (by omega)
  · rw [if_neg (by decide), if_neg (by decide), if_neg (by decide), if_pos (by decide), if_neg (by decide), if_neg (by decide), if_neg (by decide), if_pos rfl, hr _ (by omega), hr _ (by omega), hr _ (by omega), hr _ (by omega), nI_mul, nI_mul]
    have w1 : g p * g (8 + q) ≤ 12 * 12 := Nat.mul_le_mul z1 z4
    have w2 : g q * g (8 + p) ≤ 12 * 12 := Nat.mul_le_mul z2 z3
    exact sub_sg (by omega) (by omega)
end mgo
