/-! the use of a world whose WEIGHTS may be too much -/
section usek
variable {d B b r : Nat} {g gk g' u : gr} {ts tx tx' t' : List Nat} {rw rw' : List Int64} {M0 M M1 : Nat → Nat → Int32} {L0 ML L1 : Nat → Nat → Int64} {R0 R R1 : Nat → Nat → Option Nat}
theorem gpk.e (h : gpk g B) {q : Nat} (hq : q < 8) : g q ≤ 12 := by
  have := h.2.2.2.2 q hq
  unfold tk0 tk1 at this
  omega
theorem gpk.lo (h : gpk g B) {q : Nat} (hq : q < 8) : g (8 + q) ≤ 12 := by
  have := h.2.2.2.2 q hq
  unfold tk0 tk1 at this
  omega
theorem gpk.lo0 (h : gpk g B) {q : Nat} (hq : q < 8) : 0 < g (8 + q) ↔ 0 < g q := by
  have := h.2.2.2.2 q hq
  unfold tk0 tk1 at this
  omega
theorem ws_ltK (hg : gpk g B) : ∀ k, k ≤ 8 → g_ws g k ≤ k * (12 * 27720) := fun k hk => Nat.le_trans (ws_le hg k hk) (Nat.mul_le_mul_left _ (by decide))
theorem wt_27720K {q : Nat} (hg : gpk g B) (hq : q < 8) (h0 : 0 < g q) : 27720 / g (8 + q) * g (8 + q) = 27720 := by
  have h1 := hg.lo hq
  have h2 := (hg.lo0 hq).mpr h0
  have hd : ∀ x, x < 13 → 1 ≤ x → 27720 / x * x = 27720 := by decide +kernel
  exact hd _ (by omega) (by omega)
theorem m_thK {a : Nat → Int32} (ha : rr a g) (hg : gpk g B) {q : Nat} (hq : q < 8) : md_th a q = if 0 < g q then 1 else 0 := by
  have h1 := hg.e hq
  rw [md_th, ha q (by omega)]
  by_cases z : 0 < g q
  · rw [if_pos z, if_neg (nI_nle z (by omega))]
  · rw [if_neg z, show g q = 0 by omega]
    rfl
theorem R_thK {K : wK} (hr : fm_N r) (hd : 1 ≤ d) (ha : rr (M r) g) (hg : gpk g B) {q : Nat} (hq : q < 8) (h : K (if 0 < g q then 1 else 0) M ML R) : wI d 136 [.ref r, .int (nI q)] M ML R K := by
  refine wI_of (t_mthere hr (M, ML, R) q hq) hd ?_
  dsimp only
  rw [m_thK ha hg hq]
  exact h
theorem R_useK1 {p : Nat} {K : wKv} (hp : fm_N p) (hd : 100 ≤ d) (ha : rr (M p) g) (hg : gpk g B) (hK : ∀ L1, fr (fun a i => a = 219 ∧ 9 ≤ i ∧ i ≤ 10) L0 L1 → L1 219 9 = zN (uU (g_ws g 8)) → L1 219 10 = zN (uL (g_ws g 8)) → K M L1 R) : ∀ n k, k + n = 8 → ∀ {ML : Nat → Nat → Int64}, fr (fun a i => a = 219 ∧ 9 ≤ i ∧ i ≤ 10) L0 ML → ML 219 9 = zN (uU (g_ws g k)) → ML 219 10 = zN (uL (g_ws g k)) → H141_12 d p (nI k) M ML R K := by
  intro n
  induction n with
  | zero =>
    intro k hk ML f h9 h10
    have : k = 8 := by omega
    subst this
    exact h141_12 hp ⟨fun _ => hK ML f h9 h10, fun z => absurd (by decide) z⟩
  | succ n ih =>
    intro k hk ML f h9 h10
    have hk8 : k < 8 := by omega
    refine h141_12 hp ⟨fun z => absurd ((nI_leI (a := 8) (by decide) (by omega)).mp z) (by omega), fun _ => ?_⟩
    refine R_thK hp (by omega) ha hg hk8 ?_
    by_cases h0 : 0 < g k
    · rw [if_pos h0]
      refine ⟨fun _ => ⟨8 + k, ix8 k, by omega, k, rfl, by omega, fun L4 e4 => ⟨8 + k, ix8 k, by omega, fun L6 e6 => ?_⟩⟩, fun y => absurd y (by decide)⟩
      have hlo := hg.lo hk8
      have hee := hg.e hk8
      have hl0 := (hg.lo0 hk8).mpr h0
      obtain ⟨u1, u2, u3, u4⟩ := uL_bd (g_ws g k)
      have hws := ws_ltK hg k (by omega)
      have h27 := wt_27720K hg hk8 h0
      rw [ha (8 + k) (by omega), ha k (by omega), h9, h10, nL_z (by omega), nL_z (by omega), zN_mul, zN_mul, zN_add] at e4
      have f4 : fr (fun a i => a = 219 ∧ 9 ≤ i ∧ i ≤ 10) L0 L4 := by subst e4; exact f.tr (fr_ul (by omega))
      have k410 : L4 219 10 = zN (uL (g_ws g k)) := by subst e4; rw [fm_ul_ix (by decide)]; exact h10
      have k49 : L4 219 9 = zN (uU (g_ws g k) * g (8 + k) + g k * uL (g_ws g k)) := by subst e4; exact fm_ul_at
      rw [k410, ha (8 + k) (by omega), nL_z (by omega), zN_mul] at e6
      have f6 : fr (fun a i => a = 219 ∧ 9 ≤ i ∧ i ≤ 10) L0 L6 := by subst e6; exact f4.tr (fr_ul (by omega))
      have k610 : L6 219 10 = zN (uL (g_ws g k) * g (8 + k)) := by subst e6; exact fm_ul_at
      have k69 : L6 219 9 = zN (uU (g_ws g k) * g (8 + k) + g k * uL (g_ws g k)) := by subst e6; rw [fm_ul_ix (by decide)]; exact k49
      have bu : uU (g_ws g k) * g (8 + k) ≤ 8 * (12 * 27720) * 12 := Nat.mul_le_mul (by omega) hlo
      have be : g k * uL (g_ws g k) ≤ 12 * 27720 := Nat.mul_le_mul hee u2
      have bl : uL (g_ws g k) * g (8 + k) ≤ 27720 * 12 := Nat.mul_le_mul u2 hlo
      have pl : 0 < uL (g_ws g k) * g (8 + k) := Nat.mul_pos u1 hl0
      have key := fr_uniq (a := uU (g_ws g k) * g (8 + k) + g k * uL (g_ws g k)) (b := g_ws g (k + 1)) (c := uL (g_ws g k) * g (8 + k)) (d := 27720) pl (by decide) (by
        rw [g_ws, g_wt]
        calc (uU (g_ws g k) * g (8 + k) + g k * uL (g_ws g k)) * 27720 = uU (g_ws g k) * 27720 * g (8 + k) + g k * uL (g_ws g k) * 27720 := by rw [Nat.add_mul, Nat.mul_right_comm]
          _ = g_ws g k * uL (g_ws g k) * g (8 + k) + g k * uL (g_ws g k) * (27720 / g (8 + k) * g (8 + k)) := by rw [u4, h27]
          _ = g_ws g k * (uL (g_ws g k) * g (8 + k)) + g k * (27720 / g (8 + k)) * (uL (g_ws g k) * g (8 + k)) := by
            rw [Nat.mul_assoc, Nat.mul_mul_mul_comm]
          _ = (g_ws g k + g k * (27720 / g (8 + k))) * (uL (g_ws g k) * g (8 + k)) := by rw [Nat.add_mul])
      have gp : 0 < Nat.gcd (uU (g_ws g k) * g (8 + k) + g k * uL (g_ws g k)) (uL (g_ws g k) * g (8 + k)) := Nat.gcd_pos_of_pos_right _ pl
      have gl : Nat.gcd (uU (g_ws g k) * g (8 + k) + g k * uL (g_ws g k)) (uL (g_ws g k) * g (8 + k)) ≤ uL (g_ws g k) * g (8 + k) := Nat.gcd_le_right _ pl
      rw [k69, k610]
      refine R_common 48 d _ _ (by rw [zN_toInt (by omega)]; omega) (by rw [zN_toInt (by omega)]; omega) (by rw [zN_toInt (by omega)]; omega) (by omega) ?_
      rw [zg_n (by omega) (by omega)]
      refine ⟨zN_ne gp (by omega), fun L8 e8 => ⟨zN_ne gp (by omega), fun L9 e9 => ?_⟩⟩
      rw [k69, zN_div (by omega) (by omega), key.1] at e8
      have k810 : L8 219 10 = zN (uL (g_ws g k) * g (8 + k)) := by subst e8; rw [fm_ul_ix (by decide)]; exact k610
      rw [k810, zN_div (by omega) (by omega), key.2] at e9
      rw [nI_1]
      refine ih (k + 1) (by omega) ?_ ?_ ?_
      · subst e9 e8; exact (f6.tr (fr_ul (by omega))).tr (fr_ul (by omega))
      · subst e9 e8; rw [fm_ul_ix (by decide), fm_ul_at]; rfl
      · subst e9 e8; rw [fm_ul_at]; rfl
    · rw [if_neg h0, nI_1]
      have ez : g_ws g (k + 1) = g_ws g k := by rw [g_ws, g_wt, show g k = 0 by omega, Nat.zero_mul, Nat.add_zero]
      exact ⟨fun y => absurd rfl y, fun _ => ih (k + 1) (by omega) f (by rw [ez]; exact h9) (by rw [ez]; exact h10)⟩
theorem R_layUseK {p : Nat} {K : wKv} (hp : fm_N p) (hd : 101 ≤ d) (ha : rr (M p) g) (hg : gpk g B) (hK : ∀ L1, fr (fun a i => a = 219 ∧ 9 ≤ i ∧ i ≤ 10) ML L1 → L1 219 9 = zN (uU (g_ws g 8)) → L1 219 10 = zN (uL (g_ws g 8)) → K M L1 R) : wV d 141 [.ref 219, .ref p] M ML R K := by
  obtain ⟨d, rfl⟩ : ∃ e, d = e + 1 := ⟨d - 1, by omega⟩
  refine w141 hp (fun L1 e1 L2 e2 => ?_)
  subst e1 e2
  exact R_useK1 hp (by omega) ha hg hK 8 0 (by omega) ((fr_ul (by omega)).tr (fr_ul (by omega))) (by rw [fm_ul_ix (by decide), fm_ul_at]; show 0 = zN (uU 0); rw [u_0.1]; rfl) (by rw [fm_ul_at]; show 1 = zN (uL 0); rw [u_0.2]; rfl)
end usek
