/-! WEIGHTS add up: fractions in lowest terms against 27720ths -/
theorem fr_uniq {a b c d : Nat} (hc : 0 < c) (hd : 0 < d) (h : a * d = b * c) : a / Nat.gcd a c = b / Nat.gcd b d ∧ c / Nat.gcd a c = d / Nat.gcd b d := by
  have g1 : 0 < Nat.gcd a c := Nat.gcd_pos_of_pos_right _ hc
  have g2 : 0 < Nat.gcd b d := Nat.gcd_pos_of_pos_right _ hd
  obtain ⟨a1, ea⟩ := Nat.gcd_dvd_left a c
  obtain ⟨c1, ec⟩ := Nat.gcd_dvd_right a c
  obtain ⟨b1, eb⟩ := Nat.gcd_dvd_left b d
  obtain ⟨d1, ed⟩ := Nat.gcd_dvd_right b d
  have co1 : Nat.Coprime (a / Nat.gcd a c) (c / Nat.gcd a c) := Nat.coprime_div_gcd_div_gcd g1
  have co2 : Nat.Coprime (b / Nat.gcd b d) (d / Nat.gcd b d) := Nat.coprime_div_gcd_div_gcd g2
  have qa : a / Nat.gcd a c = a1 := by rw [Nat.div_eq_of_eq_mul_right g1 ea]
  have qc : c / Nat.gcd a c = c1 := by rw [Nat.div_eq_of_eq_mul_right g1 ec]
  have qb : b / Nat.gcd b d = b1 := by rw [Nat.div_eq_of_eq_mul_right g2 eb]
  have qd : d / Nat.gcd b d = d1 := by rw [Nat.div_eq_of_eq_mul_right g2 ed]
  rw [qa, qc] at co1
  rw [qb, qd] at co2
  rw [qa, qc, qb, qd]
  generalize Nat.gcd a c = x at *
  generalize Nat.gcd b d = y at *
  subst ea ec eb ed
  have h2 : a1 * d1 = b1 * c1 := by
    have : (x * y) * (a1 * d1) = (x * y) * (b1 * c1) := by
      calc (x * y) * (a1 * d1) = (x * a1) * (y * d1) := by rw [Nat.mul_mul_mul_comm]
        _ = (y * b1) * (x * c1) := h
        _ = (x * y) * (b1 * c1) := by rw [Nat.mul_mul_mul_comm, Nat.mul_comm y x]
    exact Nat.eq_of_mul_eq_mul_left (Nat.mul_pos g1 g2) this
  have d1c : c1 ∣ d1 := co1.symm.dvd_of_dvd_mul_left (by rw [h2]; exact Nat.dvd_mul_left _ _)
  have c1d : d1 ∣ c1 := co2.symm.dvd_of_dvd_mul_left (by rw [← h2]; exact Nat.dvd_mul_left _ _)
  have e := Nat.dvd_antisymm d1c c1d
  subst e
  refine ⟨?_, rfl⟩
  have hc1 : 0 < c1 := Nat.pos_of_ne_zero (fun z => by subst z; simp at hc)
  exact Nat.eq_of_mul_eq_mul_right hc1 h2
theorem wt_27720 {g : gr} {B q : Nat} (hg : gok g B) (hq : q < 8) (h0 : 0 < g q) : 27720 / g (8 + q) * g (8 + q) = 27720 := by
  have h1 := hg.p hq h0
  have hd : ∀ x, x < 13 → 1 ≤ x → 27720 / x * x = 27720 := by decide +kernel
  exact hd _ (by have := h1.2.2.1; omega) (by have := h1.1; have := h1.2.1; omega)
def uU (w : Nat) : Nat := w / Nat.gcd w 27720
def uL (w : Nat) : Nat := 27720 / Nat.gcd w 27720
theorem uL_bd (w : Nat) : 0 < uL w ∧ uL w ≤ 27720 ∧ uU w ≤ w ∧ uU w * 27720 = w * uL w := by
  have g1 : 0 < Nat.gcd w 27720 := Nat.gcd_pos_of_pos_right _ (by decide)
  have g2 : Nat.gcd w 27720 ≤ 27720 := Nat.gcd_le_right _ (by decide)
  unfold uL uU
  refine ⟨Nat.div_pos g2 g1, Nat.div_le_self _ _, Nat.div_le_self _ _, ?_⟩
  obtain ⟨x, ex⟩ := Nat.gcd_dvd_left w 27720
  obtain ⟨y, ey⟩ := Nat.gcd_dvd_right w 27720
  have qx : w / Nat.gcd w 27720 = x := by rw [Nat.div_eq_of_eq_mul_right g1 ex]
  have qy : 27720 / Nat.gcd w 27720 = y := by rw [Nat.div_eq_of_eq_mul_right g1 ey]
  rw [qx, qy]
  generalize Nat.gcd w 27720 = z at *
  calc x * 27720 = x * (z * y) := by rw [← ey]
    _ = (z * x) * y := by rw [← Nat.mul_assoc, Nat.mul_comm x z]
    _ = w * y := by rw [← ex]
theorem n27 : (27720 : Int32) = nI 27720 := by decide +kernel
theorem u_0 : uU 0 = 0 ∧ uL 0 = 1 := by
  unfold uU uL
  rw [Nat.gcd_zero_left]
  decide
theorem zN_div {a b : Nat} (ha : a < 2 ^ 62) (hb : b < 2 ^ 62) : zN a / zN b = zN (a / b) := by
  apply Int64.toInt_inj.mp
  have hd := Nat.div_le_self a b
  rw [l_div (by rw [zN_toInt (by omega)]; omega), zN_toInt (by omega), zN_toInt (by omega), zN_toInt (by omega)]
  rfl
theorem zg_n {a b : Nat} (ha : a < 2 ^ 62) (hb : b < 2 ^ 62) : zg (zN a) (zN b) = zN (Nat.gcd a b) := by
  rw [zg, zN_toInt (by omega), zN_toInt (by omega)]
  rfl
theorem fW_n {a b : Nat} (ha : a < 2 ^ 62) (hb : b < 2 ^ 62) (h0 : 0 < b) : fW (zN a) (zN b) = [zN (a / Nat.gcd a b), zN (b / Nat.gcd a b)] := by
  have g2 : Nat.gcd a b ≤ b := Nat.gcd_le_right _ h0
  rw [fW, zg_n ha hb, zN_div ha (by omega), zN_div hb (by omega)]
theorem zN_ne {a : Nat} (h0 : 0 < a) (ha : a < 2 ^ 62) : ¬ zN a = 0 := fun z => by
  have := l_eq0.mp z
  rw [zN_toInt (by omega)] at this
  omega
section use
variable {d B b r : Nat} {g gk g' u : gr} {ts tx tx' t' : List Nat} {rw rw' : List Int64} {un un' : List gr} {kp kp' : Nat → Option gr} {he sa : List (Nat × Nat)} {M0 M M1 : Nat → Nat → Int32} {L0 ML L1 : Nat → Nat → Int64} {R0 R R1 : Nat → Nat → Option Nat}
theorem ws_lt (hg : gok g B) : ∀ k, k ≤ 8 → g_ws g k ≤ k * (12 * 27720) := by
  intro k
  induction k with
  | zero => intro _; exact Nat.le_refl _
  | succ k ih =>
    intro hk
    have h1 := ih (by omega)
    have h2 := hg.wt (q := k) (by omega)
    rw [g_ws]
    omega
theorem R_use1 {p : Nat} {K : wKv} (hp : fm_N p) (hd : 100 ≤ d) (ha : rr (M p) g) (hg : gok g B) (hK : ∀ L1, fr (fun a i => a = 219 ∧ 9 ≤ i ∧ i ≤ 10) L0 L1 → L1 219 9 = zN (uU (g_ws g 8)) → L1 219 10 = zN (uL (g_ws g 8)) → K M L1 R) : ∀ n k, k + n = 8 → ∀ {ML : Nat → Nat → Int64}, fr (fun a i => a = 219 ∧ 9 ≤ i ∧ i ≤ 10) L0 ML → ML 219 9 = zN (uU (g_ws g k)) → ML 219 10 = zN (uL (g_ws g k)) → H141_12 d p (nI k) M ML R K := by
  intro n
  induction n with
  | zero =>
    intro k hk ML f h9 h10
    have : k = 8 := by omega
    subst this
    exact h141_12 hp ⟨fun _ => hK ML f h9 h10, fun z => absurd (by decide) z⟩
  | succ n ih =>
    intro k hk ML f h9 h10
    have hk8 : k < 8 := by omega
    refine h141_12 hp ⟨fun z => absurd ((nI_leI (a := 8) (by decide) (by omega)).mp z) (by omega), fun _ => ?_⟩
    refine R_th hp (by omega) ha hg hk8 ?_
    by_cases h0 : 0 < g k
    · rw [if_pos h0]
      refine ⟨fun _ => ⟨8 + k, ix8 k, by omega, k, rfl, by omega, fun L4 e4 => ⟨8 + k, ix8 k, by omega, fun L6 e6 => ?_⟩⟩, fun y => absurd y (by decide)⟩
      have hlo := hg.lo hk8
      have hee := hg.e hk8
      have hl0 := (hg.lo0 hk8).mpr h0
      obtain ⟨u1, u2, u3, u4⟩ := uL_bd (g_ws g k)
      have hws := ws_lt hg k (by omega)
      have h27 := wt_27720 hg hk8 h0
      rw [ha (8 + k) (by omega), ha k (by omega), h9, h10, nL_z (by omega), nL_z (by omega), zN_mul, zN_mul, zN_add] at e4
      have f4 : fr (fun a i => a = 219 ∧ 9 ≤ i ∧ i ≤ 10) L0 L4 := by subst e4; exact f.tr (fr_ul (by omega))
      have k410 : L4 219 10 = zN (uL (g_ws g k)) := by subst e4; rw [fm_ul_ix (by decide)]; exact h10
      have k49 : L4 219 9 = zN (uU (g_ws g k) * g (8 + k) + g k * uL (g_ws g k)) := by subst e4; exact fm_ul_at
      rw [k410, ha (8 + k) (by omega), nL_z (by omega), zN_mul] at e6
      have f6 : fr (fun a i => a = 219 ∧ 9 ≤ i ∧ i ≤ 10) L0 L6 := by subst e6; exact f4.tr (fr_ul (by omega))
      have k610 : L6 219 10 = zN (uL (g_ws g k) * g (8 + k)) := by subst e6; exact fm_ul_at
      have k69 : L6 219 9 = zN (uU (g_ws g k) * g (8 + k) + g k * uL (g_ws g k)) := by subst e6; rw [fm_ul_ix (by decide)]; exact k49
      have bu : uU (g_ws g k) * g (8 + k) ≤ 8 * (12 * 27720) * 12 := Nat.mul_le_mul (by omega) hlo
      have be : g k * uL (g_ws g k) ≤ 12 * 27720 := Nat.mul_le_mul hee u2
      have bl : uL (g_ws g k) * g (8 + k) ≤ 27720 * 12 := Nat.mul_le_mul u2 hlo
      have pl : 0 < uL (g_ws g k) * g (8 + k) := Nat.mul_pos u1 hl0
      have key := fr_uniq (a := uU (g_ws g k) * g (8 + k) + g k * uL (g_ws g k)) (b := g_ws g (k + 1)) (c := uL (g_ws g k) * g (8 + k)) (d := 27720) pl (by decide) (by
        rw [g_ws, g_wt]
        calc (uU (g_ws g k) * g (8 + k) + g k * uL (g_ws g k)) * 27720 = uU (g_ws g k) * 27720 * g (8 + k) + g k * uL (g_ws g k) * 27720 := by rw [Nat.add_mul, Nat.mul_right_comm]
          _ = g_ws g k * uL (g_ws g k) * g (8 + k) + g k * uL (g_ws g k) * (27720 / g (8 + k) * g (8 + k)) := by rw [u4, h27]
          _ = g_ws g k * (uL (g_ws g k) * g (8 + k)) + g k * (27720 / g (8 + k)) * (uL (g_ws g k) * g (8 + k)) := by
            rw [Nat.mul_assoc, Nat.mul_mul_mul_comm]
          _ = (g_ws g k + g k * (27720 / g (8 + k))) * (uL (g_ws g k) * g (8 + k)) := by rw [Nat.add_mul])
      have gp : 0 < Nat.gcd (uU (g_ws g k) * g (8 + k) + g k * uL (g_ws g k)) (uL (g_ws g k) * g (8 + k)) := Nat.gcd_pos_of_pos_right _ pl
      have gl : Nat.gcd (uU (g_ws g k) * g (8 + k) + g k * uL (g_ws g k)) (uL (g_ws g k) * g (8 + k)) ≤ uL (g_ws g k) * g (8 + k) := Nat.gcd_le_right _ pl
      rw [k69, k610]
      refine R_common 48 d _ _ (by rw [zN_toInt (by omega)]; omega) (by rw [zN_toInt (by omega)]; omega) (by rw [zN_toInt (by omega)]; omega) (by omega) ?_
      rw [zg_n (by omega) (by omega)]
      refine ⟨zN_ne gp (by omega), fun L8 e8 => ⟨zN_ne gp (by omega), fun L9 e9 => ?_⟩⟩
      rw [k69, zN_div (by omega) (by omega), key.1] at e8
      have k810 : L8 219 10 = zN (uL (g_ws g k) * g (8 + k)) := by subst e8; rw [fm_ul_ix (by decide)]; exact k610
      rw [k810, zN_div (by omega) (by omega), key.2] at e9
      rw [nI_1]
      refine ih (k + 1) (by omega) ?_ ?_ ?_
      · subst e9 e8; exact (f6.tr (fr_ul (by omega))).tr (fr_ul (by omega))
      · subst e9 e8; rw [fm_ul_ix (by decide), fm_ul_at]; rfl
      · subst e9 e8; rw [fm_ul_at]; rfl
    · rw [if_neg h0, nI_1]
      have ez : g_ws g (k + 1) = g_ws g k := by rw [g_ws, g_wt, show g k = 0 by omega, Nat.zero_mul, Nat.add_zero]
      exact ⟨fun y => absurd rfl y, fun _ => ih (k + 1) (by omega) f (by rw [ez]; exact h9) (by rw [ez]; exact h10)⟩
theorem R_layUse {p : Nat} {K : wKv} (hp : fm_N p) (hd : 101 ≤ d) (ha : rr (M p) g) (hg : gok g B) (hK : ∀ L1, fr (fun a i => a = 219 ∧ 9 ≤ i ∧ i ≤ 10) ML L1 → L1 219 9 = zN (uU (g_ws g 8)) → L1 219 10 = zN (uL (g_ws g 8)) → K M L1 R) : wV d 141 [.ref 219, .ref p] M ML R K := by
  obtain ⟨d, rfl⟩ : ∃ e, d = e + 1 := ⟨d - 1, by omega⟩
  refine w141 hp (fun L1 e1 L2 e2 => ?_)
  subst e1 e2
  exact R_use1 hp (by omega) ha hg hK 8 0 (by omega) ((fr_ul (by omega)).tr (fr_ul (by omega))) (by rw [fm_ul_ix (by decide), fm_ul_at]; show 0 = zN (uU 0); rw [u_0.1]; rfl) (by rw [fm_ul_at]; show 1 = zN (uL 0); rw [u_0.2]; rfl)
/-! use -/
def q_us (g : gr) : List Int64 := [zN (uU (g_ws g 8)), zN (uL (g_ws g 8)), zN (uU (27720 * g 40 - g_ws g 8)), zN (uL (27720 * g 40 - g_ws g 8))]
theorem C_use (hd : 2 ≤ d) (h : IC g un kp tx ts rw he sa M ML R) (hs : SO g un kp ts B) : wI (d + 1) 92 [.ref 0] M ML R (CQ 0 (q_us g) M ML R) := by
  have hws := ws_lt hs.1 8 (by omega)
  have hP := hs.1.2.1
  have hle := hs.1.2.2.2.2.1
  refine w92 (C_ws fm_W1 (by omega) h.2.1 ?_)
  refine B_clear (by omega) h.b (fun M1 h1 f1 => ?_)
  rw [nL_z (by omega), show Int64.ofNat 27720 = zN 27720 from rfl]
  refine B_frac hd h1 (by decide) (by rw [zN_toInt (by omega)]; omega) (by rw [zN_toInt (by decide)]; decide) (by rw [zN_toInt (by decide)]; decide) (fun M2 L2 h2 f2 _ => ?_)
  have hle' : g_ws g 8 ≤ g 40 * 27720 := Nat.le_trans hle (Nat.le_of_eq (Nat.mul_comm _ _))
  have hb4 : g 40 * 27720 - g_ws g 8 < 2 ^ 31 := Nat.lt_of_le_of_lt (Nat.sub_le _ _) (Nat.lt_of_le_of_lt (Nat.mul_le_mul_right _ hP) (by decide))
  rw [h2.1.1, n27, nI_mul, nI_sub hle', nL_z hb4]
  refine B_frac hd h2 (by simp [fW]) (by rw [zN_toInt (by omega)]; omega) (by rw [zN_toInt (by decide)]; decide) (by rw [zN_toInt (by decide)]; decide) (fun M3 L3 h3 _ _ => ?_)
  rw [fW_n (by omega) (by decide) (by decide), fW_n (by omega) (by decide) (by decide), Nat.mul_comm] at h3
  exact h3.q
theorem left_e {w P : Nat} (hle : w ≤ 27720 * P) : uU w ≤ P * uL w ∧ (P * uL w - uU w) * 27720 = (27720 * P - w) * uL w := by
  obtain ⟨u1, u2, u3, u4⟩ := uL_bd w
  have h1 : P * uL w * 27720 = 27720 * P * uL w := by rw [Nat.mul_right_comm, Nat.mul_comm P 27720]
  have h2 : w * uL w ≤ 27720 * P * uL w := Nat.mul_le_mul_right _ hle
  refine ⟨?_, by rw [Nat.sub_mul, Nat.sub_mul, u4, h1]⟩
  have : uU w * 27720 ≤ P * uL w * 27720 := by rw [u4, h1]; exact h2
  exact Nat.le_of_mul_le_mul_right this (by decide)
theorem zN_sub {a b : Nat} (h : b ≤ a) : zN a - zN b = zN (a - b) := by
  have e : zN a = zN (a - b) + zN b := by rw [zN_add, Nat.sub_add_cancel h]
  rw [e, Int64.add_sub_cancel]
theorem R_use (hd : 101 ≤ d) (h : IR g un kp tx ts rw he sa M ML R) (hs : SO g un kp ts B) : wI (d + 1) 188 [.ref 219] M ML R (RQ 0 (q_us g) M ML R) := by
  have hb := h.b.u (a := 219) (i := 5) (x := 0) (by omega)
  have hws := ws_lt hs.1 8 (by omega)
  have hP := hs.1.2.1
  have hle := hs.1.2.2.2.2.1
  obtain ⟨u1, u2, u3, u4⟩ := uL_bd (g_ws g 8)
  obtain ⟨l1, l2⟩ := left_e hle
  have bP : g 40 * uL (g_ws g 8) ≤ 4 * 27720 := Nat.mul_le_mul hP u2
  refine w188 (fun M1 e1 => ?_)
  subst e1
  refine R_layUse fm_N220 hd hb.1 hs.1 (fun L2 f2 k9 k10 M3 e3 => ?_)
  subst e3
  have b3 := (hb.frl f2).z
  rw [k9, k10]
  refine B_tellPart (by omega) b3 (by decide) (by rw [zN_toInt (by omega)]; omega) (by rw [zN_toInt (by omega)]; omega) (by rw [zN_toInt (by omega)]; omega) (fun M4 L4 b4 f4 l4 => ?_)
  rw [l4 219 9 (by omega), l4 219 10 (by omega), k9, k10, b4.1 40 (by omega), nL_z (by omega), zN_mul, zN_sub l1]
  refine B_tellPart (by omega) b4 (by simp [fW]) (by rw [zN_toInt (by omega)]; omega) (by rw [zN_toInt (by omega)]; omega) (by rw [zN_toInt (by omega)]; omega) (fun M5 L5 b5 _ _ => ?_)
  have q1 := fr_uniq (a := uU (g_ws g 8)) (b := g_ws g 8) (c := uL (g_ws g 8)) (d := 27720) u1 (by decide) u4
  have q2 := fr_uniq (a := g 40 * uL (g_ws g 8) - uU (g_ws g 8)) (b := 27720 * g 40 - g_ws g 8) (c := uL (g_ws g 8)) (d := 27720) u1 (by decide) l2
  rw [fW_n (by omega) (by omega) u1, fW_n (by omega) (by omega) u1, q1.1, q1.2, q2.1, q2.2] at b5
  exact b5.q
/-! processors -/
def g_pr (g : gr) (v : Nat) : gr := fun k => if k = 40 then v else g k
theorem g_pr_off {v k : Nat} (h : ¬ k = 40) : g_pr g v k = g k := by rw [g_pr, if_neg h]
theorem g_pr_cg {v p : Nat} (hp : p < 8) (i : Nat) : g_rel (g_pr g v) p i = g_rel g p i ∧ g_dl (g_pr g v) p i = g_dl g p i ∧ g_ov (g_pr g v) p i = g_ov g p i ∧ g_gp (g_pr g v) p i = g_gp g p i ∧ g_wt (g_pr g v) p = g_wt g p := g_cg (g_pr_off (by omega)) (g_pr_off (by omega)) (g_pr_off (by omega)) i
theorem g_pr_ws {v : Nat} : ∀ k, k ≤ 8 → g_ws (g_pr g v) k = g_ws g k := by
  intro k
  induction k with
  | zero => intro _; rfl
  | succ k ih => intro hk; rw [g_ws, g_ws, ih (by omega), (g_pr_cg (g := g) (v := v) (p := k) (by omega) 0).2.2.2.2]
theorem gok_pr {v : Nat} (hg : gok g B) (h1 : 1 ≤ v) (h4 : v ≤ 4) (hw : g_ws g 8 ≤ 27720 * v) : gok (g_pr g v) B := by
  obtain ⟨a1, a2, a3, a4, a5, a6⟩ := hg
  have e40 : g_pr g v 40 = v := by rw [g_pr, if_pos rfl]
  refine ⟨by rw [e40]; exact h1, by rw [e40]; exact h4, by rw [g_pr_off (by omega)]; exact a3, by rw [g_pr_off (by omega), g_pr_off (by omega)]; exact a4, by rw [g_pr_ws 8 (by omega), e40]; exact hw, fun q hq => ?_⟩
  unfold tk0 tk1
  rw [g_pr_off (show ¬ q = 40 by omega), g_pr_off (show ¬ 8 + q = 40 by omega), g_pr_off (show ¬ 16 + q = 40 by omega), g_pr_off (show ¬ 24 + q = 40 by omega), g_pr_off (show ¬ 32 + q = 40 by omega), g_pr_off (show ¬ 41 = 40 by omega)]
  exact a6 q hq
theorem cr_pr {v : Nat} (hc : cr M b g) : cr (fm_u M b 10 (nI v)) b (g_pr g v) := by
  obtain ⟨h1, h2, h3, h4⟩ := hc
  refine ⟨by rw [fm_u_at, g_pr, if_pos rfl], by rw [fm_u_ix (by decide), h2, g_pr_off (by omega)], by rw [fm_u_ix (by decide), h3, g_pr_off (by omega)], fun q hq => ?_⟩
  have h := ct_cg (M' := fm_u M b 10 (nI v)) (fun j hj _ => by rw [fm_u_off (by omega)]) (h4 q hq)
  have cg := g_pr_cg (g := g) (v := v) (p := q) hq
  unfold ct at h ⊢
  rw [g_pr_off (show ¬ 8 + q = 40 by omega), (cg 0).2.2.2.2, g_pr_off (show ¬ 41 = 40 by omega), g_pr_off (show ¬ q = 40 by omega), g_pr_off (show ¬ 16 + q = 40 by omega), g_pr_off (show ¬ 24 + q = 40 by omega), g_pr_off (show ¬ 32 + q = 40 by omega), (cg _).1, (cg _).2.1, (cg _).2.2.1, (cg _).2.2.2.1, show g_nx (g_pr g v) q = g_nx g q by unfold g_nx; rw [g_pr_off (by omega)]]
  exact h
theorem C_takeP {K : wK} (hb : fm_W b) (hd : 2 ≤ d) (hc : cr M b g) (hg : gok g B) (a : Int32) (h1 : ∀ v, 1 ≤ v → v ≤ 4 → a = nI v → ¬ v = g 40 → g_ws g 8 ≤ 27720 * v → K (nI (10 + g 40)) (fm_u M b 10 (nI v)) ML R) (h2 : ∀ v, 1 ≤ v → v ≤ 4 → a = nI v → v = g 40 → K (-2) M ML R) (h3 : ∀ v, 1 ≤ v → v ≤ 4 → a = nI v → ¬ v = g 40 → ¬ g_ws g 8 ≤ 27720 * v → K (-3) M ML R) (h4 : a < 1 ∨ 4 < a → K (-1) M ML R) : wI d 65 [.ref b, .int a] M ML R K := by
  have t := t_takeProcessors hb (M, ML, R) a
  rw [wd_tpA, wd_tpM] at t
  have hws := ws_lt hg 8 (by omega)
  have hP := hg.2.1
  rcases rngc 1 4 (by decide) (by decide) a with ⟨v, v1, v2, rfl⟩ | z
  · have a1 : ¬ nI v < 1 := fun z => absurd ((nI_ltI (b := 1) (by omega) (by decide)).mp z) (by omega)
    have a2 : nI v ≤ 4 := (nI_leI (b := 4) (by omega) (by decide)).mpr v2
    rw [if_neg a1, if_pos a2, if_neg a1, if_pos a2] at t
    by_cases z : v = g 40
    · have a3 : ¬ ¬ nI v = (M, ML, R).1 b 10 := fun y => y (by dsimp only; rw [hc.1, z])
      rw [if_neg a3, if_neg a3] at t
      exact wI_of t hd (h2 v v1 v2 rfl z)
    · have a3 : ¬ nI v = (M, ML, R).1 b 10 := by dsimp only; rw [hc.1]; exact fun y => z ((nI_eq (by omega) (by omega)).mp y)
      rw [if_pos a3, if_pos a3] at t
      have e27 : nI v * 27720 = nI (v * 27720) := by rw [n27, nI_mul]
      by_cases y : g_ws g 8 ≤ 27720 * v
      · have a4 : wd_ws (M, ML, R).1 b 8 ≤ nI v * 27720 := by dsimp only; rw [c_ws hc 8 (by omega), e27]; exact (nI_leI (by omega) (Nat.lt_of_le_of_lt (Nat.mul_le_mul_right _ v2) (by decide))).mpr (Nat.le_trans y (Nat.le_of_eq (Nat.mul_comm _ _)))
        rw [if_pos a4, if_pos a4] at t
        have e : (10 : Int32) + M b 10 = nI (10 + g 40) := by rw [hc.1]; exact nI_add 10 _
        dsimp only at t
        rw [e] at t
        exact wI_of t hd (h1 v v1 v2 rfl z y)
      · have a4 : ¬ wd_ws (M, ML, R).1 b 8 ≤ nI v * 27720 := by dsimp only; rw [c_ws hc 8 (by omega), e27]; exact fun w => y (by have := (nI_leI (by omega) (by omega)).mp w; omega)
        rw [if_neg a4, if_neg a4] at t
        exact wI_of t hd (h3 v v1 v2 rfl z y)
  · by_cases a1 : a < 1
    · rw [if_pos a1, if_pos a1] at t
      exact wI_of t hd (h4 z)
    · have a2 : ¬ a ≤ 4 := Int32.not_le.mpr (z.resolve_left a1)
      rw [if_neg a1, if_neg a2, if_neg a1, if_neg a2] at t
      exact wI_of t hd (h4 z)
/-- refusesProcessors -/
theorem R_refP {K : wK} (hd : 102 ≤ d) (ha : rr (M 220) g) (hg : gok g B) (a : Int32) (h1 : ∀ v, 1 ≤ v → v ≤ 4 → a = nI v → ¬ v = g 40 → ∀ L1, fr (fun a i => a = 219 ∧ 9 ≤ i ∧ i ≤ 10) ML L1 → K (if g_ws g 8 ≤ 27720 * v then 0 else -3) M L1 R) (h2 : ∀ v, 1 ≤ v → v ≤ 4 → a = nI v → v = g 40 → K (-2) M ML R) (h4 : a < 1 ∨ 4 < a → K (-1) M ML R) : wI d 176 [.ref 219, .int a] M ML R K := by
  obtain ⟨d, rfl⟩ : ∃ e, d = e + 1 := ⟨d - 1, by omega⟩
  have hws := ws_lt hg 8 (by omega)
  have hP := hg.2.1
  obtain ⟨u1, u2, u3, u4⟩ := uL_bd (g_ws g 8)
  refine w176 (R_in (by omega) ?_)
  rcases rngc 1 4 (by decide) (by decide) a with ⟨v, v1, v2, rfl⟩ | z
  · rw [show md_in (nI v) 1 4 = 1 from in_y (lo := 1) (hi := 4) (by decide) v1 v2, ha 40 (by omega)]
    refine ⟨fun _ => ⟨fun z => ?_, fun z => ?_⟩, fun y => absurd y (by decide)⟩
    · have z2 : ¬ v = g 40 := fun y => z (by rw [y])
      refine R_layUse fm_N220 (by omega) ha hg (fun L2 f2 k9 k10 => ?_)
      have bv : v * uL (g_ws g 8) ≤ 4 * 27720 := Nat.mul_le_mul v2 u2
      have hk := h1 v v1 v2 rfl z2 L2 f2
      rw [k9, k10, nL_z (by omega), zN_mul]
      have cmp : lg_cmp (zN (uU (g_ws g 8))) (zN (v * uL (g_ws g 8))) ≤ 0 ↔ g_ws g 8 ≤ 27720 * v := by
        rw [lg_le, Int64.le_iff_toInt_le, zN_toInt (by omega), zN_toInt (by omega)]
        have e1 : uU (g_ws g 8) ≤ v * uL (g_ws g 8) ↔ g_ws g 8 * uL (g_ws g 8) ≤ 27720 * v * uL (g_ws g 8) := by
          rw [← u4, show 27720 * v * uL (g_ws g 8) = v * uL (g_ws g 8) * 27720 by rw [Nat.mul_assoc, Nat.mul_comm]]
          exact (Nat.mul_le_mul_right_iff (by decide)).symm
        have e2 : g_ws g 8 * uL (g_ws g 8) ≤ 27720 * v * uL (g_ws g 8) ↔ g_ws g 8 ≤ 27720 * v := Nat.mul_le_mul_right_iff u1
        constructor
        · intro y; exact e2.mp (e1.mp (by omega))
        · intro y; have := e1.mpr (e2.mpr y); omega
      by_cases y : g_ws g 8 ≤ 27720 * v
      · rw [if_pos y] at hk
        exact ⟨fun _ => hk, fun w => absurd (cmp.mpr y) w⟩
      · rw [if_neg y] at hk
        exact ⟨fun w => absurd (cmp.mp w) y, fun _ => hk⟩
    · exact h2 v v1 v2 rfl ((nI_eq (by omega) (by omega)).mp z).symm
  · rw [show md_in a 1 4 = 0 from in_n z]
    exact ⟨fun y => absurd rfl y, fun _ => h4 z⟩
end use
