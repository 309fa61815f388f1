/-! TASKS that leave, that hurry -/
def g_hu (g : gr) (q : Nat) : gr := fun k => if k = 24 + q then 1 - g (24 + q) else g k
def g_lv (g : gr) (q : Nat) : gr := fun k => if k = q ∨ k = 8 + q ∨ k = 16 + q ∨ k = 24 + q ∨ k = 32 + q then 0 else g k
/-- from which SLOT on it may leave -/
def g_mf (g : gr) (q : Nat) : Nat := if g (32 + q) = 0 then g 41 else if g_gp g q (g (32 + q)) = 0 then g_dl g q (g (32 + q)) + g_ov g q (g (32 + q)) else g_gp g q (g (32 + q))
theorem g_lv_off {g : gr} {q k : Nat} (h : ¬ (k = q ∨ k = 8 + q ∨ k = 16 + q ∨ k = 24 + q ∨ k = 32 + q)) : g_lv g q k = g k := by rw [g_lv, if_neg h]
theorem g_hu_off {g : gr} {q k : Nat} (h : ¬ k = 24 + q) : g_hu g q k = g k := by rw [g_hu, if_neg h]
theorem g_ws_le {g h : gr} : ∀ k, (∀ q, q < k → g_wt h q ≤ g_wt g q) → g_ws h k ≤ g_ws g k := by
  intro k
  induction k with
  | zero => intro _; exact Nat.le_refl _
  | succ k ih =>
    intro e
    have h1 := ih (fun q hq => e q (by omega))
    have h2 := e k (by omega)
    rw [g_ws, g_ws]
    omega
theorem g_lv_wt {g : gr} {q p : Nat} (hq : q < 8) (hp : p < 8) : g_wt (g_lv g q) p ≤ g_wt g p := by
  unfold g_wt
  by_cases e : p = q
  · subst e
    rw [show g_lv g p p = 0 by rw [g_lv, if_pos (Or.inl rfl)], Nat.zero_mul]
    exact Nat.zero_le _
  · rw [g_lv_off (by omega), g_lv_off (by omega)]
    exact Nat.le_refl _
theorem gok_lv {g : gr} {B q : Nat} (hg : gok g B) (hq : q < 8) : gok (g_lv g q) B := by
  obtain ⟨h1, h2, h3, h4, h5, h6⟩ := hg
  have hw := g_ws_le (g := g) (h := g_lv g q) 8 (fun p hp => g_lv_wt hq hp)
  refine ⟨by rw [g_lv_off (by omega)]; exact h1, by rw [g_lv_off (by omega)]; exact h2, by rw [g_lv_off (by omega)]; exact h3, by rw [g_lv_off (by omega), g_lv_off (by omega)]; exact h4, by rw [g_lv_off (k := 40) (by omega)]; omega, fun p hp => ?_⟩
  by_cases e : p = q
  · subst e
    left
    refine ⟨?_, ?_, ?_, ?_, ?_⟩ <;> rw [g_lv, if_pos (by omega)]
  · unfold tk0 tk1
    rw [g_lv_off (by omega), g_lv_off (by omega), g_lv_off (by omega), g_lv_off (by omega), g_lv_off (by omega), g_lv_off (k := 41) (by omega)]
    exact h6 p hp
theorem g_hu_cg {g : gr} {q p : Nat} (hq : q < 8) (hp : p < 8) (i : Nat) : g_rel (g_hu g q) p i = g_rel g p i ∧ g_dl (g_hu g q) p i = g_dl g p i ∧ g_ov (g_hu g q) p i = g_ov g p i ∧ g_gp (g_hu g q) p i = g_gp g p i ∧ g_wt (g_hu g q) p = g_wt g p := g_cg (g_hu_off (by omega)) (g_hu_off (by omega)) (g_hu_off (by omega)) i
theorem gok_hu {g : gr} {B q : Nat} (hg : gok g B) (hq : q < 8) (h0 : 0 < g q) : gok (g_hu g q) B := by
  have hp := hg.p hq h0
  obtain ⟨h1, h2, h3, h4, h5, h6⟩ := hg
  have hw := g_ws_le (g := g) (h := g_hu g q) 8 (fun p hp => Nat.le_of_eq (g_hu_cg hq hp 0).2.2.2.2)
  refine ⟨by rw [g_hu_off (by omega)]; exact h1, by rw [g_hu_off (by omega)]; exact h2, by rw [g_hu_off (by omega)]; exact h3, by rw [g_hu_off (by omega), g_hu_off (by omega)]; exact h4, by rw [g_hu_off (k := 40) (by omega)]; omega, fun p hp8 => ?_⟩
  by_cases e : p = q
  · subst e
    right
    obtain ⟨p1, p2, p3, p4, p5⟩ := hp
    unfold tk1
    rw [g_hu_off (show ¬ p = 24 + p by omega), g_hu_off (show ¬ 8 + p = 24 + p by omega), g_hu_off (show ¬ 16 + p = 24 + p by omega), g_hu_off (show ¬ 32 + p = 24 + p by omega), g_hu_off (show ¬ 41 = 24 + p by omega)]
    refine ⟨p1, p2, p3, ?_, p5⟩
    rw [g_hu, if_pos rfl]
    omega
  · unfold tk0 tk1
    rw [g_hu_off (show ¬ p = 24 + q by omega), g_hu_off (show ¬ 8 + p = 24 + q by omega), g_hu_off (show ¬ 16 + p = 24 + q by omega), g_hu_off (show ¬ 24 + p = 24 + q by omega), g_hu_off (show ¬ 32 + p = 24 + q by omega), g_hu_off (show ¬ 41 = 24 + q by omega)]
    exact h6 p hp8
section leave
variable {d B b r : Nat} {g g' u : gr} {ts tx : List Nat} {rw rw' : List Int64} {un un' : List gr} {kp kp' : Nat → Option gr} {he sa : List (Nat × Nat)} {M0 M M1 : Nat → Nat → Int32} {L0 ML L1 : Nat → Nat → Int64} {R0 R R1 : Nat → Nat → Option Nat}
theorem cr_lv (hc : cr M b g) (hg : gok g B) {q : Nat} (hq : q < 8) : cr (fm_u (fm_u M (b + 2) q 0) (b + 3) q 0) b (g_lv g q) := by
  obtain ⟨h1, h2, h3, h4⟩ := hc
  have row : ∀ i, fm_u (fm_u M (b + 2) q 0) (b + 3) q 0 b i = M b i := fun i => by rw [fm_u_off (by omega), fm_u_off (by omega)]
  have col : ∀ a p, ¬ p = q → fm_u (fm_u M (b + 2) q 0) (b + 3) q 0 a p = M a p := fun a p hp => by rw [fm_u_col hp, fm_u_col hp]
  refine ⟨by rw [row, h1, g_lv_off (by omega)], by rw [row, h2, g_lv_off (by omega)], by rw [row, h3, g_lv_off (by omega)], fun p hp => ?_⟩
  by_cases e : p = q
  · subst e
    obtain ⟨-, -, a3, a4, -⟩ := h4 p hp
    have z0 : g_lv g p p = 0 := by rw [g_lv, if_pos (Or.inl rfl)]
    refine ⟨?_, ?_, ?_, ?_, fun y => absurd y (by omega)⟩
    · rw [fm_u_off (by omega), fm_u_at, g_lv, if_pos (by omega)]; rfl
    · rw [fm_u_at, g_wt, z0, Nat.zero_mul]; rfl
    · rw [fm_u_off (by omega), fm_u_off (by omega)]; exact a3
    · rw [fm_u_off (by omega), fm_u_off (by omega), g_lv_off (by omega)]; exact a4
  · have h := ct_cg (M' := fm_u (fm_u M (b + 2) q 0) (b + 3) q 0) (fun j _ _ => col _ _ e) (h4 p hp)
    have cg := g_cg (g := g) (h := g_lv g q) (q := p) (g_lv_off (by omega)) (g_lv_off (by omega)) (g_lv_off (by omega))
    unfold ct at h ⊢
    rw [g_lv_off (k := 8 + p) (by omega), (cg 0).2.2.2.2, g_lv_off (k := 41) (by omega), g_lv_off (k := p) (by omega), g_lv_off (k := 16 + p) (by omega), g_lv_off (k := 24 + p) (by omega), g_lv_off (k := 32 + p) (by omega), (cg _).1, (cg _).2.1, (cg _).2.2.1, (cg _).2.2.2.1, show g_nx (g_lv g q) p = g_nx g p by unfold g_nx; rw [g_lv_off (by omega)]]
    exact h
theorem cr_hu (hc : cr M b g) (hg : gok g B) {q : Nat} (hq : q < 8) (h0 : 0 < g q) : cr (fm_u M (b + 5) q (1 - M (b + 5) q)) b (g_hu g q) := by
  have hp1 := hg.p hq h0
  obtain ⟨h1, h2, h3, h4⟩ := hc
  have row : ∀ i, fm_u M (b + 5) q (1 - M (b + 5) q) b i = M b i := fun i => by rw [fm_u_off (by omega)]
  have col : ∀ a p, ¬ p = q → fm_u M (b + 5) q (1 - M (b + 5) q) a p = M a p := fun a p hp => by rw [fm_u_col hp]
  refine ⟨by rw [row, h1, g_hu_off (by omega)], by rw [row, h2, g_hu_off (by omega)], by rw [row, h3, g_hu_off (by omega)], fun p hp => ?_⟩
  have cg := g_hu_cg (g := g) (q := q) (p := p) hq hp
  have nx : g_nx (g_hu g q) p = g_nx g p := by unfold g_nx; rw [g_hu_off (by omega)]
  by_cases e : p = q
  · subst e
    obtain ⟨a1, a2, a3, a4, a5⟩ := h4 p hp
    obtain ⟨b1, b2, b3, b4, b5, b6, b7, b8⟩ := a5 h0
    have off : ∀ j, ¬ j = 5 → fm_u M (b + 5) p (1 - M (b + 5) p) (b + j) = M (b + j) := fun j hj => fm_u_off2 hj
    have p4 := hp1.2.2.2.1
    unfold ct
    rw [off 1 (by decide), off 2 (by decide), off 3 (by decide), off 4 (by decide), off 6 (by decide), off 7 (by decide), off 8 (by decide), off 9 (by decide), off 10 (by decide), nx, (cg _).1, (cg _).2.1, (cg _).2.2.1, (cg _).2.2.2.1, (cg 0).2.2.2.2, g_hu_off (show ¬ 8 + p = 24 + p by omega), g_hu_off (show ¬ 41 = 24 + p by omega), g_hu_off (show ¬ p = 24 + p by omega), g_hu_off (show ¬ 16 + p = 24 + p by omega), g_hu_off (show ¬ 32 + p = 24 + p by omega)]
    refine ⟨a1, a2, a3, a4, fun _ => ⟨b1, b2, ?_, b4, b5, b6, b7, b8⟩⟩
    rw [fm_u_at, b3, g_hu, if_pos rfl]
    exact nI_sub (a := 1) p4
  · have h := ct_cg (M' := fm_u M (b + 5) q (1 - M (b + 5) q)) (fun j _ _ => col _ _ e) (h4 p hp)
    unfold ct at h ⊢
    rw [nx, (cg _).1, (cg _).2.1, (cg _).2.2.1, (cg _).2.2.2.1, (cg 0).2.2.2.2, g_hu_off (show ¬ 8 + p = 24 + q by omega), g_hu_off (show ¬ 41 = 24 + q by omega), g_hu_off (show ¬ p = 24 + q by omega), g_hu_off (show ¬ 16 + p = 24 + q by omega), g_hu_off (show ¬ 24 + p = 24 + q by omega), g_hu_off (show ¬ 32 + p = 24 + q by omega)]
    exact h
theorem C_turn {K : wK} (hb : fm_W b) (hd : 2 ≤ d) (hc : cr M b g) (hg : gok g B) (t : Int32) (h1 : ∀ q, q < 8 → t = nI q → 0 < g q → ∀ M1, cr M1 b (g_hu g q) → fr (fun a _ => a = b + 5) M M1 → K (nI (1 - g (24 + q))) M1 ML R) (h0 : ¬ th g t → K (-1) M ML R) : wI d 68 [.ref b, .int t] M ML R K := by
  have t1 := t_turnEarly hb (M, ML, R) t
  rw [wd_teA, wd_teM] at t1
  rcases c_th1 hc hg t with ⟨q, hq, e, hp, h2⟩ | ⟨hn, h2⟩
  · subst e
    have hcl : (nI q).toNatClampNeg = q := nI_clamp (by omega)
    rw [if_pos (show ¬ wd_there M b (nI q) = 0 by rw [h2]; decide), if_pos (show ¬ wd_there M b (nI q) = 0 by rw [h2]; decide), hcl] at t1
    refine wI_of t1 hd ?_
    dsimp only
    have e5 := ((hc.2.2.2 q hq).2.2.2.2 hp).2.2.1
    have := h1 q hq rfl hp (fm_u M (b + 5) q (1 - M (b + 5) q)) (cr_hu hc hg hq hp) (fr_u rfl)
    rw [show (1 : Int32) - M (b + 5) q = nI (1 - g (24 + q)) by rw [e5]; exact nI_sub (a := 1) (hg.p hq hp).2.2.2.1] at this ⊢
    exact this
  · rw [if_neg (fun z => z h2), if_neg (fun z => z h2)] at t1
    exact wI_of t1 hd (h0 hn)
theorem c_mlf (hc : cr M b g) (hg : gok g B) (hB : B < 2 ^ 20) {q : Nat} (hq : q < 8) (h0 : 0 < g q) : wd_mlf M b q = nI (g_mf g q) := by
  obtain ⟨b1, b2, b3, b4, b5, b6, b7, b8⟩ := (hc.2.2.2 q hq).2.2.2.2 h0
  have hdn := hg.dnB hq
  rw [wd_mlf, b4, hc.2.1, g_mf]
  by_cases z : g (32 + q) = 0
  · rw [z, if_neg (fun y => y nI_0), if_pos rfl]
  · have hgp := g_gp_lt (i := g (32 + q)) hg (by omega) hq (by omega)
    rw [if_pos (nI_ne0 (by omega) (by omega)), if_neg z, c_gof hc hg hq h0 (by omega) (by omega), b1, b2, (hc.2.2.2 q hq).1, n_dl h0 (hg.e hq) (hg.lo hq) (by omega), n_ov h0 (hg.e hq) (hg.lo hq) (by omega), nI_add, nI_add]
    by_cases y : g_gp g q (g (32 + q)) = 0
    · rw [y, if_pos nI_0, if_pos rfl]
      rfl
    · rw [if_neg (nI_ne0 (by omega) (by omega)), if_neg y]
theorem g_mf_lt (hg : gok g B) (hB : B < 2 ^ 20) {q : Nat} (hq : q < 8) : g_mf g q < 2 ^ 31 := by
  have hdn := hg.dnB hq
  have h1 := g_gp_lt (i := g (32 + q)) hg (by omega) hq (by omega)
  have h2 := g_dl_lt (i := g (32 + q)) hg (by omega) hq (by omega)
  have h3 := g_ov_lt g q (g (32 + q))
  have h4 := hg.2.2.1
  unfold g_mf
  split
  · omega
  · split <;> omega
theorem C_letGo {K : wK} (hb : fm_W b) (hd : 5 ≤ d) (hc : cr M b g) (hg : gok g B) (hB : B < 2 ^ 20) (t : Int32) (h1 : ∀ q, q < 8 → t = nI q → 0 < g q → g_mf g q ≤ g 41 → ∀ M1, cr M1 b (g_lv g q) → fr (fun a _ => a = b + 2 ∨ a = b + 3) M M1 → K (nI (bc (g_ts (g_lv g q)))) M1 ML R) (h2 : ∀ q, q < 8 → t = nI q → 0 < g q → ¬ g_mf g q ≤ g 41 → K (-3) M ML R) (h0 : ¬ th g t → K (-1) M ML R) : wI d 66 [.ref b, .int t] M ML R K := by
  have t1 := t_letGo hb (M, ML, R) ((cr_bn hc hg (by omega)).bd (by omega)) t
  rw [wd_lgA, wd_lgM] at t1
  rcases c_th1 hc hg t with ⟨q, hq, e, hp, k2⟩ | ⟨hn, k2⟩
  · subst e
    have hcl : (nI q).toNatClampNeg = q := nI_clamp (by omega)
    have hml := g_mf_lt hg hB hq
    have h41 := hg.2.2.1
    rw [if_pos (show ¬ wd_there M b (nI q) = 0 by rw [k2]; decide), if_pos (show ¬ wd_there M b (nI q) = 0 by rw [k2]; decide), wd_lgM', hcl] at t1
    dsimp only at t1
    by_cases z : g_mf g q ≤ g 41
    · have z' : wd_mlf M b q ≤ M b 11 := by rw [c_mlf hc hg hB hq hp, hc.2.1]; exact (nI_leI (by omega) (by omega)).mpr z
      rw [if_pos z', if_pos z'] at t1
      have cl := cr_lv hc hg hq
      rw [c_tset cl (gok_lv hg hq) 8 (by omega), bt_bc _ (bm_lt _ 8 (by omega))] at t1
      exact wI_of t1 hd (h1 q hq rfl hp z _ cl (fr_u2 (fr_u (Or.inl rfl)) (Or.inr rfl)))
    · have z' : ¬ wd_mlf M b q ≤ M b 11 := by rw [c_mlf hc hg hB hq hp, hc.2.1]; exact fun y => z ((nI_leI (by omega) (by omega)).mp y)
      rw [if_neg z', if_neg z'] at t1
      exact wI_of t1 hd (h2 q hq rfl hp z)
  · rw [if_neg (fun z => z k2), if_neg (fun z => z k2)] at t1
    exact wI_of t1 hd (h0 hn)
/-! the reference -/
theorem m_rl {a : Nat → Int32} (ha : rr a g) (hg : gok g B) (hB : B < 2 ^ 20) {q : Nat} (hq : q < 8) (h0 : 0 < g q) : md_rl2 a q = if g_mf g q ≤ g 41 then 0 else -3 := by
  have hdn := hg.dnB hq
  have hml := g_mf_lt hg hB hq
  have h41 := hg.2.2.1
  rw [md_rl2, ha (32 + q) (by omega), ha 41 (by omega)]
  unfold g_mf at hml ⊢
  by_cases z : g (32 + q) = 0
  · rw [z, if_neg (fun y => y nI_0), if_pos rfl, if_pos (Nat.le_refl _)]
  · have hgp := g_gp_lt (i := g (32 + q)) hg (by omega) hq (by omega)
    have hdl := g_dl_lt (i := g (32 + q)) hg (by omega) hq (by omega)
    have hov := g_ov_lt g q (g (32 + q))
    rw [if_pos (nI_ne0 (by omega) (by omega)), if_neg z, (m_gp ha hg (by omega) hq h0 (by omega) (by omega)).1, m_dl ha hg (by omega) hq h0 (by omega), m_ov ha hg hq h0 (by omega), nI_add]
    by_cases y : g_gp g q (g (32 + q)) = 0
    · rw [y, if_pos nI_0, if_pos rfl]
      by_cases x : g_dl g q (g (32 + q)) + g_ov g q (g (32 + q)) ≤ g 41
      · rw [if_pos x, if_pos ((nI_leI (by omega) (by omega)).mpr x)]
      · rw [if_neg x, if_neg (fun w => x ((nI_leI (by omega) (by omega)).mp w))]
    · rw [if_neg (nI_ne0 (by omega) (by omega)), if_neg y]
      by_cases x : g_gp g q (g (32 + q)) ≤ g 41
      · rw [if_pos x, if_pos ((nI_leI (by omega) (by omega)).mpr x)]
      · rw [if_neg x, if_neg (fun w => x ((nI_leI (by omega) (by omega)).mp w))]
theorem R_refuse {K : wK} (hr : fm_N r) (hd : 4 ≤ d) (ha : rr (M r) g) (hg : gok g B) (hB : B < 2 ^ 20) (t : Int32) (h1 : ∀ q, q < 8 → t = nI q → 0 < g q → K (if g_mf g q ≤ g 41 then 0 else -3) M ML R) (h0 : ¬ th g t → K (-1) M ML R) : wI d 178 [.ref r, .int t] M ML R K := by
  have hgk : ∀ k, k < 8 → ¬ M r k = 0 → md_gok (M r) k (M r (32 + k)) := fun k hk hz => by
    have h00 : 0 < g k := by
      rcases Nat.eq_zero_or_pos (g k) with z | z
      · rw [ha k (by omega), z] at hz
        exact absurd nI_0 hz
      · exact z
    rw [ha (32 + k) (by omega)]
    have hdn := hg.dnB hk
    by_cases z : g (32 + k) = 0
    · rw [z]
      intro hle
      have he := hg.e hk
      have key := m_gl ha hg (by omega) hk h00 (least := p_dl (g k) (g (8 + k)) 0) (by have := p_dl_lt (e := g k) (p := g (8 + k)) (i := 0) (by omega) (hg.lo hk) (hg.e hk); omega) (g k) 12 1 (by omega) (by omega) (by omega) (p_end h00 1)
      have hd0 : md_dl (M r) k (nI 0) = nI (g (16 + k) + p_dl (g k) (g (8 + k)) 0) := m_dl ha hg (by omega) hk h00 (by omega)
      rw [hd0]
      have e13 : ∀ x, md_gl (M r) k x 13 (nI 0) = if ¬ md_len (M r) k (nI 0) = 3 then (if ¬ md_ov (M r) k (nI 0) = 0 then md_gl (M r) k x 12 (nI 0 + 1) else some (md_dl (M r) k (nI 0))) else if md_dl (M r) k (nI 0) - 1 < x then (if ¬ md_ov (M r) k (nI 0) = 0 then md_gl (M r) k x 12 (nI 0 + 1) else some (md_dl (M r) k (nI 0))) else some (md_dl (M r) k (nI 0) - 1) := fun x => rfl
      rw [e13]
      have n1 : nI 0 + 1 = nI 1 := rfl
      rw [n1, key]
      split
      · split <;> rfl
      · split
        · split <;> rfl
        · rfl
    · exact (m_gp ha hg (by omega) hk h00 (by omega) (by omega)).2
  have t1 := t_mrefuses hr (M, ML, R) t hgk
  rcases i8c (t := t) with ⟨q, hq, rfl⟩ | hn
  · have e : md_in (nI q) 0 7 = 1 := in_y (lo := 0) (hi := 7) (by decide) (by omega) (by omega)
    rw [md_rl, e, if_neg (by decide), nI_clamp (by omega)] at t1
    dsimp only at t1
    rw [m_th ha hg hq] at t1
    by_cases z : 0 < g q
    · rw [if_pos z, if_pos (by decide), m_rl ha hg hB hq z] at t1
      exact wI_of t1 hd (h1 q hq rfl z)
    · rw [if_neg z, if_neg (fun y => y rfl)] at t1
      exact wI_of t1 hd (h0 (fun y => z ((th_nI hq).mp y)))
  · have e : md_in t 0 7 = 0 := in_n (by
      rcases hn with h | h
      · exact Or.inl h
      · exact Or.inr (Int32.lt_of_lt_of_le (by decide) h))
    rw [md_rl, e, if_pos rfl] at t1
    exact wI_of t1 hd (h0 (fun ⟨q, hq, e, _⟩ => nI_n8 hn hq e))
theorem rr_lv {a : Nat → Int32} (ha : rr a g) {q : Nat} (hq : q < 8) : rr (md_glR a q) (g_lv g q) := by
  intro k hk
  rw [md_glR, g_lv]
  by_cases e5 : k = 32 + q
  · subst e5; rw [upd_same, if_pos (by omega)]; rfl
  · rw [upd_ne e5]
    by_cases e4 : k = 24 + q
    · subst e4; rw [upd_same, if_pos (by omega)]; rfl
    · rw [upd_ne e4]
      by_cases e3 : k = 16 + q
      · subst e3; rw [upd_same, if_pos (by omega)]; rfl
      · rw [upd_ne e3]
        by_cases e2 : k = 8 + q
        · subst e2; rw [upd_same, if_pos (by omega)]; rfl
        · rw [upd_ne e2]
          by_cases e1 : k = q
          · subst e1; rw [upd_same, if_pos (by omega)]; rfl
          · rw [upd_ne e1, if_neg (by omega)]
            exact ha k hk
theorem R_goLeave {K : wK} (hr : fm_N r) (hd : 3 ≤ d) (ha : rr (M r) g) (hg : gok g B) {q : Nat} (hq : q < 8) (hK : ∀ M1, rr (M1 r) (g_lv g q) → fr (fun a _ => a = r) M M1 → K (nI (bc (g_ts (g_lv g q)))) M1 ML R) : wI d 179 [.ref r, .int (nI q)] M ML R K := by
  have t1 := t_mgoLeave hr M ML R q hq
  have hl := rr_lv ha hq
  rw [m_tset hl (gok_lv hg hq) 8 (by omega), bt_bc _ (bm_lt _ 8 (by omega))] at t1
  exact wI_of t1 hd (hK _ (by rw [fm_row_row]; exact hl) (fr_row (fun _ => rfl)))
end leave
