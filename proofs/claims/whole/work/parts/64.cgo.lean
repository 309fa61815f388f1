theorem fm_u_col {M : Nat → Nat → Int32} {a i c j : Nat} {x : Int32} (h : ¬ j = i) : fm_u M a i x c j = M c j := by
  unfold fm_u
  split
  next e => subst e; simp [upd, h]
  next => rfl
theorem wd_look_col {M : Nat → Nat → Int32} {b k c q : Nat} (h : ¬ q = k) : wd_look M b k c q = M c q := by
  rw [wd_look, fm_u_col h, fm_u_col h, fm_u_col h, fm_u_col h]
theorem wd_look_7 {M : Nat → Nat → Int32} {b k : Nat} : wd_look M b k (b + 7) k = M (b + 4) k + pt_rel (M (b + 1) k) (M (b + 2) k) (M (b + 6) k + 1) := by
  rw [wd_look, fm_u_off2 (by decide), fm_u_off2 (by decide), fm_u_off2 (by decide), fm_u_at]
theorem wd_look_8 {M : Nat → Nat → Int32} {b k : Nat} : wd_look M b k (b + 8) k = M (b + 4) k + pt_dl (M (b + 1) k) (M (b + 2) k) (M (b + 6) k + 1) := by
  rw [wd_look, fm_u_off2 (by decide), fm_u_off2 (by decide), fm_u_at]
theorem wd_look_9 {M : Nat → Nat → Int32} {b k : Nat} : wd_look M b k (b + 9) k = pt_ov (M (b + 1) k) (M (b + 2) k) (M (b + 6) k + 1) := by
  rw [wd_look, fm_u_off2 (by decide), fm_u_at]
theorem wd_look_10 {M : Nat → Nat → Int32} {b k : Nat} : wd_look M b k (b + 10) k = wd_gof M b k (M (b + 6) k + 1) := by
  rw [wd_look, fm_u_at]
theorem g_d2_lo {g : gr} {w k : Nat} (h : k < 32 ∨ 40 ≤ k) : g_d2 g w k = g k := by
  rw [g_d2, if_neg (by omega)]
theorem g_d2_dn {g : gr} {w q : Nat} (hq : q < 8) : g_d2 g w (32 + q) = g (32 + q) + (if w.testBit q = true then 1 else 0) := by
  rw [g_d2, show 32 + q - 32 = q by omega]
  by_cases h : w.testBit q = true
  · rw [if_pos ⟨by omega, by omega, h⟩, if_pos h]
  · rw [if_neg (fun z => h z.2.2), if_neg h]
    omega
theorem g_st_d2 {g : gr} {w k : Nat} (h : k < 41) : g_st g w k = g_d2 g w k := by
  rw [g_st, if_neg (by omega), if_neg (by omega)]
theorem g_st_lo {g : gr} {w k : Nat} (h : k < 32 ∨ k = 40) : g_st g w k = g k := by
  rw [g_st_d2 (by omega), g_d2_lo (by omega)]
theorem g_st_41 {g : gr} {w : Nat} : g_st g w 41 = g 41 + 1 := by
  rw [g_st, if_neg (by decide), if_pos rfl]
theorem g_st_42 {g : gr} {w : Nat} : g_st g w 42 = g 42 + bc (g_ms (g_d2 g w) 8) := by
  rw [g_st, if_pos rfl]
theorem g_st_dn {g : gr} {w q : Nat} (hq : q < 8) : g_st g w (32 + q) = g (32 + q) + (if w.testBit q = true then 1 else 0) := by
  rw [g_st_d2 (by omega), g_d2_dn hq]
/-- the numbers of a PART hang on four entries -/
theorem g_cg {g h : gr} {q : Nat} (h1 : h q = g q) (h2 : h (8 + q) = g (8 + q)) (h3 : h (16 + q) = g (16 + q)) (i : Nat) : g_rel h q i = g_rel g q i ∧ g_dl h q i = g_dl g q i ∧ g_ov h q i = g_ov g q i ∧ g_gp h q i = g_gp g q i ∧ g_wt h q = g_wt g q := by
  unfold g_rel g_dl g_ov g_gp g_wt
  rw [h1, h2, h3]
  exact ⟨rfl, rfl, rfl, rfl, rfl⟩
theorem g_st_cg {g : gr} {w q : Nat} (hq : q < 8) (i : Nat) : g_rel (g_st g w) q i = g_rel g q i ∧ g_dl (g_st g w) q i = g_dl g q i ∧ g_ov (g_st g w) q i = g_ov g q i ∧ g_gp (g_st g w) q i = g_gp g q i ∧ g_wt (g_st g w) q = g_wt g q := g_cg (g_st_lo (by omega)) (g_st_lo (by omega)) (g_st_lo (by omega)) i
theorem g_ws_cg {g h : gr} : ∀ n, (∀ q, q < n → g_wt h q = g_wt g q) → g_ws h n = g_ws g n := by
  intro n
  induction n with
  | zero => intro _; rfl
  | succ n ih =>
    intro hq
    rw [g_ws, g_ws, ih (fun q hl => hq q (by omega)), hq n (by omega)]
theorem gok_st {g : gr} {B w : Nat} (hg : gok g B) (hw : ∀ j, j < 8 → w.testBit j = true → 0 < g j) : gok (g_st g w) (B + 1) := by
  have h0 := hg
  obtain ⟨h1, h2, h3, h4, h5, h6⟩ := hg
  have hb := bc_le (g_ms (g_d2 g w) 8)
  refine ⟨by rw [g_st_lo (by omega)]; exact h1, by rw [g_st_lo (by omega)]; exact h2, by rw [g_st_41]; omega, by rw [g_st_42, g_st_41]; omega, ?_, ?_⟩
  · rw [g_ws_cg 8 (fun q hq => (g_st_cg hq 0).2.2.2.2), g_st_lo (by omega)]
    exact h5
  · intro q hq
    unfold tk0 tk1
    rw [g_st_lo (by omega), g_st_lo (by omega), g_st_lo (by omega), g_st_lo (by omega), g_st_dn hq, g_st_41]
    by_cases hb : w.testBit q = true
    · have h7 := h0.p hq (hw q hq hb)
      obtain ⟨a1, a2, a3, a4, a5⟩ := h7
      rw [if_pos hb]
      exact Or.inr ⟨a1, a2, a3, a4, by omega⟩
    · rw [if_neg hb]
      rcases h6 q hq with z | z
      · exact Or.inl z
      · exact Or.inr ⟨z.1, z.2.1, z.2.2.1, z.2.2.2.1, by have := z.2.2.2.2; omega⟩
theorem gok_go {g : gr} {B : Nat} (hg : gok g B) (ts : List Nat) (held : Int32) : gok (g_go g ts held) (B + 1) := gok_st hg (fun _ hj h => g_rn_p hj h)
theorem ct_cg {M M' : Nat → Nat → Int32} {b : Nat} {g : gr} {q : Nat} (h : ∀ j, 1 ≤ j → j ≤ 10 → M' (b + j) q = M (b + j) q) (hc : ct M b g q) : ct M' b g q := by
  unfold ct
  rw [h 1 (by omega) (by omega), h 2 (by omega) (by omega), h 3 (by omega) (by omega), h 4 (by omega) (by omega), h 5 (by omega) (by omega), h 6 (by omega) (by omega), h 7 (by omega) (by omega), h 8 (by omega) (by omega), h 9 (by omega) (by omega), h 10 (by omega) (by omega)]
  exact hc
/-- not run: nothing changes but the SLOT -/
theorem ct_rest {M : Nat → Nat → Int32} {b : Nat} {g : gr} {w q : Nat} (hq : q < 8) (hw : ¬ w.testBit q = true) (hc : ct M b g q) : ct M b (g_st g w) q := by
  obtain ⟨c2, c3, c1, ⟨y, hy, c6⟩, cp⟩ := hc
  have hn : g_nx (g_st g w) q = g_nx g q := by unfold g_nx; rw [g_st_dn hq, if_neg hw]
  obtain ⟨e1, e2, e3, e4, e5⟩ := g_st_cg (g := g) (w := w) hq (g_nx g q)
  refine ⟨by rw [g_st_lo (by omega)]; exact c2, by rw [e5]; exact c3, c1, ⟨y, by rw [g_st_41]; omega, c6⟩, ?_⟩
  rw [g_st_lo (by omega), g_st_lo (by omega), g_st_lo (by omega), g_st_dn hq, if_neg hw, Nat.add_zero, hn, e1, e2, e3, e4]
  exact cp
theorem n_gof {M : Nat → Nat → Int32} {b : Nat} {g : gr} {B q i : Nat} (hg : gok g B) (hB : B < 2 ^ 22) (hq : q < 8) (h0 : 0 < g q) (hi : 0 < i) (hi2 : i < 2 ^ 23) (c1 : M (b + 1) q = nI (g q)) (c2 : M (b + 2) q = nI (g (8 + q))) (c4 : M (b + 4) q = nI (g (16 + q))) : wd_gof M b q (nI i) = nI (g_gp g q i) := by
  have hp := hg.p hq h0
  have h3 := p_gp_lt (e := g q) (p := g (8 + q)) (i := i) (hg.e hq) (hg.lo hq) hi2
  rw [wd_gof, c1, c2, c4, n_gp h0 (hg.e hq) (hg.lo hq) hi hi2, g_gp]
  by_cases h : p_gp (g q) (g (8 + q)) i = 0
  · rw [if_pos h, h, if_neg (fun z => z rfl)]
    rfl
  · rw [if_neg h, if_pos (nI_ne0 (by omega) (by omega)), nI_add]
theorem ct_run {M : Nat → Nat → Int32} {b : Nat} {g : gr} {B w q : Nat} (hg : gok g B) (hB : B < 2 ^ 22) (hq : q < 8) (h0 : 0 < g q) (hw : w.testBit q = true) (hc : ct M b g q) : ct (wd_look (fm_u M (b + 6) q (M (b + 6) q + 1)) b q) b (g_st g w) q := by
  obtain ⟨c2, c3, c1, ⟨y, hy, c6⟩, cp⟩ := hc
  obtain ⟨p1, p4, p5, p6, -, -, -, -⟩ := cp h0
  have hd := hg.dn hq
  have hb := hg.2.2.1
  have hn : g_nx (g_st g w) q = g (32 + q) + 2 := by unfold g_nx; rw [g_st_dn hq, if_pos hw]
  have e2 : nI (g (32 + q)) + 1 + 1 = nI (g (32 + q) + 2) := by rw [nI_1, nI_1]
  obtain ⟨e1, e3, e4, e5, e6⟩ := g_st_cg (g := g) (w := w) hq (g (32 + q) + 2)
  have r : ∀ j, ¬ j = 6 → fm_u M (b + 6) q (M (b + 6) q + 1) (b + j) = M (b + j) := fun j hj => fm_u_off2 hj
  have o : ∀ j, j ≤ 6 → ¬ j = 6 → wd_look (fm_u M (b + 6) q (M (b + 6) q + 1)) b q (b + j) = M (b + j) := fun j hj hj2 => by rw [wd_look_off (by omega), r j hj2]
  have d6 : wd_look (fm_u M (b + 6) q (M (b + 6) q + 1)) b q (b + 6) q = nI (g (32 + q) + 1) := by rw [wd_look_off (by omega), fm_u_at, p6, nI_1]
  have f6 : fm_u M (b + 6) q (M (b + 6) q + 1) (b + 6) q + 1 = nI (g (32 + q) + 2) := by rw [fm_u_at, p6, e2]
  refine ⟨by rw [o 2 (by omega) (by omega), g_st_lo (by omega)]; exact c2, by rw [o 3 (by omega) (by omega), e6]; exact c3, ⟨g q, hg.e hq, by rw [o 1 (by omega) (by omega)]; exact p1⟩, ⟨g (32 + q) + 1, by rw [g_st_41]; omega, d6⟩, fun _ => ?_⟩
  rw [hn, e1, e3, e4, e5, g_st_lo (by omega), g_st_lo (by omega), g_st_lo (by omega), g_st_dn hq, if_pos hw, o 1 (by omega) (by omega), o 4 (by omega) (by omega), o 5 (by omega) (by omega), wd_look_7, wd_look_8, wd_look_9, wd_look_10, f6, r 1 (by omega), r 2 (by omega), r 4 (by omega)]
  refine ⟨p1, p4, p5, d6, ?_, ?_, ?_, ?_⟩
  · rw [p1, c2, p4, n_rel h0 (hg.e hq) (hg.lo hq) (by omega) (by omega), nI_add]; rfl
  · rw [p1, c2, p4, n_dl h0 (hg.e hq) (hg.lo hq) (by omega), nI_add]; rfl
  · rw [p1, c2, n_ov h0 (hg.e hq) (hg.lo hq) (by omega)]; rfl
  · exact n_gof hg hB hq h0 (by omega) (by omega) (by rw [r 1 (by omega)]; exact p1) (by rw [r 2 (by omega)]; exact c2) (by rw [r 4 (by omega)]; exact p4)
section cg2
variable {M : Nat → Nat → Int32} {b B w : Nat} {g : gr}
theorem wd_ga_col {k c q : Nat} (h : ¬ q = k) : wd_ga M b k c q = M c q := by
  unfold wd_ga
  split
  · rfl
  · rw [wd_look_col h, fm_u_col h]
theorem wd_g2_col {c q : Nat} (hcb : ¬ c = b) : ∀ k, k ≤ q → wd_g2 M b k c q = M c q := by
  intro k
  induction k with
  | zero => intro _; rfl
  | succ k ih =>
    intro h
    rw [wd_g2, wd_gb_row hcb, wd_ga_col (by omega), ih (by omega)]
theorem c_g2 (hc : ∀ q, q < 8 → ct M b g q) (hg : gok g B) (hB : B < 2 ^ 21) (hw : w < 256) (hwp : ∀ j, j < 8 → w.testBit j = true → 0 < g j) (h11 : M b 11 = nI (g 41)) (h12 : M b 12 = nI (g 42)) (h13 : M b 13 = nI w) (h15 : M b 15 = 0) : ∀ k, k ≤ 8 →
    (∀ q, q < k → ct (wd_g2 M b k) b (g_st g w) q) ∧ wd_g2 M b k b 15 = nI (g_ms (g_d2 g w) k) ∧ wd_g2 M b k b 12 = nI (g 42 + (List.range k).countP (fun j => (g_ms (g_d2 g w) 8).testBit j)) := by
  intro k
  induction k with
  | zero => intro _; exact ⟨fun q hq => by omega, by rw [wd_g2, h15]; rfl, by rw [wd_g2, h12]; rfl⟩
  | succ k ih =>
    intro hk
    obtain ⟨i1, i2, i3⟩ := ih (by omega)
    have hk8 : k < 8 := by omega
    have hbb := hg.2.2.1
    have hck : ct (wd_g2 M b k) b g k := ct_cg (fun j _ _ => wd_g2_col (by omega) k (Nat.le_refl k)) (hc k hk8)
    have e13 : wd_g2 M b k b 13 = nI w := by rw [wd_g2_ix (by decide) (by decide), h13]
    have e11 : wd_g2 M b k b 11 = nI (g 41) := by rw [wd_g2_ix (by decide) (by decide), h11]
    have hA : ct (wd_ga (wd_g2 M b k) b k) b (g_st g w) k := by
      unfold wd_ga wd_run
      rw [e13, bt_get w hw k hk8]
      by_cases h : w.testBit k = true
      · rw [if_pos h, if_neg (show ¬ (1 : Int32) = 0 by decide), if_neg (show ¬ (1 : Int32) = 0 by decide)]
        exact ct_run hg (by omega) hk8 (hwp k hk8 h) h hck
      · rw [if_neg h, if_pos rfl, if_pos rfl]
        exact ct_rest hk8 h hck
    have a11 : wd_ga (wd_g2 M b k) b k b = wd_g2 M b k b := wd_ga_row (by omega)
    have hcol : ∀ q, q < k → ct (wd_ga (wd_g2 M b k) b k) b (g_st g w) q := fun q hq => ct_cg (fun j _ _ => wd_ga_col (by omega)) (i1 q hq)
    generalize hMA : wd_ga (wd_g2 M b k) b k = MA at hA a11 hcol
    have hdl : (g_dl (g_d2 g w) k (g_nx (g_d2 g w) k) = g_d2 g w 41 + 1) ↔ (g_dl (g_st g w) k (g_nx (g_st g w) k) = g 41 + 1) := by
      rw [g_d2_lo (k := 41) (by omega)]
      have e1 : g_nx (g_d2 g w) k = g_nx (g_st g w) k := by unfold g_nx; rw [g_st_d2 (by omega)]
      rw [e1, (g_cg (g := g_d2 g w) (h := g_st g w) (q := k) (g_st_d2 (by omega)) (g_st_d2 (by omega)) (g_st_d2 (by omega)) (g_nx (g_st g w) k)).2.1]
    have hS : (decide (0 < g_d2 g w k) && decide (g_dl (g_d2 g w) k (g_nx (g_d2 g w) k) = g_d2 g w 41 + 1)) = (decide (0 < g k) && decide (g_dl (g_st g w) k (g_nx (g_st g w) k) = g 41 + 1)) := by
      rw [decide_eq_decide.mpr hdl, g_d2_lo (show k < 32 ∨ 40 ≤ k by omega)]
    have hgs := gok_st hg hwp
    have hn2 := g_nx_lt hgs (by omega) hk8
    have hdb := g_dl_lt hgs (by omega) hk8 hn2
    have hms : g_ms (g_d2 g w) 8 = bm (fun q => decide (0 < g_d2 g w q) && decide (g_dl (g_d2 g w) q (g_nx (g_d2 g w) q) = g_d2 g w 41 + 1)) 8 := rfl
    have hcnt : (List.range (k + 1)).countP (fun j => (g_ms (g_d2 g w) 8).testBit j) = (List.range k).countP (fun j => (g_ms (g_d2 g w) 8).testBit j) + (if (decide (0 < g k) && decide (g_dl (g_st g w) k (g_nx (g_st g w) k) = g 41 + 1)) = true then 1 else 0) := by
      rw [List.range_succ, List.countP_append, List.countP_cons, List.countP_nil, Nat.zero_add, hms, bm_8 _ hk8, hS]
    have hlo : MA (b + 2) k = nI (g (8 + k)) := by rw [hA.1, g_st_lo (by omega)]
    have hth : wd_there MA b (nI k) = if 0 < g k then 1 else 0 := by
      rw [wd_there_nI hk8, hlo]
      have h1 := hg.lo hk8
      have h2 := hg.lo0 hk8
      by_cases h : 0 < g k
      · rw [if_pos h, if_neg (nI_nle (h2.mpr h) (by omega))]
      · rw [if_neg h, show g (8 + k) = 0 by omega]
        rfl
    have i15 : MA b 15 = nI (g_ms (g_d2 g w) k) := by rw [a11]; exact i2
    have i12 : MA b 12 = nI (g 42 + (List.range k).countP (fun j => (g_ms (g_d2 g w) 8).testBit j)) := by rw [a11]; exact i3
    have i11 : MA b 11 = nI (g 41) := by rw [a11]; exact e11
    have hmsk : g_ms (g_d2 g w) (k + 1) = if (decide (0 < g k) && decide (g_dl (g_st g w) k (g_nx (g_st g w) k) = g 41 + 1)) = true then g_ms (g_d2 g w) k ||| 1 <<< k else g_ms (g_d2 g w) k := by
      show bm _ (k + 1) = _
      rw [bm, hS]
      rfl
    rw [wd_g2, hMA, hcnt, hmsk]
    refine ⟨fun q hq => ct_cg (fun j _ _ => by rw [wd_gb_row (by omega)]) (by
      by_cases e : q = k
      · subst e; exact hA
      · exact hcol q (by omega)), ?_, ?_⟩
    · unfold wd_gb
      rw [hth, i11, nI_1]
      by_cases h : 0 < g k
      · have d8 := (hA.2.2.2.2 (by rw [g_st_lo (by omega)]; exact h)).2.2.2.2.2.1
        rw [if_pos h, if_neg (by decide), d8]
        by_cases h2 : g_dl (g_st g w) k (g_nx (g_st g w) k) = g 41 + 1
        · rw [h2, if_neg (fun z => z rfl), fm_u_ix (by decide), fm_u_at, i15, if_pos (by simp [h])]
          exact bt_or _ (bm_lt _ k (by omega)) k hk8
        · rw [if_pos (fun z => h2 ((nI_eq (by omega) (by omega)).mp z)), if_neg (by simp [h2]), i15]
      · rw [if_neg h, if_pos rfl, if_neg (by simp [h]), i15]
    · unfold wd_gb
      rw [hth, i11, nI_1]
      by_cases h : 0 < g k
      · have d8 := (hA.2.2.2.2 (by rw [g_st_lo (by omega)]; exact h)).2.2.2.2.2.1
        rw [if_pos h, if_neg (by decide), d8]
        by_cases h2 : g_dl (g_st g w) k (g_nx (g_st g w) k) = g 41 + 1
        · rw [h2, if_neg (fun z => z rfl), fm_u_at, i12, if_pos (by simp [h]), nI_1, Nat.add_assoc]
        · rw [if_pos (fun z => h2 ((nI_eq (by omega) (by omega)).mp z)), if_neg (by simp [h2]), i12, Nat.add_zero]
      · rw [if_neg h, if_pos rfl, if_neg (by simp [h]), i12, Nat.add_zero]
end cg2
/-- a SLOT goes by in the class's world -/
theorem c_gob {M : Nat → Nat → Int32} {b t B : Nat} {g : gr} {ts : List Nat} (hc : cr M b g) (hg : gok g B) (hB : B < 2 ^ 21) (ht : tr M t ts) (hts : tsok ts) (held : Int32) : cr (wd_gob M b t ts.length (g 40) held) b (g_go g ts held) ∧ wd_gob M b t ts.length (g 40) held b 13 = nI (g_rn g ts held) ∧ wd_gob M b t ts.length (g 40) held b 14 = nI (bc (g_w g held)) ∧ wd_gob M b t ts.length (g 40) held b 15 = nI (g_ms (g_d2 g (g_rn g ts held)) 8) := by
  obtain ⟨w1, w2⟩ := c_who hc hg (by omega) ht hts held
  rw [w1] at w2
  unfold wd_gob g_go
  rw [w1]
  dsimp only
  rw [w2, bt_bc _ (g_w_lt g held)]
  have hrp : ∀ j, j < 8 → (g_rn g ts held).testBit j = true → 0 < g j := fun j hj h => g_rn_p hj h
  have hrl := g_rn_lt g ts held
  generalize g_rn g ts held = w at hrp hrl ⊢
  have hM : ∀ a, ¬ a = b → fm_u (fm_u (fm_u M b 14 (nI (bc (g_w g held)))) b 13 (nI w)) b 15 0 a = M a := fun a ha => by rw [fm_u_off ha, fm_u_off ha, fm_u_off ha]
  have m10 : fm_u (fm_u (fm_u M b 14 (nI (bc (g_w g held)))) b 13 (nI w)) b 15 0 b 10 = M b 10 := by rw [fm_u_ix (by decide), fm_u_ix (by decide), fm_u_ix (by decide)]
  have m11 : fm_u (fm_u (fm_u M b 14 (nI (bc (g_w g held)))) b 13 (nI w)) b 15 0 b 11 = M b 11 := by rw [fm_u_ix (by decide), fm_u_ix (by decide), fm_u_ix (by decide)]
  have m12 : fm_u (fm_u (fm_u M b 14 (nI (bc (g_w g held)))) b 13 (nI w)) b 15 0 b 12 = M b 12 := by rw [fm_u_ix (by decide), fm_u_ix (by decide), fm_u_ix (by decide)]
  have m13 : fm_u (fm_u (fm_u M b 14 (nI (bc (g_w g held)))) b 13 (nI w)) b 15 0 b 13 = nI w := by rw [fm_u_ix (by decide), fm_u_at]
  have m14 : fm_u (fm_u (fm_u M b 14 (nI (bc (g_w g held)))) b 13 (nI w)) b 15 0 b 14 = nI (bc (g_w g held)) := by rw [fm_u_ix (by decide), fm_u_ix (by decide), fm_u_at]
  have m15 : fm_u (fm_u (fm_u M b 14 (nI (bc (g_w g held)))) b 13 (nI w)) b 15 0 b 15 = 0 := by rw [fm_u_at]
  generalize fm_u (fm_u (fm_u M b 14 (nI (bc (g_w g held)))) b 13 (nI w)) b 15 0 = M1 at *
  obtain ⟨q1, q2, q3⟩ := c_g2 (M := M1) (b := b) (g := g) (w := w) (fun q hq => ct_cg (fun j h1 _ => by rw [hM _ (by omega)]) (hc.2.2.2 q hq)) hg hB hrl hrp (by rw [m11]; exact hc.2.1) (by rw [m12]; exact hc.2.2.1) m13 m15 8 (by omega)
  refine ⟨⟨?_, ?_, ?_, fun q hq => ct_cg (fun j h1 _ => by rw [fm_u_off (by omega)]) (q1 q hq)⟩, ?_, ?_, ?_⟩
  · rw [fm_u_ix (by decide), wd_g2_ix (by decide) (by decide), m10, hc.1, g_st_lo (by omega)]
  · rw [fm_u_at, wd_g2_ix (by decide) (by decide), m11, hc.2.1, nI_1, g_st_41]
  · rw [fm_u_ix (by decide), q3, g_st_42]
    rfl
  · rw [fm_u_ix (by decide), wd_g2_ix (by decide) (by decide), m13]
  · rw [fm_u_ix (by decide), wd_g2_ix (by decide) (by decide), m14]
  · rw [fm_u_ix (by decide), q2]
