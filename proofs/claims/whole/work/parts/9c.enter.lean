/-! a TASK enters -/
def g_en (g : gr) (q : Nat) (t : Nat × Nat × Nat) : gr := fun k => if k = q then t.1 else if k = 8 + q then t.2.1 else if k = 16 + q then g 41 else if k = 24 + q then t.2.2 else if k = 32 + q then 0 else g k
/-- a world whose WEIGHTS may be too much -/
def gpk (g : gr) (B : Nat) : Prop := 1 ≤ g 40 ∧ g 40 ≤ 4 ∧ g 41 ≤ B ∧ g 42 ≤ 8 * g 41 ∧ ∀ q, q < 8 → tk0 g q ∨ tk1 g q
def tkok (t : Nat × Nat × Nat) : Prop := 1 ≤ t.1 ∧ t.1 ≤ t.2.1 ∧ t.2.1 ≤ 12 ∧ t.2.2 ≤ 1
section ent
variable {g : gr} {q B b : Nat} {t : Nat × Nat × Nat} {M : Nat → Nat → Int32}
theorem gok.k (h : gok g B) : gpk g B := ⟨h.1, h.2.1, h.2.2.1, h.2.2.2.1, h.2.2.2.2.2⟩
theorem gpk.ok (h : gpk g B) (hw : g_ws g 8 ≤ 27720 * g 40) : gok g B := ⟨h.1, h.2.1, h.2.2.1, h.2.2.2.1, hw, h.2.2.2.2⟩
theorem g_en_1 : g_en g q t q = t.1 := by rw [g_en, if_pos rfl]
theorem g_en_2 : g_en g q t (8 + q) = t.2.1 := by rw [g_en, if_neg (by omega), if_pos rfl]
theorem g_en_3 : g_en g q t (16 + q) = g 41 := by rw [g_en, if_neg (by omega), if_neg (by omega), if_pos rfl]
theorem g_en_4 : g_en g q t (24 + q) = t.2.2 := by rw [g_en, if_neg (by omega), if_neg (by omega), if_neg (by omega), if_pos rfl]
theorem g_en_5 : g_en g q t (32 + q) = 0 := by rw [g_en, if_neg (by omega), if_neg (by omega), if_neg (by omega), if_neg (by omega), if_pos rfl]
theorem g_en_n {k : Nat} (hq : q < 8) (h : 40 ≤ k ∨ ∃ r, r < 8 ∧ ¬ r = q ∧ (k = r ∨ k = 8 + r ∨ k = 16 + r ∨ k = 24 + r ∨ k = 32 + r)) : g_en g q t k = g k := by
  have : ¬ k = q ∧ ¬ k = 8 + q ∧ ¬ k = 16 + q ∧ ¬ k = 24 + q ∧ ¬ k = 32 + q := by
    rcases h with h | ⟨r, h1, h2, h3⟩
    · omega
    · omega
  rw [g_en, if_neg this.1, if_neg this.2.1, if_neg this.2.2.1, if_neg this.2.2.2.1, if_neg this.2.2.2.2]
theorem gpk_en (h : gpk g B) (hq : q < 8) (ht : tkok t) : gpk (g_en g q t) B := by
  obtain ⟨h1, h2, h3, h4, h5⟩ := h
  obtain ⟨t1, t2, t3, t4⟩ := ht
  have e40 := g_en_n (g := g) (t := t) (k := 40) hq (Or.inl (by omega))
  have e41 := g_en_n (g := g) (t := t) (k := 41) hq (Or.inl (by omega))
  have e42 := g_en_n (g := g) (t := t) (k := 42) hq (Or.inl (by omega))
  refine ⟨by rw [e40]; exact h1, by rw [e40]; exact h2, by rw [e41]; exact h3, by rw [e42, e41]; exact h4, fun r hr => ?_⟩
  by_cases z : r = q
  · subst z
    unfold tk1
    rw [g_en_1, g_en_2, g_en_3, g_en_4, g_en_5, e41]
    exact Or.inr ⟨t1, t2, t3, t4, by omega⟩
  · unfold tk0 tk1
    rw [g_en_n hq (Or.inr ⟨r, hr, z, Or.inl rfl⟩), g_en_n hq (Or.inr ⟨r, hr, z, Or.inr (Or.inl rfl)⟩), g_en_n hq (Or.inr ⟨r, hr, z, Or.inr (Or.inr (Or.inl rfl))⟩), g_en_n hq (Or.inr ⟨r, hr, z, Or.inr (Or.inr (Or.inr (Or.inl rfl)))⟩), g_en_n hq (Or.inr ⟨r, hr, z, Or.inr (Or.inr (Or.inr (Or.inr rfl)))⟩), e41]
    exact h5 r hr
theorem ct_gg {g' : gr} {r : Nat} (h1 : g' r = g r) (h2 : g' (8 + r) = g (8 + r)) (h3 : g' (16 + r) = g (16 + r)) (h4 : g' (24 + r) = g (24 + r)) (h5 : g' (32 + r) = g (32 + r)) (h6 : g' 41 = g 41) (h : ct M b g r) : ct M b g' r := by
  obtain ⟨e1, e2, e3, e4, e5⟩ := g_cg h1 h2 h3 (g (32 + r) + 1)
  unfold ct g_nx
  rw [h5, e1, e2, e3, e4, e5, h1, h2, h3, h4, h6]
  exact h
theorem n_27 : ∀ p, p < 13 → (27720 : Int32) / nI p = nI (27720 / p) := by decide +kernel
theorem cr_en (hc : cr M b g) (hq : q < 8) (ht : tkok t) (hB : g 41 < 2 ^ 22) : cr (wd_entM M b q (nI t.1) (nI t.2.1) (nI t.2.2)) b (g_en g q t) := by
  obtain ⟨c1, c2, c3, c4⟩ := hc
  obtain ⟨t1, t2, t3, t4⟩ := ht
  have e40 := g_en_n (g := g) (t := t) (k := 40) hq (Or.inl (by omega))
  have e41 := g_en_n (g := g) (t := t) (k := 41) hq (Or.inl (by omega))
  have e42 := g_en_n (g := g) (t := t) (k := 42) hq (Or.inl (by omega))
  have ob := wd_entM_off (M := M) (b := b) (a := b) (t := q) (e := nI t.1) (p := nI t.2.1) (ea := nI t.2.2) (by omega)
  refine ⟨by rw [ob, e40]; exact c1, by rw [ob, e41]; exact c2, by rw [ob, e42]; exact c3, fun r hr => ?_⟩
  by_cases z : r = q
  · subst z
    have p1 : ∀ j, wd_look (fm_u (fm_u (fm_u (fm_u (fm_u (fm_u M (b + 1) r (nI t.1)) (b + 2) r (nI t.2.1)) (b + 3) r (nI t.1 * (27720 / nI t.2.1))) (b + 4) r (M b 11)) (b + 5) r (nI t.2.2)) (b + 6) r 0) b r j = wd_entM M b r (nI t.1) (nI t.2.1) (nI t.2.2) j := fun j => rfl
    generalize hM : fm_u (fm_u (fm_u (fm_u (fm_u (fm_u M (b + 1) r (nI t.1)) (b + 2) r (nI t.2.1)) (b + 3) r (nI t.1 * (27720 / nI t.2.1))) (b + 4) r (M b 11)) (b + 5) r (nI t.2.2)) (b + 6) r 0 = M1 at p1
    have m1 : M1 (b + 1) r = nI t.1 := by
      rw [← hM, fm_u_off2 (by decide), fm_u_off2 (by decide), fm_u_off2 (by decide), fm_u_off2 (by decide), fm_u_off2 (by decide), fm_u_at]
    have m2 : M1 (b + 2) r = nI t.2.1 := by
      rw [← hM, fm_u_off2 (by decide), fm_u_off2 (by decide), fm_u_off2 (by decide), fm_u_off2 (by decide), fm_u_at]
    have m3 : M1 (b + 3) r = nI (t.1 * (27720 / t.2.1)) := by
      rw [← hM, fm_u_off2 (by decide), fm_u_off2 (by decide), fm_u_off2 (by decide), fm_u_at, n_27 _ (by omega), nI_mul]
    have m4 : M1 (b + 4) r = nI (g 41) := by
      rw [← hM, fm_u_off2 (by decide), fm_u_off2 (by decide), fm_u_at]; exact c2
    have m5 : M1 (b + 5) r = nI t.2.2 := by
      rw [← hM, fm_u_off2 (by decide), fm_u_at]
    have m6 : M1 (b + 6) r = 0 := by
      rw [← hM, fm_u_at]
    have o : ∀ j, j ≤ 6 → wd_entM M b r (nI t.1) (nI t.2.1) (nI t.2.2) (b + j) = M1 (b + j) := fun j hj => by rw [← p1, wd_look_off (by omega)]
    have i1 : M1 (b + 6) r + 1 = nI 1 := by rw [m6]; rfl
    unfold ct g_nx g_wt g_rel g_dl g_ov g_gp
    rw [g_en_1, g_en_2, g_en_3, g_en_4, g_en_5, e41, o 1 (by omega), o 2 (by omega), o 3 (by omega), o 4 (by omega), o 5 (by omega), o 6 (by omega), ← p1, ← p1, ← p1, ← p1, wd_look_7, wd_look_8, wd_look_9, wd_look_10, i1, m1, m2, m3, m4, m5, m6]
    refine ⟨rfl, rfl, ⟨t.1, by omega, rfl⟩, ⟨0, by omega, rfl⟩, fun _ => ⟨rfl, rfl, rfl, rfl, ?_, ?_, ?_, ?_⟩⟩
    · rw [n_rel t1 (by omega) t3 (by omega) (by omega), nI_add]
    · rw [n_dl t1 (by omega) t3 (by omega), nI_add]
    · rw [n_ov t1 (by omega) t3 (by omega)]
    · rw [wd_gof, m1, m2, m4, n_gp t1 (by omega) t3 (by omega) (by omega)]
      have h3 := p_gp_lt (e := t.1) (p := t.2.1) (i := 1) (by omega) t3 (by omega)
      by_cases h : p_gp t.1 t.2.1 1 = 0
      · rw [if_pos h, h, if_neg (fun z => z rfl)]
        rfl
      · rw [if_neg h, if_pos (nI_ne0 (by omega) (by omega)), nI_add]
  · refine ct_gg (g_en_n hq (Or.inr ⟨r, hr, z, Or.inl rfl⟩)) (g_en_n hq (Or.inr ⟨r, hr, z, Or.inr (Or.inl rfl)⟩)) (g_en_n hq (Or.inr ⟨r, hr, z, Or.inr (Or.inr (Or.inl rfl))⟩)) (g_en_n hq (Or.inr ⟨r, hr, z, Or.inr (Or.inr (Or.inr (Or.inl rfl)))⟩)) (g_en_n hq (Or.inr ⟨r, hr, z, Or.inr (Or.inr (Or.inr (Or.inr rfl)))⟩)) e41 (ct_cg (fun j hj hj2 => ?_) (c4 r hr))
    unfold wd_entM
    rw [wd_look_col z, fm_u_col z, fm_u_col z, fm_u_col z, fm_u_col z, fm_u_col z, fm_u_col z]
theorem c_lf2 (hc : cr M b g) (hg : gpk g B) : ∀ n k, k + n ≤ 8 → wd_lf M b n k = po (g_lf g n k) := by
  intro n
  induction n with
  | zero => intro k _; rfl
  | succ n ih =>
    intro k hk
    have h1 := hg.2.2.2.2 k (by omega)
    unfold tk0 tk1 at h1
    rw [wd_lf, g_lf, (hc.2.2.2 k (by omega)).1, ih (k + 1) (by omega)]
    by_cases h : 0 < g k
    · rw [if_pos h, if_pos (nI_pos1 (by omega) (by omega))]
    · rw [if_neg h, show g (8 + k) = 0 by omega, if_neg (by decide)]
      rfl
end ent
