def md_lay (f g : Nat → Int32) (c m : Nat) : Nat → Int32 := fun j => if c ≤ j ∧ j < c + m then f (j - c) else g j
theorem md_lay_s (f g : Nat → Int32) (c m : Nat) : upd (md_lay f g c m) (c + m) (f m) = md_lay f g c (m + 1) := by
  funext j
  simp only [upd, md_lay]
  by_cases h : j = c + m
  · subst h
    rw [if_pos rfl, if_pos (by omega), show c + m - c = m by omega]
  · rw [if_neg h]
    by_cases h2 : c ≤ j ∧ j < c + m
    · rw [if_pos h2, if_pos (by omega)]
    · rw [if_neg h2, if_neg (by omega)]
theorem md_lay_0 (f g : Nat → Int32) (c : Nat) : md_lay f g c 0 = g := by
  funext j
  simp only [md_lay]
  rw [if_neg (by omega)]
set_option maxRecDepth 20000 in
theorem t_mlay {p q n1 n2 : Nat} (hp : fm_sh p = .inl (0, n1)) (hq : fm_sh q = .inl (0, n2)) (hpq : ¬ p = q) (c : Nat) (h1 : 43 ≤ n1) (h2 : c + 43 ≤ n2) (hb1 : n1 < 2 ^ 31) (hb2 : n2 < 2 ^ 31) (M : Nat → Nat → Int32) (ML : Nat → Nat → Int64) (R : Nat → Nat → Option Nat) : mj_big 1 170 [.ref p, .ref q, .int (nI c)] (fm_mk (M, ML, R)) none (fm_mk (fm_row M q (md_lay (M p) (M q) c 43), ML, R)) := by
  refine mj_ofB _ _ rfl rfl rfl ?_
  have lp : ∀ (m k : Nat), k + m = 43 → mj_Rn 0 none kX11_lay (fun v g => v = none ∧ g = fm_mk (fm_row M q (md_lay (M p) (M q) c 43), ML, R)) (fm_mk (fm_row M q (md_lay (M p) (M q) c k), ML, R)) 2 [some (.ref p), some (.ref q), some (.int (nI c)), some (.int (nI k))] [] := by
    intro m
    induction m with
    | zero =>
      intro k hk
      obtain rfl : k = 43 := by omega
      refine mj_begin4 [2] 50 rfl ?_
      refine mj_if rfl rfl (fun c1 => ?_) (fun c1 => absurd (by decide) c1)
      exact mj_rtv rfl rfl ⟨rfl, rfl⟩
    | succ m ih =>
      intro k hk
      have e1 : ¬ (43 : Int32) ≤ nI k := nI_ge (b := 43) (by omega) (by omega)
      have ih := ih (k + 1) (by omega)
      rw [← nI_1, ← md_lay_s (M p) (M q) c k] at ih
      refine mj_begin4 [2] 50 rfl ?_
      refine mj_if rfl rfl (fun c1 => absurd c1 e1) (fun c1 => ?_)
      refine mj_auto4 [2] 50 rfl ?_
      refine fn_ld hp rfl (in_nI (by omega) hb1) ?_
      rw [nI_clamp (by omega), fm_row_off hpq, nI_add]
      refine fn_st hq rfl (in_nI (by omega) hb2) ?_
      rw [nI_clamp (by omega), fm_row_u]
      refine mj_auto4 [2] 50 rfl ?_
      exact ih
  refine mj_auto4 [2] 50 rfl ?_
  have q := lp 43 0 rfl
  rw [md_lay_0, fm_row_self] at q
  exact q
def md_sh (f : Nat → Int32) (m : Nat) : Nat → Int32 := fun j => if j < m then f (j + 43) else f j
theorem md_sh_s (f : Nat → Int32) (m : Nat) : upd (md_sh f m) m (md_sh f m (m + 43)) = md_sh f (m + 1) := by
  funext j
  simp only [upd, md_sh]
  by_cases h : j = m
  · subst h
    rw [if_pos rfl, if_neg (by omega), if_pos (by omega)]
  · rw [if_neg h]
    by_cases h2 : j < m
    · rw [if_pos h2, if_pos (by omega)]
    · rw [if_neg h2, if_neg (by omega)]
theorem md_sh_0 (f : Nat → Int32) : md_sh f 0 = f := by funext j; simp [md_sh]
theorem fm_row_rr {M : Nat → Nat → Int32} {a : Nat} {f g : Nat → Int32} : fm_row (fm_row M a f) a g = fm_row M a g := by
  funext c
  by_cases h : c = a
  · subst h; rw [fm_row_row, fm_row_row]
  · rw [fm_row_off h, fm_row_off h, fm_row_off h]
theorem nI_m43 (y : Nat) (h : y < 13) : (43 : Int32) * nI y = nI (43 * y) := by
  have : ∀ y, y < 13 → (43 : Int32) * nI y = nI (43 * y) := by decide +kernel
  exact this y h
/-- the list of what can be undone, z long, with g behind it -/
def md_re (f g : Nat → Int32) (z : Nat) : Nat → Int32 := if z = 12 then md_lay g (md_sh f 473) (43 * 11) 43 else md_lay g f (43 * z) 43
def md_reM (M : Nat → Nat → Int32) (r z : Nat) : Nat → Nat → Int32 := fm_row (fm_u M 219 19 (nI (min (z + 1) 12))) 225 (md_re (M 225) (M r) z)
set_option maxRecDepth 20000 in
set_option maxHeartbeats 1000000 in
theorem t_mremember {r : Nat} (hr : fm_N r) (M : Nat → Nat → Int32) (ML : Nat → Nat → Int64) (R : Nat → Nat → Option Nat) (z : Nat) (hz : z ≤ 12) (h1 : M 219 19 = nI z) : mj_big 2 171 [.ref 219, .ref r] (fm_mk (M, ML, R)) none (fm_mk (md_reM M r z, ML, R)) := by
  have hr' : fm_sh r = .inl (0, 43) := hr
  have hr3 : ¬ r = 219 := fun q => by subst q; rw [fm_s219] at hr'; cases hr'
  have hr4 : ¬ r = 225 := fun q => by subst q; rw [fm_s225] at hr'; simp at hr'
  refine mj_ofB _ _ rfl rfl rfl ?_
  have tail : ∀ (M' : Nat → Nat → Int32) (y : Nat) (u : Option Value), y ≤ 11 → M' 219 19 = nI y → mj_Rn 1 none kX11_remember (fun v g => v = none ∧ g = fm_mk (fm_u (fm_row M' 225 (md_lay (M' r) (M' 225) (43 * y) 43)) 219 19 (nI (y + 1)), ML, R)) (fm_mk (M', ML, R)) 49 [some (.ref 219), some (.ref r), u] [] := by
    intro M' y u hy hM'
    have kl := t_mlay hr' fm_s225 hr4 (43 * y) (by omega) (by omega) (by omega) (by omega) M' ML R
    refine mj_begin3 [11, 49] 50 rfl ?_
    refine fn_gR fm_s219 rfl rfl rfl ?_
    refine mj_auto3 [11, 49] 50 rfl ?_
    refine fn_gI fm_s219 rfl rfl rfl ?_
    rw [hM']
    refine mj_auto3 [11, 49] 50 rfl ?_
    rw [nI_m43 y (by omega)]
    refine mj_csB kl rfl rfl rfl rfl rfl rfl rfl ?_
    refine mj_auto3 [11, 49] 50 rfl ?_
    refine fn_gI fm_s219 rfl rfl rfl ?_
    rw [fm_row_off (show ¬ 219 = 225 by decide), hM']
    refine mj_auto3 [11, 49] 50 rfl ?_
    rw [nI_1]
    refine fn_pI fm_s219 rfl rfl rfl rfl ?_
    exact mj_rtv rfl rfl ⟨rfl, rfl⟩
  refine mj_auto3 [11, 49] 50 rfl ?_
  refine fn_gI fm_s219 rfl rfl rfl ?_
  rw [h1]
  refine mj_auto3 [11, 49] 50 rfl ?_
  have c219 : ¬ (225 : Nat) = 219 := by decide
  refine mj_if rfl rfl (fun c => ?_) (fun c => ?_)
  · have hz12 : ¬ z = 12 := fun q => c (by rw [q]; rfl)
    have q := tail M z none (by omega) h1
    rw [fm_row_c c219] at q
    rw [md_reM, md_re, if_neg hz12, Nat.min_eq_left (by omega)]
    exact q
  · have hz12 : z = 12 := (nI_eq (by omega) (by omega)).mp (Classical.not_not.mp c)
    subst hz12
    have lp : ∀ (m k : Nat), k + m = 473 → mj_Rn 1 none kX11_remember (fun v g => v = none ∧ g = fm_mk (md_reM M r 12, ML, R)) (fm_mk (fm_row M 225 (md_sh (M 225) k), ML, R)) 11 [some (.ref 219), some (.ref r), some (.int (nI k))] [] := by
      intro m
      induction m with
      | zero =>
        intro k hk
        obtain rfl : k = 473 := by omega
        refine mj_begin3 [11, 49] 50 rfl ?_
        refine mj_if rfl rfl (fun c1 => ?_) (fun c1 => absurd (by decide) c1)
        refine mj_auto3 [11, 49] 50 rfl ?_
        refine fn_gI fm_s219 rfl rfl rfl ?_
        rw [fm_row_off (show ¬ 219 = 225 by decide), h1]
        refine mj_auto3 [11, 49] 50 rfl ?_
        refine fn_pI fm_s219 rfl rfl rfl rfl ?_
        have q := tail (fm_u (fm_row M 225 (md_sh (M 225) 473)) 219 19 (nI 11)) 11 (some (.int (nI 473))) (by omega) fm_u_at
        rw [fm_u_off hr3, fm_row_off hr4, fm_u_off c219, fm_row_row, fm_row_c c219, fm_row_c c219, fm_row_c c219, fm_u_u, fm_row_rr] at q
        rw [md_reM, md_re, if_pos rfl, fm_row_c c219, show nI 12 - 1 = nI 11 by decide]
        exact q
      | succ m ih =>
        intro k hk
        have e1 : ¬ (473 : Int32) ≤ nI k := nI_ge (b := 473) (by omega) (by omega)
        have ih := ih (k + 1) (by omega)
        rw [← nI_1, ← md_sh_s (M 225) k] at ih
        refine mj_begin3 [11, 49] 50 rfl ?_
        refine mj_if rfl rfl (fun c1 => absurd c1 e1) (fun c1 => ?_)
        refine mj_auto3 [11, 49] 50 rfl ?_
        refine fn_gR fm_s219 rfl rfl rfl ?_
        refine mj_auto3 [11, 49] 50 rfl ?_
        refine fn_gR fm_s219 rfl rfl rfl ?_
        refine mj_auto3 [11, 49] 50 rfl ?_
        rw [show nI k + 43 = nI (k + 43) from nI_add k 43]
        refine fn_ld fm_s225 rfl (in_nI (by omega) (by omega)) ?_
        rw [nI_clamp (by omega), fm_row_row]
        refine fn_st fm_s225 rfl (in_nI (by omega) (by omega)) ?_
        rw [nI_clamp (by omega), fm_row_u]
        refine mj_auto3 [11, 49] 50 rfl ?_
        exact ih
    refine mj_auto3 [11, 49] 50 rfl ?_
    have q := lp 473 0 rfl
    rw [md_sh_0, fm_row_self] at q
    exact q
