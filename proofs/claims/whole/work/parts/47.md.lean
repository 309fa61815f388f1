def md_dof (a : Nat → Int32) : Nat → Int32
  | 0 => 0
  | k + 1 => md_dof a k + a (32 + k)
set_option maxRecDepth 20000 in
theorem t_mdoneOf {p : Nat} (hp : fm_N p) (S : fm_S) : mj_big 1 229 [.ref p] (fm_mk S) (some (.int (md_dof (S.1 p) 8))) (fm_mk S) := by
  have hp' : fm_sh p = .inl (0, 43) := hp
  refine mj_ofB _ _ rfl rfl rfl ?_
  obtain ⟨res, hres⟩ : ∃ x, x = md_dof (S.1 p) 8 := ⟨_, rfl⟩
  rw [← hres]
  have lp : ∀ (m k : Nat), k + m = 8 → mj_Rn 0 (some .int) kX11_doneOf (fun v g => v = some (.int res) ∧ g = fm_mk S) (fm_mk S) 4 [some (.ref p), some (.int (md_dof (S.1 p) k)), some (.int (nI k))] [] := by
    intro m
    induction m with
    | zero =>
      intro k hk
      obtain rfl : k = 8 := by omega
      refine mj_begin3 [4] 50 rfl ?_
      refine mj_if rfl rfl (fun c1 => ?_) (fun c1 => absurd (by decide) c1)
      refine mj_auto3 [4] 50 rfl ?_
      exact mj_rt rfl rfl rfl ⟨by rw [hres], rfl⟩
    | succ m ih =>
      intro k hk
      have hk8 : k < 8 := by omega
      have e1 := nI8_lt k hk8
      have ih := ih (k + 1) (by omega)
      rw [← nI_1, md_dof] at ih
      refine mj_begin3 [4] 50 rfl ?_
      refine mj_if rfl rfl (fun c1 => absurd c1 e1) (fun c1 => ?_)
      refine mj_auto3 [4] 50 rfl ?_
      refine fm_ld hp' rfl (i32x hk8) ?_
      rw [v32 hk8]
      refine mj_auto3 [4] 50 rfl ?_
      exact ih
  refine mj_auto3 [4] 50 rfl ?_
  exact lp 8 0 rfl
set_option maxRecDepth 20000 in
theorem t_mdraw (M : Nat → Nat → Int32) (ML : Nat → Nat → Int64) (R : Nat → Nat → Option Nat) (n : Int32) (hn : ¬ n = 0) : mj_big 1 228 [.ref 219, .int n] (fm_mk (M, ML, R)) (some (.int (i_rem (mj_ushr (M 219 43 * 1103515245 + 12345) 16) n))) (fm_mk (fm_u M 219 43 (M 219 43 * 1103515245 + 12345), ML, R)) := by
  refine mj_ofB _ _ rfl rfl rfl ?_
  repeat' first
    | refine mj_auto2 [] 80 rfl ?_
    | refine mj_if rfl rfl (fun c1 => ?_) (fun c1 => ?_)
    | refine fn_gR (by first | with_reducible assumption | with_reducible exact fm_s219) rfl rfl rfl ?_
    | refine fn_gI (by first | with_reducible assumption | with_reducible exact fm_s219) rfl rfl rfl ?_
    | refine fn_ld (by first | with_reducible assumption | with_reducible exact fm_s219) rfl (by with_reducible assumption) ?_
    | refine fn_st (by first | with_reducible assumption | with_reducible exact fm_s219) rfl (by with_reducible assumption) ?_
    | refine fn_pI (by first | with_reducible assumption | with_reducible exact fm_s219) rfl rfl rfl rfl ?_
    | refine mj_div rfl rfl (by assumption) ?_
    | refine mj_rt rfl rfl rfl ⟨?_, by with_reducible rfl⟩
    | refine mj_rt rfl rfl rfl ⟨?_, ?_⟩
    | refine mj_rtl rfl rfl ⟨?_, by with_reducible rfl⟩
    | refine mj_rtl rfl rfl ⟨?_, ?_⟩
    | refine mj_rtv rfl rfl ⟨rfl, by with_reducible rfl⟩
    | refine mj_rtv rfl rfl ⟨rfl, ?_⟩
  rw [fm_u_at, i_rem]
def md_low (w : Int32) : Int32 := if 2 ≤ w then 0 else 1
def md_high (w : Int32) : Int32 := if 2 ≤ w then (if 4 ≤ w then 20 else 1) else 12
set_option maxRecDepth 20000 in
theorem t_mlow (h : mj_H) (w : Int32) : mj_big 1 207 [.int w] h (some (.int (md_low w))) h := by
  refine mj_ofB _ _ rfl rfl rfl ?_
  repeat' first
    | refine mj_auto1 [] 80 rfl ?_
    | refine mj_if rfl rfl (fun c1 => ?_) (fun c1 => ?_)
    | refine mj_rt rfl rfl rfl ⟨?_, by with_reducible rfl⟩
    | refine mj_rt rfl rfl rfl ⟨?_, ?_⟩
    | refine mj_rtl rfl rfl ⟨?_, by with_reducible rfl⟩
    | refine mj_rtl rfl rfl ⟨?_, ?_⟩
    | refine mj_rtv rfl rfl ⟨rfl, by with_reducible rfl⟩
    | refine mj_rtv rfl rfl ⟨rfl, ?_⟩
  all_goals simp [md_low, *]
set_option maxRecDepth 20000 in
theorem t_mhigh (h : mj_H) (w : Int32) : mj_big 1 208 [.int w] h (some (.int (md_high w))) h := by
  refine mj_ofB _ _ rfl rfl rfl ?_
  repeat' first
    | refine mj_auto1 [] 80 rfl ?_
    | refine mj_if rfl rfl (fun c1 => ?_) (fun c1 => ?_)
    | refine mj_rt rfl rfl rfl ⟨?_, by with_reducible rfl⟩
    | refine mj_rt rfl rfl rfl ⟨?_, ?_⟩
    | refine mj_rtl rfl rfl ⟨?_, by with_reducible rfl⟩
    | refine mj_rtl rfl rfl ⟨?_, ?_⟩
    | refine mj_rtv rfl rfl ⟨rfl, by with_reducible rfl⟩
    | refine mj_rtv rfl rfl ⟨rfl, ?_⟩
  all_goals simp [md_high, *]
def md_swA (M : Nat → Nat → Int32) (i r : Int32) : Int32 := if md_in i 1 12 = 0 then -1 else if md_in r 0 150 = 0 then -1 else if ¬ M 219 39 = 10 then M 219 39 + 1 else -1
def md_swM (M : Nat → Nat → Int32) (i r : Int32) (n : Nat) : Nat → Nat → Int32 := if md_in i 1 12 = 0 then fm_u M 219 5 0 else if md_in r 0 150 = 0 then fm_u M 219 5 0 else if ¬ M 219 39 = 10 then fm_u (fm_u (fm_u (fm_u M 219 5 0) 238 n i) 239 n r) 219 39 (M 219 39 + 1) else fm_u M 219 5 0
set_option maxRecDepth 20000 in
theorem t_msaw (M : Nat → Nat → Int32) (ML : Nat → Nat → Int64) (R : Nat → Nat → Option Nat) (n : Nat) (hn : n ≤ 10) (hs : M 219 39 = nI n) (i r : Int32) : mj_big 2 215 [.ref 219, .int i, .int r] (fm_mk (M, ML, R)) (some (.int (md_swA M i r))) (fm_mk (md_swM M i r n, ML, R)) := by
  refine mj_ofB _ _ rfl rfl rfl ?_
  rw [md_swA, md_swM]
  refine mj_auto3 [] 50 rfl ?_
  refine fn_pI fm_s219 rfl rfl rfl rfl ?_
  refine mj_auto3 [] 50 rfl ?_
  refine mj_csB (t_min3 _ _ _ _) rfl rfl rfl rfl rfl rfl rfl ?_
  refine mj_if rfl rfl (fun c => ?_) (fun c => ?_)
  · rw [if_pos c, if_pos c]
    refine mj_auto3 [] 50 rfl ?_
    exact mj_rt rfl rfl rfl ⟨rfl, rfl⟩
  rw [if_neg c, if_neg c]
  refine mj_auto3 [] 50 rfl ?_
  refine mj_csB (t_min3 _ _ _ _) rfl rfl rfl rfl rfl rfl rfl ?_
  refine mj_if rfl rfl (fun c2 => ?_) (fun c2 => ?_)
  · rw [if_pos c2, if_pos c2]
    refine mj_auto3 [] 50 rfl ?_
    exact mj_rt rfl rfl rfl ⟨rfl, rfl⟩
  rw [if_neg c2, if_neg c2]
  refine mj_auto3 [] 50 rfl ?_
  refine fn_gI fm_s219 rfl rfl rfl ?_
  rw [fm_u_ix (show ¬ 39 = 5 by decide)]
  refine mj_auto3 [] 50 rfl ?_
  refine mj_if rfl rfl (fun c3 => ?_) (fun c3 => ?_)
  rotate_left
  · rw [if_neg c3, if_neg c3]
    refine mj_auto3 [] 50 rfl ?_
    exact mj_rt rfl rfl rfl ⟨rfl, rfl⟩
  rw [if_pos c3, if_pos c3]
  have hn10 : n < 10 := by
    rcases Nat.lt_or_ge n 10 with q | q
    · exact q
    · exact absurd (by rw [hs, show n = 10 by omega]; rfl) c3
  refine mj_auto3 [] 50 rfl ?_
  refine fn_gR fm_s219 rfl rfl rfl ?_
  refine mj_auto3 [] 50 rfl ?_
  refine fn_gI fm_s219 rfl rfl rfl ?_
  rw [fm_u_ix (show ¬ 39 = 5 by decide), hs]
  refine mj_auto3 [] 50 rfl ?_
  refine fn_st fm_s238 rfl (in_nI hn10 (by omega)) ?_
  refine mj_auto3 [] 50 rfl ?_
  refine fn_gR fm_s219 rfl rfl rfl ?_
  refine mj_auto3 [] 50 rfl ?_
  refine fn_gI fm_s219 rfl rfl rfl ?_
  rw [nI_clamp (by omega), fm_u_off (show ¬ 219 = 238 by decide), fm_u_ix (show ¬ 39 = 5 by decide), hs]
  refine mj_auto3 [] 50 rfl ?_
  refine fn_st fm_s239 rfl (in_nI hn10 (by omega)) ?_
  rw [nI_clamp (by omega)]
  refine mj_auto3 [] 50 rfl ?_
  refine fn_gI fm_s219 rfl rfl rfl ?_
  rw [fm_u_off (show ¬ 219 = 239 by decide), fm_u_off (show ¬ 219 = 238 by decide), fm_u_ix (show ¬ 39 = 5 by decide), hs]
  refine mj_auto3 [] 50 rfl ?_
  refine fn_pI fm_s219 rfl rfl rfl rfl ?_
  refine mj_auto3 [] 50 rfl ?_
  refine fn_gI fm_s219 rfl rfl rfl ?_
  rw [fm_u_at]
  exact mj_rt rfl rfl rfl ⟨rfl, rfl⟩
def md_iw (M : Nat → Nat → Int32) (e p : Int32) : Nat → Nat → Int32
  | 0, _ => 1
  | n + 1, k => if (M 238 k - 1) * p / e = M 239 k then md_iw M e p n (k + 1) else 0
set_option maxRecDepth 20000 in
theorem t_misWeight (S : fm_S) (N : Nat) (hn : N ≤ 10) (hs : S.1 219 39 = nI N) (e p : Int32) (he : ¬ e = 0) : mj_big 1 217 [.ref 219, .int e, .int p] (fm_mk S) (some (.int (md_iw S.1 e p N 0))) (fm_mk S) := by
  refine mj_ofB _ _ rfl rfl rfl ?_
  have lp : ∀ (n k : Nat), k + n = N → mj_Rn 0 (some .boolean) kX11_isWeight (fun v g => v = some (.int (md_iw S.1 e p n k)) ∧ g = fm_mk S) (fm_mk S) 2 [some (.ref 219), some (.int e), some (.int p), some (.int (nI k))] [] := by
    intro n
    induction n with
    | zero =>
      intro k hk
      obtain rfl : k = N := by omega
      refine mj_begin4 [2] 50 rfl ?_
      refine fm_gI fm_s219 rfl rfl rfl ?_
      rw [hs]
      refine mj_if rfl rfl (fun c2 => ?_) (fun c2 => absurd (nI_le (Nat.le_refl k) (by omega)) c2)
      refine mj_auto4 [2] 50 rfl ?_
      exact mj_rt rfl rfl rfl ⟨rfl, rfl⟩
    | succ n ih =>
      intro k hk
      have e1 : ¬ nI N ≤ nI k := nI_ge (by omega) (by omega)
      have e2 : vp_in (nI k) 10 := in_nI (by omega) (by omega)
      have e3 : (nI k).toNatClampNeg = k := nI_clamp (by omega)
      have ih := ih (k + 1) (by omega)
      rw [← nI_1] at ih
      refine mj_begin4 [2] 50 rfl ?_
      refine fm_gI fm_s219 rfl rfl rfl ?_
      rw [hs]
      refine mj_if rfl rfl (fun c2 => absurd c2 e1) (fun c2 => ?_)
      refine mj_auto4 [2] 50 rfl ?_
      refine fm_gR fm_s219 rfl rfl rfl ?_
      refine mj_auto4 [2] 50 rfl ?_
      refine fm_ld fm_s238 rfl e2 ?_
      rw [e3]
      refine mj_auto4 [2] 50 rfl ?_
      refine mj_div rfl rfl he ?_
      refine mj_auto4 [2] 50 rfl ?_
      refine fm_gR fm_s219 rfl rfl rfl ?_
      refine mj_auto4 [2] 50 rfl ?_
      refine fm_ld fm_s239 rfl e2 ?_
      rw [e3]
      refine mj_if rfl rfl (fun c3 => ?_) (fun c3 => ?_)
      · rw [md_iw, if_pos c3]
        refine mj_auto4 [2] 50 rfl ?_
        exact ih
      · rw [md_iw, if_neg c3]
        refine mj_auto4 [2] 50 rfl ?_
        exact mj_rt rfl rfl rfl ⟨rfl, rfl⟩
  refine mj_auto4 [2] 50 rfl ?_
  exact lp N 0 (by omega)
def md_gets (x y v : Int32) : Int32 := if v < x + y then 3 * v * x / (x + y) - y else 3 * x
set_option maxRecDepth 20000 in
theorem t_mgets (h : mj_H) (x y v : Int32) (hne : v < x + y → ¬ x + y = 0) : mj_big 1 223 [.int x, .int y, .int v] h (some (.int (md_gets x y v))) h := by
  refine mj_ofB _ _ rfl rfl rfl ?_
  rw [md_gets]
  refine mj_auto3 [] 50 rfl ?_
  refine mj_if rfl rfl (fun c => ?_) (fun c => ?_)
  · rw [if_pos c]
    refine mj_auto3 [] 50 rfl ?_
    refine mj_div rfl rfl (hne c) ?_
    refine mj_auto3 [] 50 rfl ?_
    exact mj_rt rfl rfl rfl ⟨rfl, rfl⟩
  · rw [if_neg c]
    refine mj_auto3 [] 50 rfl ?_
    exact mj_rt rfl rfl rfl ⟨rfl, rfl⟩
def md_best (x y v : Int32) : Nat → Nat → Int32
  | 0, _ => 1
  | n + 1, k => if md_gets (nI k) y v ≤ md_gets x y v then md_best x y v n (k + 1) else 0
set_option maxRecDepth 20000 in
theorem t_mbest (h : mj_H) (x y v : Int32) (hx : v < x + y → ¬ x + y = 0) (hz : ∀ k, k < 10 → v < nI k + y → ¬ nI k + y = 0) : mj_big 2 224 [.int x, .int y, .int v] h (some (.int (md_best x y v 10 0))) h := by
  refine mj_ofB _ _ rfl rfl rfl ?_
  have lp : ∀ (n k : Nat), k + n = 10 → mj_Rn 1 (some .boolean) kX11_isBest (fun v' g => v' = some (.int (md_best x y v n k)) ∧ g = h) h 2 [some (.int x), some (.int y), some (.int v), some (.int (nI k))] [] := by
    intro n
    induction n with
    | zero =>
      intro k hk
      obtain rfl : k = 10 := by omega
      refine mj_begin4 [2] 50 rfl ?_
      refine mj_if rfl rfl (fun c2 => ?_) (fun c2 => absurd (by decide) c2)
      refine mj_auto4 [2] 50 rfl ?_
      exact mj_rt rfl rfl rfl ⟨rfl, rfl⟩
    | succ n ih =>
      intro k hk
      have e1 : ¬ (9 : Int32) < nI k := nI_nlt (a := 9) (by omega) (by omega)
      have ih := ih (k + 1) (by omega)
      rw [← nI_1] at ih
      refine mj_begin4 [2] 50 rfl ?_
      refine mj_if rfl rfl (fun c2 => absurd c2 e1) (fun c2 => ?_)
      refine mj_auto4 [2] 50 rfl ?_
      refine mj_csB (t_mgets _ _ _ _ (hz k (by omega))) rfl rfl rfl rfl rfl rfl rfl ?_
      refine mj_auto4 [2] 50 rfl ?_
      refine mj_csB (t_mgets _ _ _ _ hx) rfl rfl rfl rfl rfl rfl rfl ?_
      refine mj_if rfl rfl (fun c3 => ?_) (fun c3 => ?_)
      · rw [md_best, if_pos c3]
        refine mj_auto4 [2] 50 rfl ?_
        exact ih
      · rw [md_best, if_neg c3]
        refine mj_auto4 [2] 50 rfl ?_
        exact mj_rt rfl rfl rfl ⟨rfl, rfl⟩
  refine mj_auto4 [2] 50 rfl ?_
  exact lp 10 0 rfl
