theorem md_in1 {q : Int32} (h : ¬ md_in q 0 1 = 0) : ∃ k, k < 2 ∧ q = nI k := by
  unfold md_in at h
  by_cases h1 : q < 0
  · rw [if_pos h1] at h; exact absurd rfl h
  · rw [if_neg h1] at h
    by_cases h2 : 1 < q
    · rw [if_pos h2] at h; exact absurd rfl h
    · obtain ⟨j, hj, e⟩ := nI_of2 (M := 1) (n := 1) rfl h1 (Int32.not_lt.mp h2)
      exact ⟨j, by omega, e⟩
def md_kpA (i : Int32) : Int32 := if ¬ md_in i 0 1 = 0 then 1 else 0
def md_kpM (M : Nat → Nat → Int32) (i : Int32) : Nat → Nat → Int32 := if ¬ md_in i 0 1 = 0 then fm_row (fm_u (fm_u M 219 5 0) 243 i.toNatClampNeg 1) 242 (md_lay (M 220) (M 242) (43 * i.toNatClampNeg) 43) else fm_u M 219 5 0
set_option maxRecDepth 20000 in
theorem t_mkeep (M : Nat → Nat → Int32) (ML : Nat → Nat → Int64) (R : Nat → Nat → Option Nat) (i : Int32) : mj_big 2 231 [.ref 219, .int i] (fm_mk (M, ML, R)) (some (.int (md_kpA i))) (fm_mk (md_kpM M i, ML, R)) := by
  refine mj_ofB _ _ rfl rfl rfl ?_
  rw [md_kpA, md_kpM]
  refine mj_auto2 [] 50 rfl ?_
  refine fn_pI fm_s219 rfl rfl rfl rfl ?_
  refine mj_auto2 [] 50 rfl ?_
  refine mj_csB (t_min3 _ _ _ _) rfl rfl rfl rfl rfl rfl rfl ?_
  refine mj_if rfl rfl (fun c => ?_) (fun c => ?_)
  rotate_left
  · rw [if_neg c, if_neg c]
    refine mj_auto2 [] 50 rfl ?_
    exact mj_rt rfl rfl rfl ⟨rfl, rfl⟩
  rw [if_pos c, if_pos c]
  obtain ⟨k, hk, rfl⟩ := md_in1 c
  rw [nI_clamp (by omega)]
  have kl := t_mlay fm_s220 fm_s242 (by decide) (43 * k) (by omega) (by omega) (by omega) (by omega) (fm_u (fm_u M 219 5 0) 243 k 1) ML R
  rw [fm_u_off (by decide), fm_u_off (by decide), fm_u_off (by decide), fm_u_off (by decide)] at kl
  refine mj_auto2 [] 50 rfl ?_
  refine fn_gR fm_s219 rfl rfl rfl ?_
  refine mj_auto2 [] 50 rfl ?_
  refine fn_stz fm_s243 rfl (in_nI (by omega) (by omega)) ?_
  rw [nI_clamp (by omega)]
  refine mj_auto2 [] 50 rfl ?_
  refine fn_gR fm_s219 rfl rfl rfl ?_
  refine mj_auto2 [] 50 rfl ?_
  refine fn_gR fm_s219 rfl rfl rfl ?_
  refine mj_auto2 [] 50 rfl ?_
  rw [nI_m43 k (by omega)]
  refine mj_csB kl rfl rfl rfl rfl rfl rfl rfl ?_
  refine mj_auto2 [] 50 rfl ?_
  exact mj_rt rfl rfl rfl ⟨rfl, rfl⟩
def md_agA (M : Nat → Nat → Int32) (i : Int32) : Int32 := if md_in i 0 1 = 0 then 0 else if ¬ M 243 i.toNatClampNeg = 0 then 1 else 0
def md_agM (M : Nat → Nat → Int32) (i : Int32) : Nat → Nat → Int32 := if md_in i 0 1 = 0 then fm_u M 219 5 0 else if ¬ M 243 i.toNatClampNeg = 0 then fm_row (fm_u (fm_u M 219 5 0) 219 19 0) 220 (md_lay (fun j => M 242 (43 * i.toNatClampNeg + j)) (M 220) 0 43) else fm_u M 219 5 0
set_option maxRecDepth 20000 in
theorem t_magain (M : Nat → Nat → Int32) (ML : Nat → Nat → Int64) (R : Nat → Nat → Option Nat) (i : Int32) : mj_big 2 232 [.ref 219, .int i] (fm_mk (M, ML, R)) (some (.int (md_agA M i))) (fm_mk (md_agM M i, ML, R)) := by
  refine mj_ofB _ _ rfl rfl rfl ?_
  rw [md_agA, md_agM]
  refine mj_auto3 [27] 50 rfl ?_
  refine fn_pI fm_s219 rfl rfl rfl rfl ?_
  refine mj_auto3 [27] 50 rfl ?_
  refine mj_csB (t_min3 _ _ _ _) rfl rfl rfl rfl rfl rfl rfl ?_
  refine mj_if rfl rfl (fun c => ?_) (fun c => ?_)
  · rw [if_pos c, if_pos c]
    refine mj_auto3 [27] 50 rfl ?_
    exact mj_rt rfl rfl rfl ⟨rfl, rfl⟩
  rw [if_neg c, if_neg c]
  obtain ⟨k, hk, rfl⟩ := md_in1 c
  rw [nI_clamp (by omega)]
  refine mj_auto3 [27] 50 rfl ?_
  refine fn_gR fm_s219 rfl rfl rfl ?_
  refine mj_auto3 [27] 50 rfl ?_
  refine fn_ldz fm_s243 rfl (in_nI (by omega) (by omega)) ?_
  rw [nI_clamp (by omega), fm_u_off (show ¬ 243 = 219 by decide)]
  refine mj_if rfl rfl (fun c2 => ?_) (fun c2 => ?_)
  rotate_left
  · rw [if_neg c2, if_neg c2]
    refine mj_auto3 [27] 50 rfl ?_
    exact mj_rt rfl rfl rfl ⟨rfl, rfl⟩
  rw [if_pos c2, if_pos c2]
  obtain ⟨M1, hM1⟩ : ∃ x, x = fm_u M 219 5 0 := ⟨_, rfl⟩
  rw [← hM1]
  have m2 : M1 242 = M 242 := by rw [hM1, fm_u_off (by decide)]
  have m3 : M1 220 = M 220 := by rw [hM1, fm_u_off (by decide)]
  have lp : ∀ (m j : Nat), j + m = 43 → mj_Rn 1 (some .boolean) kX11_again (fun v g => v = some (.int 1) ∧ g = fm_mk (fm_row (fm_u M1 219 19 0) 220 (md_lay (fun j => M 242 (43 * k + j)) (M 220) 0 43), ML, R)) (fm_mk (fm_row M1 220 (md_lay (fun j => M 242 (43 * k + j)) (M 220) 0 j), ML, R)) 27 [some (.ref 219), some (.int (nI k)), some (.int (nI j))] [] := by
    intro m
    induction m with
    | zero =>
      intro j hj
      obtain rfl : j = 43 := by omega
      refine mj_begin3 [27] 50 rfl ?_
      refine mj_if rfl rfl (fun c1 => ?_) (fun c1 => absurd (by decide) c1)
      refine mj_auto3 [27] 50 rfl ?_
      refine fn_pI fm_s219 rfl rfl rfl rfl ?_
      rw [fm_row_c (show ¬ 220 = 219 by decide)]
      refine mj_auto3 [27] 50 rfl ?_
      exact mj_rt rfl rfl rfl ⟨rfl, rfl⟩
    | succ m ih =>
      intro j hj
      have e1 : ¬ (43 : Int32) ≤ nI j := nI_ge (b := 43) (by omega) (by omega)
      have ih := ih (j + 1) (by omega)
      rw [← nI_1, ← md_lay_s (fun j => M 242 (43 * k + j)) (M 220) 0 j, Nat.zero_add] at ih
      refine mj_begin3 [27] 50 rfl ?_
      refine mj_if rfl rfl (fun c1 => absurd c1 e1) (fun c1 => ?_)
      refine mj_auto3 [27] 50 rfl ?_
      refine fn_gR fm_s219 rfl rfl rfl ?_
      refine mj_auto3 [27] 50 rfl ?_
      refine fn_gR fm_s219 rfl rfl rfl ?_
      refine mj_auto3 [27] 50 rfl ?_
      rw [nI_m43 k (by omega), nI_add]
      refine fn_ld fm_s242 rfl (in_nI (by omega) (by omega)) ?_
      rw [nI_clamp (by omega), fm_row_off (show ¬ 242 = 220 by decide), m2]
      refine fn_st fm_s220 rfl (in_nI (by omega) (by omega)) ?_
      rw [nI_clamp (by omega), fm_row_u]
      refine mj_auto3 [27] 50 rfl ?_
      exact ih
  refine mj_auto3 [27] 50 rfl ?_
  have q := lp 43 0 rfl
  rw [md_lay_0, ← m3, fm_row_self] at q
  rw [← m3]
  exact q
/-- four signs of v from n on, the first byte first -/
def md_app (f : Nat → Int32) (n : Nat) (v : Int32) : Nat → Nat → Int32
  | 0 => f
  | k + 1 => upd (md_app f n v k) (n + k) (vp_nar .byte (v >>> (8 * nI (3 - k) &&& 31)).toInt8.toInt32)
def md_sgA (M : Nat → Nat → Int32) (n : Nat) : Int32 := if M 219 2 + 4 ≤ 80 then nI (n + 4) else -1
def md_sgM (M : Nat → Nat → Int32) (n : Nat) (v : Int32) : Nat → Nat → Int32 := if M 219 2 + 4 ≤ 80 then fm_row (fm_u (fm_u M 219 5 0) 219 2 (nI (n + 4))) 221 (md_app (M 221) n v 4) else fm_u M 219 5 0
set_option maxRecDepth 20000 in
theorem t_msign (M : Nat → Nat → Int32) (ML : Nat → Nat → Int64) (R : Nat → Nat → Option Nat) (n : Nat) (hn : n ≤ 80) (hs : M 219 2 = nI n) (v : Int32) : mj_big 1 151 [.ref 219, .int v] (fm_mk (M, ML, R)) (some (.int (md_sgA M n))) (fm_mk (md_sgM M n v, ML, R)) := by
  refine mj_ofB _ _ rfl rfl rfl ?_
  rw [md_sgA, md_sgM]
  refine mj_auto3 [20] 50 rfl ?_
  refine fn_pI fm_s219 rfl rfl rfl rfl ?_
  refine mj_auto3 [20] 50 rfl ?_
  refine fn_gI fm_s219 rfl rfl rfl ?_
  rw [fm_u_ix (show ¬ 2 = 5 by decide)]
  refine mj_auto3 [20] 50 rfl ?_
  refine mj_if rfl rfl (fun c => ?_) (fun c => ?_)
  rotate_left
  · rw [if_neg c, if_neg c]
    refine mj_auto3 [20] 50 rfl ?_
    exact mj_rt rfl rfl rfl ⟨rfl, rfl⟩
  rw [if_pos c, if_pos c]
  have hn4 : n + 4 ≤ 80 := by
    rw [hs, Int32.le_iff_toInt_le, show (4 : Int32) = nI 4 from rfl, nI_add, nI_toInt (by omega)] at c
    have : (80 : Int32).toInt = 80 := rfl
    omega
  obtain ⟨M1, hM1⟩ : ∃ x, x = fm_u M 219 5 0 := ⟨_, rfl⟩
  rw [← hM1]
  have m1 : M1 219 2 = nI n := by rw [hM1, fm_u_ix (by decide)]; exact hs
  have m2 : M1 221 = M 221 := by rw [hM1, fm_u_off (by decide)]
  have lp : ∀ (m k : Nat) (y : Int32), k + m = 4 → y = (if k < 4 then nI (3 - k) else -1) → mj_Rn 0 (some .int) kX11_sign (fun v' g => v' = some (.int (nI (n + 4))) ∧ g = fm_mk (fm_row (fm_u M1 219 2 (nI (n + 4))) 221 (md_app (M 221) n v 4), ML, R)) (fm_mk (fm_row (fm_u M1 219 2 (nI (n + k))) 221 (md_app (M 221) n v k), ML, R)) 20 [some (.ref 219), some (.int v), some (.int y)] [] := by
    intro m
    induction m with
    | zero =>
      intro k y hk hy
      obtain rfl : k = 4 := by omega
      rw [if_neg (by omega)] at hy
      subst hy
      refine mj_begin3 [20] 50 rfl ?_
      refine mj_if rfl rfl (fun c1 => ?_) (fun c1 => absurd (by decide) c1)
      refine mj_auto3 [20] 50 rfl ?_
      refine fn_gI fm_s219 rfl rfl rfl ?_
      rw [fm_row_off (show ¬ 219 = 221 by decide), fm_u_at]
      exact mj_rt rfl rfl rfl ⟨rfl, rfl⟩
    | succ m ih =>
      intro k y hk hy
      rw [if_pos (by omega)] at hy
      subst hy
      have hk4 : k < 4 := by omega
      have e0 : ∀ k, k < 4 → ¬ nI (3 - k) < 0 ∧ nI (3 - k) + -1 = (if k + 1 < 4 then nI (3 - (k + 1)) else -1) := by decide +kernel
      have ih := ih (k + 1) (nI (3 - k) + -1) (by omega) (e0 k hk4).2
      refine mj_begin3 [20] 50 rfl ?_
      refine mj_if rfl rfl (fun c1 => absurd c1 (e0 k hk4).1) (fun c1 => ?_)
      refine mj_auto3 [20] 50 rfl ?_
      refine fn_gR fm_s219 rfl rfl rfl ?_
      refine mj_auto3 [20] 50 rfl ?_
      refine fn_gI fm_s219 rfl rfl rfl ?_
      rw [fm_row_off (show ¬ 219 = 221 by decide), fm_u_at]
      refine mj_auto3 [20] 50 rfl ?_
      rw [nI_1]
      refine fn_pI fm_s219 rfl rfl rfl rfl ?_
      rw [fm_row_c (show ¬ 221 = 219 by decide), fm_u_u]
      refine mj_auto3 [20] 50 rfl ?_
      refine fn_stb fm_s221 rfl (in_nI (by omega) (by omega)) ?_
      rw [nI_clamp (by omega), fm_row_u]
      refine mj_auto3 [20] 50 rfl ?_
      exact ih
  refine mj_auto3 [20] 50 rfl ?_
  have q := lp 4 0 3 rfl rfl
  rw [md_app, ← m2, show nI (n + 0) = nI n from rfl, fm_u_self m1, fm_row_self] at q
  rw [← m2]
  exact q
