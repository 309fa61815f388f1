theorem jd_min_nn {a b : Nat} (ha : a < 2 ^ 31) (hb : b < 2 ^ 31) : jd_min (nI a) (nI b) = nI (min a b) := by
  unfold jd_min
  by_cases h : b < a
  · rw [if_pos ((nI_ltI hb ha).mpr h), Nat.min_eq_right (by omega)]
  · rw [if_neg (fun q => h ((nI_ltI hb ha).mp q)), Nat.min_eq_left (by omega)]
def md_bits (ln : Nat → Int32) : Nat → Int32
  | 0 => 0
  | k + 1 => md_bits ln k ||| 1 <<< (ln k &&& 31)
def md_d2 (a : Nat → Int32) (w : Int32) : Nat → Nat → Int32
  | 0 => a
  | k + 1 => if md_has w (nI k) = 0 then md_d2 a w k else upd (md_d2 a w k) (32 + k) (md_d2 a w k (32 + k) + 1)
def md_ms (a : Nat → Int32) : Nat → Int32
  | 0 => 0
  | k + 1 => if md_th a k = 0 then md_ms a k else if ¬ md_dl a k (a (32 + k) + 1) = a 41 + 1 then md_ms a k else md_ms a k ||| 1 <<< (nI k &&& 31)
/-- the row behind a SLOT in which w are run -/
def md_gs (a : Nat → Int32) (w : Int32) : Nat → Int32 := upd (upd (md_d2 a w 8) 42 (md_d2 a w 8 42 + jd_bc (md_ms (md_d2 a w 8) 8))) 41 (md_d2 a w 8 41 + 1)
def md_w (a : Nat → Int32) (ln : Nat → Int32) (n P : Nat) : Int32 := md_bits ln (min n P)
def md_gsM (M : Nat → Nat → Int32) (r : Nat) (w : Int32) (n : Nat) (ln : Nat → Int32) : Nat → Nat → Int32 := fm_row (fm_u (fm_u (fm_row M 223 ln) 219 22 (nI n)) 219 23 (md_ms (md_d2 (M r) w 8) 8)) r (md_gs (M r) w)
theorem fm_row_c {M : Nat → Nat → Int32} {a b i : Nat} {f : Nat → Int32} {x : Int32} (h : ¬ a = b) : fm_u (fm_row M a f) b i x = fm_row (fm_u M b i x) a f := by
  funext c
  by_cases h1 : c = a
  · subst h1
    rw [fm_u_off h, fm_row_row, fm_row_row]
  · rw [fm_row_off h1]
    by_cases h2 : c = b
    · subst h2
      rw [fm_u_row, fm_u_row, fm_row_off h1]
    · rw [fm_u_off h2, fm_u_off h2, fm_row_off h1]
theorem in40 : vp_in (40 : Int32) 43 := in43 (k := 40) (by decide)
theorem in42 : vp_in (42 : Int32) 43 := in43 (k := 42) (by decide)
set_option maxRecDepth 20000 in
set_option maxHeartbeats 1000000 in
theorem t_mgoSlot {r : Nat} (hr : fm_N r) (hr2 : ¬ r = 223) (M : Nat → Nat → Int32) (ML : Nat → Nat → Int64) (R : Nat → Nat → Option Nat) (tt N P : Nat) (ht : md_ti (M, ML, R) tt N) (hP : P < 2 ^ 31) (hp : M r 40 = nI P) (hg : ∀ k, k < 8 → ¬ M r k = 0 → md_gok (M r) k (nx (M r) k)) (kept : Int32) (res : Nat × (Nat → Int32)) (hres : md_lo (M r) (M tt) N kept 9 0 0 (M 223) = some res) (hn8 : res.1 ≤ 8) :
    mj_big 7 172 [.ref 219, .ref r, .int kept] (fm_mk (M, ML, R)) (some (.int (md_w (M r) res.2 res.1 P))) (fm_mk (md_gsM M r (md_w (M r) res.2 res.1 P) res.1 res.2, ML, R)) := by
  have hr3 : ¬ r = 219 := fun q => by subst q; have z : fm_sh 219 = .inl (0, 43) := hr; rw [fm_s219] at z; cases z
  have hr' : fm_sh r = .inl (0, 43) := hr
  have k0 := t_mlayOrder hr hr2 M ML R tt N ht hg kept res hres
  obtain ⟨n, ln⟩ := res
  dsimp only at k0 hn8 ⊢
  refine mj_ofB _ _ rfl rfl rfl ?_
  refine mj_auto5 [15, 57, 93] 50 rfl ?_
  refine mj_cvB k0 (fm_o fm_s219) rfl rfl rfl rfl rfl ⟨rfl, rfl⟩ rfl ?_
  refine fn_pI fm_s219 rfl rfl rfl rfl ?_
  refine mj_auto5 [15, 57, 93] 50 rfl ?_
  obtain ⟨w, hw⟩ : ∃ x, x = md_w (M r) ln n P := ⟨_, rfl⟩
  rw [← hw]
  obtain ⟨F, hF⟩ : ∃ x, x = md_gsM M r w n ln := ⟨_, rfl⟩
  rw [← hF]
  obtain ⟨M1, hM1⟩ : ∃ x, x = fm_u (fm_row M 223 ln) 219 22 (nI n) := ⟨_, rfl⟩
  rw [← hM1]
  have m1r : M1 r = M r := by rw [hM1, fm_u_off hr3, fm_row_off hr2]
  have m1n : M1 219 22 = nI n := by rw [hM1, fm_u_at]
  have m1l : M1 223 = ln := by rw [hM1, fm_u_off (by decide), fm_row_row]
  obtain ⟨a2, ha2⟩ : ∃ x, x = md_d2 (M r) w 8 := ⟨_, rfl⟩
  obtain ⟨M3, hM3⟩ : ∃ x, x = fm_row (fm_u M1 219 23 0) r a2 := ⟨_, rfl⟩
  have m3r : ∀ x, fm_u M3 219 23 x r = a2 := fun x => by rw [fm_u_off hr3, hM3, fm_row_row]
  have kth := fun x k hk => t_mthere hr (fm_u M3 219 23 x, ML, R) k hk
  have kdl := fun x k hk => t_mdl hr (fm_u M3 219 23 x, ML, R) k hk
  simp only [m3r] at kth kdl
  -- the third loop
  have lp3 : ∀ (m k : Nat), k + m = 8 → mj_Rn 6 (some .int) kX11_goSlot (fun v g => v = some (.int w) ∧ g = fm_mk (F, ML, R)) (fm_mk (fm_u M3 219 23 (md_ms a2 k), ML, R)) 93 [some (.ref 219), some (.ref r), some (.int kept), some (.int w), some (.int (nI k))] [] := by
    intro m
    induction m with
    | zero =>
      intro k hk
      obtain rfl : k = 8 := by omega
      refine mj_begin5 [15, 57, 93] 50 rfl ?_
      refine mj_if rfl rfl (fun c1 => ?_) (fun c1 => absurd (by decide) c1)
      refine mj_auto5 [15, 57, 93] 50 rfl ?_
      refine fn_ld hr' rfl in42 ?_
      refine mj_auto5 [15, 57, 93] 50 rfl ?_
      refine fn_gI fm_s219 rfl rfl rfl ?_
      rw [fm_u_at]
      refine mj_csB (t_bitCount _ _) rfl rfl rfl rfl rfl rfl rfl ?_
      refine mj_auto5 [15, 57, 93] 50 rfl ?_
      refine fn_st hr' rfl in42 ?_
      refine mj_auto5 [15, 57, 93] 50 rfl ?_
      refine fn_ld hr' rfl in41 ?_
      refine mj_auto5 [15, 57, 93] 50 rfl ?_
      refine fn_st hr' rfl in41 ?_
      refine mj_auto5 [15, 57, 93] 50 rfl ?_
      refine mj_rt rfl rfl rfl ⟨rfl, ?_⟩
      refine congrArg (fun z => fm_mk (z, ML, R)) ?_
      show fm_u (fm_u (fm_u M3 219 23 (md_ms a2 8)) r 42 (fm_u M3 219 23 (md_ms a2 8) r 42 + jd_bc (md_ms a2 8))) r 41 (fm_u (fm_u M3 219 23 (md_ms a2 8)) r 42 (fm_u M3 219 23 (md_ms a2 8) r 42 + jd_bc (md_ms a2 8)) r 41 + 1) = F
      rw [fm_u_ix (show ¬ 41 = 42 by decide), m3r, hF, md_gsM, md_gs, ← ha2, ← hM1, hM3, fm_row_c hr3, fm_u_u, fm_row_u, fm_row_u]
    | succ m ih =>
      intro k hk
      have hk8 : k < 8 := by omega
      have e1 := nI8_lt k hk8
      have ih := ih (k + 1) (by omega)
      rw [← nI_1, md_ms] at ih
      refine mj_begin5 [15, 57, 93] 50 rfl ?_
      refine mj_if rfl rfl (fun c1 => absurd c1 e1) (fun c1 => ?_)
      refine mj_auto5 [15, 57, 93] 50 rfl ?_
      refine mj_csB (kth _ k hk8) rfl rfl rfl rfl rfl rfl rfl ?_
      refine mj_if rfl rfl (fun c2 => ?_) (fun c2 => ?_)
      · rw [if_pos c2] at ih
        refine mj_auto5 [15, 57, 93] 50 rfl ?_
        exact ih
      rw [if_neg c2] at ih
      refine mj_auto5 [15, 57, 93] 50 rfl ?_
      refine fn_ld hr' rfl (i32x hk8) ?_
      rw [v32 hk8, m3r]
      refine mj_auto5 [15, 57, 93] 50 rfl ?_
      refine mj_csB (kdl _ k hk8 (md_th_ne c2) _) rfl rfl rfl rfl rfl rfl rfl ?_
      refine mj_auto5 [15, 57, 93] 50 rfl ?_
      refine fn_ld hr' rfl in41 ?_
      rw [tn41, m3r]
      refine mj_auto5 [15, 57, 93] 50 rfl ?_
      refine mj_if rfl rfl (fun c3 => ?_) (fun c3 => ?_)
      · rw [if_pos c3] at ih
        refine mj_auto5 [15, 57, 93] 50 rfl ?_
        exact ih
      · rw [if_neg c3] at ih
        refine mj_auto5 [15, 57, 93] 50 rfl ?_
        refine fn_gI fm_s219 rfl rfl rfl ?_
        rw [fm_u_at]
        refine mj_auto5 [15, 57, 93] 50 rfl ?_
        refine fn_pI fm_s219 rfl rfl rfl rfl ?_
        rw [fm_u_u]
        refine mj_auto5 [15, 57, 93] 50 rfl ?_
        exact ih
  -- the second
  have lp2 : ∀ (m k : Nat), k + m = 8 → mj_Rn 6 (some .int) kX11_goSlot (fun v g => v = some (.int w) ∧ g = fm_mk (F, ML, R)) (fm_mk (fm_row (fm_u M1 219 23 0) r (md_d2 (M r) w k), ML, R)) 57 [some (.ref 219), some (.ref r), some (.int kept), some (.int w), some (.int (nI k))] [] := by
    intro m
    induction m with
    | zero =>
      intro k hk
      obtain rfl : k = 8 := by omega
      rw [← ha2, ← hM3]
      refine mj_begin5 [15, 57, 93] 50 rfl ?_
      refine mj_if rfl rfl (fun c1 => ?_) (fun c1 => absurd (by decide) c1)
      refine mj_auto5 [15, 57, 93] 50 rfl ?_
      have q := lp3 8 0 rfl
      rw [md_ms, fm_u_self (by rw [hM3, fm_row_off (fun z => hr3 z.symm), fm_u_at])] at q
      exact q
    | succ m ih =>
      intro k hk
      have hk8 : k < 8 := by omega
      have e1 := nI8_lt k hk8
      have ih := ih (k + 1) (by omega)
      rw [← nI_1, md_d2] at ih
      refine mj_begin5 [15, 57, 93] 50 rfl ?_
      refine mj_if rfl rfl (fun c1 => absurd c1 e1) (fun c1 => ?_)
      refine mj_auto5 [15, 57, 93] 50 rfl ?_
      refine mj_csB (t_mhas _ _ _) rfl rfl rfl rfl rfl rfl rfl ?_
      refine mj_if rfl rfl (fun c2 => ?_) (fun c2 => ?_)
      · rw [if_pos c2] at ih
        refine mj_auto5 [15, 57, 93] 50 rfl ?_
        exact ih
      · rw [if_neg c2] at ih
        refine mj_auto5 [15, 57, 93] 50 rfl ?_
        refine fn_ld hr' rfl (i32x hk8) ?_
        refine mj_auto5 [15, 57, 93] 50 rfl ?_
        refine fn_st hr' rfl (i32x hk8) ?_
        rw [v32 hk8, fm_row_row, fm_row_u]
        refine mj_auto5 [15, 57, 93] 50 rfl ?_
        exact ih
  -- the first
  have lp1 : ∀ (m k : Nat), k + m = min n P → mj_Rn 6 (some .int) kX11_goSlot (fun v g => v = some (.int w) ∧ g = fm_mk (F, ML, R)) (fm_mk (M1, ML, R)) 15 [some (.ref 219), some (.ref r), some (.int kept), some (.int (md_bits ln k)), some (.int (nI k))] [] := by
    intro m
    induction m with
    | zero =>
      intro k hk
      obtain rfl : k = min n P := by omega
      refine mj_begin5 [15, 57, 93] 50 rfl ?_
      refine fn_gI fm_s219 rfl rfl rfl ?_
      refine mj_auto5 [15, 57, 93] 50 rfl ?_
      refine fn_ld hr' rfl in40 ?_
      rw [show (40 : Int32).toNatClampNeg = 40 from rfl, m1n, m1r, hp]
      refine mj_csB (t_min _ _ _) rfl rfl rfl rfl rfl rfl rfl ?_
      rw [jd_min_nn (by omega) hP]
      refine mj_if rfl rfl (fun c1 => ?_) (fun c1 => absurd (nI_le (Nat.le_refl _) (by omega)) c1)
      refine mj_auto5 [15, 57, 93] 50 rfl ?_
      refine fn_pI fm_s219 rfl rfl rfl rfl ?_
      refine mj_auto5 [15, 57, 93] 50 rfl ?_
      have q := lp2 8 0 rfl
      rw [md_d2, ← m1r, show M1 r = fm_u M1 219 23 0 r from (fm_u_off hr3).symm, fm_row_self] at q
      rw [hw, md_w] at q ⊢
      exact q
    | succ m ih =>
      intro k hk
      have e1 : ¬ nI (min n P) ≤ nI k := nI_ge (by omega) (by omega)
      have ih := ih (k + 1) (by omega)
      rw [← nI_1, md_bits] at ih
      refine mj_begin5 [15, 57, 93] 50 rfl ?_
      refine fn_gI fm_s219 rfl rfl rfl ?_
      refine mj_auto5 [15, 57, 93] 50 rfl ?_
      refine fn_ld hr' rfl in40 ?_
      rw [show (40 : Int32).toNatClampNeg = 40 from rfl, m1n, m1r, hp]
      refine mj_csB (t_min _ _ _) rfl rfl rfl rfl rfl rfl rfl ?_
      rw [jd_min_nn (by omega) hP]
      refine mj_if rfl rfl (fun c1 => absurd c1 e1) (fun c1 => ?_)
      refine mj_auto5 [15, 57, 93] 50 rfl ?_
      refine fn_gR fm_s219 rfl rfl rfl ?_
      refine mj_auto5 [15, 57, 93] 50 rfl ?_
      refine fn_ld fm_s223 rfl (in_nI (by omega) (by omega)) ?_
      rw [nI_clamp (by omega), m1l]
      refine mj_auto5 [15, 57, 93] 50 rfl ?_
      exact ih
  exact lp1 (min n P) 0 (by omega)
