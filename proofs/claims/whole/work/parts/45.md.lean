def md_lag (a : Nat → Int32) (k : Nat) : Int32 := (a 41 - a (16 + k)) * a k - a (32 + k) * a (8 + k)
set_option maxRecDepth 20000 in
theorem t_mlagUp {p : Nat} (hp : fm_N p) (S : fm_S) (k : Nat) (hk : k < 8) : mj_big 1 186 [.ref p, .int (nI k)] (fm_mk S) (some (.int (md_lag (S.1 p) k))) (fm_mk S) := by
  have e2 : vp_in (nI k) 43 := in43 (by omega)
  have e8 := i8 hk
  have e16 := i16 hk
  have e32 := i32x hk
  have e41 := in41
  unfold fm_N at hp
  refine mj_ofB _ _ rfl rfl rfl ?_
  repeat' first
    | refine mj_auto2 [] 80 rfl ?_
    | refine mj_if rfl rfl (fun c1 => ?_) (fun c1 => ?_)
    | refine fm_gR (by with_reducible assumption) rfl rfl rfl ?_
    | refine fm_gI (by with_reducible assumption) rfl rfl rfl ?_
    | refine fm_ld (by with_reducible assumption) rfl (by with_reducible assumption) ?_
    | refine fm_st (by with_reducible assumption) rfl (by with_reducible assumption) ?_
    | refine fm_pI (by with_reducible assumption) rfl rfl rfl rfl ?_
    | refine mj_rt rfl rfl rfl ⟨?_, by with_reducible rfl⟩
    | refine mj_rt rfl rfl rfl ⟨?_, ?_⟩
    | refine mj_rtl rfl rfl ⟨?_, by with_reducible rfl⟩
    | refine mj_rtl rfl rfl ⟨?_, ?_⟩
    | refine mj_rtv rfl rfl ⟨rfl, by with_reducible rfl⟩
    | refine mj_rtv rfl rfl ⟨rfl, ?_⟩
  rw [v16 hk, v8 hk, v32 hk, nI8_tn k hk, tn41, md_lag]
set_option maxRecDepth 20000 in
theorem t_mforget (M : Nat → Nat → Int32) (ML : Nat → Nat → Int64) (R : Nat → Nat → Option Nat) : mj_big 1 210 [.ref 219] (fm_mk (M, ML, R)) (some (.int (M 219 36))) (fm_mk (fm_u (fm_u M 219 5 0) 219 36 0, ML, R)) := by
  refine mj_ofB _ _ rfl rfl rfl ?_
  repeat' first
    | refine mj_auto2 [] 80 rfl ?_
    | refine mj_if rfl rfl (fun c1 => ?_) (fun c1 => ?_)
    | refine fn_gR (by first | with_reducible assumption | with_reducible exact fm_s219) rfl rfl rfl ?_
    | refine fn_gI (by first | with_reducible assumption | with_reducible exact fm_s219) rfl rfl rfl ?_
    | refine fn_ld (by first | with_reducible assumption | with_reducible exact fm_s219) rfl (by with_reducible assumption) ?_
    | refine fn_st (by first | with_reducible assumption | with_reducible exact fm_s219) rfl (by with_reducible assumption) ?_
    | refine fn_pI (by first | with_reducible assumption | with_reducible exact fm_s219) rfl rfl rfl rfl ?_
    | refine mj_rt rfl rfl rfl ⟨?_, by with_reducible rfl⟩
    | refine mj_rt rfl rfl rfl ⟨?_, ?_⟩
    | refine mj_rtl rfl rfl ⟨?_, by with_reducible rfl⟩
    | refine mj_rtl rfl rfl ⟨?_, ?_⟩
    | refine mj_rtv rfl rfl ⟨rfl, by with_reducible rfl⟩
    | refine mj_rtv rfl rfl ⟨rfl, ?_⟩
  rw [fm_u_ix (by decide)]
set_option maxRecDepth 20000 in
theorem t_mdenies (M : Nat → Nat → Int32) (ML : Nat → Nat → Int64) (R : Nat → Nat → Option Nat) : mj_big 1 216 [.ref 219] (fm_mk (M, ML, R)) (some (.int (M 219 39))) (fm_mk (fm_u (fm_u M 219 5 0) 219 39 0, ML, R)) := by
  refine mj_ofB _ _ rfl rfl rfl ?_
  repeat' first
    | refine mj_auto2 [] 80 rfl ?_
    | refine mj_if rfl rfl (fun c1 => ?_) (fun c1 => ?_)
    | refine fn_gR (by first | with_reducible assumption | with_reducible exact fm_s219) rfl rfl rfl ?_
    | refine fn_gI (by first | with_reducible assumption | with_reducible exact fm_s219) rfl rfl rfl ?_
    | refine fn_ld (by first | with_reducible assumption | with_reducible exact fm_s219) rfl (by with_reducible assumption) ?_
    | refine fn_st (by first | with_reducible assumption | with_reducible exact fm_s219) rfl (by with_reducible assumption) ?_
    | refine fn_pI (by first | with_reducible assumption | with_reducible exact fm_s219) rfl rfl rfl rfl ?_
    | refine mj_rt rfl rfl rfl ⟨?_, by with_reducible rfl⟩
    | refine mj_rt rfl rfl rfl ⟨?_, ?_⟩
    | refine mj_rtl rfl rfl ⟨?_, by with_reducible rfl⟩
    | refine mj_rtl rfl rfl ⟨?_, ?_⟩
    | refine mj_rtv rfl rfl ⟨rfl, by with_reducible rfl⟩
    | refine mj_rtv rfl rfl ⟨rfl, ?_⟩
  rw [fm_u_ix (by decide)]
def md_endA (M : Nat → Nat → Int32) (n : Int32) : Int32 := if ¬ md_in n 0 (M 219 2) = 0 then 1 else 0
def md_endM (M : Nat → Nat → Int32) (n : Int32) : Nat → Nat → Int32 := if ¬ md_in n 0 (M 219 2) = 0 then fm_u (fm_u M 219 5 0) 219 2 n else fm_u M 219 5 0
set_option maxRecDepth 20000 in
theorem t_mend (M : Nat → Nat → Int32) (ML : Nat → Nat → Int64) (R : Nat → Nat → Option Nat) (n : Int32) : mj_big 2 152 [.ref 219, .int n] (fm_mk (M, ML, R)) (some (.int (md_endA M n))) (fm_mk (md_endM M n, ML, R)) := by
  refine mj_ofB _ _ rfl rfl rfl ?_
  rw [md_endA, md_endM]
  refine mj_auto2 [] 50 rfl ?_
  refine fn_pI fm_s219 rfl rfl rfl rfl ?_
  refine mj_auto2 [] 50 rfl ?_
  refine fn_gI fm_s219 rfl rfl rfl ?_
  rw [fm_u_ix (show ¬ 2 = 5 by decide)]
  refine mj_csB (t_min3 _ _ _ _) rfl rfl rfl rfl rfl rfl rfl ?_
  refine mj_if rfl rfl (fun c => ?_) (fun c => ?_)
  · rw [if_pos c, if_pos c]
    refine mj_auto2 [] 50 rfl ?_
    refine fn_pI fm_s219 rfl rfl rfl rfl ?_
    refine mj_auto2 [] 50 rfl ?_
    exact mj_rt rfl rfl rfl ⟨rfl, rfl⟩
  · rw [if_neg c, if_neg c]
    refine mj_auto2 [] 50 rfl ?_
    exact mj_rt rfl rfl rfl ⟨rfl, rfl⟩
def md_glR (a : Nat → Int32) (k : Nat) : Nat → Int32 := upd (upd (upd (upd (upd a k 0) (8 + k) 0) (16 + k) 0) (24 + k) 0) (32 + k) 0
theorem fm_u_rowE (M : Nat → Nat → Int32) (r i : Nat) (x : Int32) : fm_u M r i x = fm_row M r (upd (M r) i x) := by
  funext c
  by_cases h : c = r
  · subst h; rw [fm_u_row, fm_row_row]
  · rw [fm_u_off h, fm_row_off h]
set_option maxRecDepth 20000 in
theorem t_mgoLeave {p : Nat} (hp : fm_N p) (M : Nat → Nat → Int32) (ML : Nat → Nat → Int64) (R : Nat → Nat → Option Nat) (k : Nat) (hk : k < 8) : mj_big 3 179 [.ref p, .int (nI k)] (fm_mk (M, ML, R)) (some (.int (jd_bc (md_thereOf (md_glR (M p) k) 8)))) (fm_mk (fm_row M p (md_glR (M p) k), ML, R)) := by
  have kt := t_mthereOf hp (fm_row M p (md_glR (M p) k), ML, R)
  dsimp only at kt
  rw [fm_row_row] at kt
  have hp' : fm_sh p = .inl (0, 43) := hp
  refine mj_ofB _ _ rfl rfl rfl ?_
  refine mj_auto2 [] 50 rfl ?_
  refine fn_st hp' rfl (in43 (by omega)) ?_
  refine mj_auto2 [] 50 rfl ?_
  refine fn_st hp' rfl (i8 hk) ?_
  refine mj_auto2 [] 50 rfl ?_
  refine fn_st hp' rfl (i16 hk) ?_
  refine mj_auto2 [] 50 rfl ?_
  refine fn_st hp' rfl (i24 hk) ?_
  refine mj_auto2 [] 50 rfl ?_
  refine fn_st hp' rfl (i32x hk) ?_
  rw [v8 hk, v16 hk, v24 hk, v32 hk, nI8_tn k hk, fm_u_rowE M p k 0, fm_row_u, fm_row_u, fm_row_u, fm_row_u]
  refine mj_auto2 [] 50 rfl ?_
  refine mj_csB kt rfl rfl rfl rfl rfl rfl rfl ?_
  refine mj_csB (t_bitCount _ _) rfl rfl rfl rfl rfl rfl rfl ?_
  exact mj_rt rfl rfl rfl ⟨rfl, rfl⟩
def md_rl2 (a : Nat → Int32) (k : Nat) : Int32 := if ¬ a (32 + k) = 0 then (if (if md_gp a k (a (32 + k)) = 0 then md_dl a k (a (32 + k)) + md_ov a k (a (32 + k)) else md_gp a k (a (32 + k))) ≤ a 41 then 0 else -3) else 0
def md_rl (a : Nat → Int32) (q : Int32) : Int32 := if md_in q 0 7 = 0 then -1 else if ¬ md_th a q.toNatClampNeg = 0 then md_rl2 a q.toNatClampNeg else -1
set_option maxRecDepth 20000 in
theorem t_mrefuses {p : Nat} (hp : fm_N p) (S : fm_S) (q : Int32) (hg : ∀ k, k < 8 → ¬ S.1 p k = 0 → md_gok (S.1 p) k (S.1 p (32 + k))) : mj_big 4 178 [.ref p, .int q] (fm_mk S) (some (.int (md_rl (S.1 p) q))) (fm_mk S) := by
  have hp' : fm_sh p = .inl (0, 43) := hp
  refine mj_ofB _ _ rfl rfl rfl ?_
  rw [md_rl]
  refine mj_auto5 [] 50 rfl ?_
  refine mj_csB (t_min3 _ _ _ _) rfl rfl rfl rfl rfl rfl rfl ?_
  refine mj_if rfl rfl (fun c => ?_) (fun c => ?_)
  · rw [if_pos c]
    refine mj_auto5 [] 50 rfl ?_
    exact mj_rt rfl rfl rfl ⟨rfl, rfl⟩
  rw [if_neg c]
  obtain ⟨k, hk, rfl⟩ := md_in7 c
  rw [nI8_tn k hk]
  refine mj_auto5 [] 50 rfl ?_
  refine mj_csB (t_mthere hp S k hk) rfl rfl rfl rfl rfl rfl rfl ?_
  refine mj_if rfl rfl (fun c2 => ?_) (fun c2 => ?_)
  rotate_left
  · rw [if_neg c2]
    refine mj_auto5 [] 50 rfl ?_
    exact mj_rt rfl rfl rfl ⟨rfl, rfl⟩
  rw [if_pos c2, md_rl2]
  have h0 := md_th_ne c2
  refine mj_auto5 [] 50 rfl ?_
  refine fm_ld hp' rfl (i32x hk) ?_
  rw [v32 hk]
  refine mj_auto5 [] 50 rfl ?_
  refine mj_if rfl rfl (fun c3 => ?_) (fun c3 => ?_)
  rotate_left
  · rw [if_neg c3]
    refine mj_auto5 [] 50 rfl ?_
    exact mj_rt rfl rfl rfl ⟨rfl, rfl⟩
  rw [if_pos c3]
  refine mj_auto5 [] 50 rfl ?_
  refine mj_csB (t_mgroup hp S k hk h0 _ (hg k hk h0)) rfl rfl rfl rfl rfl rfl rfl ?_
  refine mj_auto5 [] 50 rfl ?_
  have fin : ∀ (x3 : Int32) (w : Int32), mj_Rn 3 (some .int) kX11_refusesLeaving (fun v g => v = some (.int (if w ≤ S.1 p 41 then 0 else -3)) ∧ g = fm_mk S) (fm_mk S) 61 [some (.ref p), some (.int (nI k)), some (.int (S.1 p (32 + k))), some (.int x3), none] [.int w] := by
    intro x3 w
    refine mj_auto5 [] 50 rfl ?_
    refine fm_ld hp' rfl in41 ?_
    rw [tn41]
    refine mj_auto5 [] 50 rfl ?_
    refine mj_if rfl rfl (fun c4 => ?_) (fun c4 => ?_)
    · rw [if_pos c4]
      refine mj_auto5 [] 50 rfl ?_
      exact mj_rt rfl rfl rfl ⟨rfl, rfl⟩
    · rw [if_neg c4]
      refine mj_auto5 [] 50 rfl ?_
      exact mj_rt rfl rfl rfl ⟨rfl, rfl⟩
  refine mj_if rfl rfl (fun c4 => ?_) (fun c4 => ?_)
  · rw [if_pos c4]
    refine mj_auto5 [] 50 rfl ?_
    refine mj_csB (t_mdl hp S k hk h0 _) rfl rfl rfl rfl rfl rfl rfl ?_
    refine mj_auto5 [] 50 rfl ?_
    refine mj_csB (t_mov hp S k hk h0 _) rfl rfl rfl rfl rfl rfl rfl ?_
    exact mj_step rfl rfl (fin _ _)
  · rw [if_neg c4]
    exact mj_step rfl rfl (mj_step rfl rfl (fin _ _))
def md_unA (z : Nat) : Int32 := if z = 0 then -1 else nI (z - 1)
def md_unM (M : Nat → Nat → Int32) (z : Nat) : Nat → Nat → Int32 := if z = 0 then fm_u M 219 5 0 else fm_row (fm_u (fm_u M 219 5 0) 219 19 (nI (z - 1))) 220 (md_lay (fun j => M 225 (43 * (z - 1) + j)) (M 220) 0 43)
set_option maxRecDepth 20000 in
theorem t_mundo (M : Nat → Nat → Int32) (ML : Nat → Nat → Int64) (R : Nat → Nat → Option Nat) (z : Nat) (hz : z ≤ 12) (h1 : M 219 19 = nI z) : mj_big 1 185 [.ref 219] (fm_mk (M, ML, R)) (some (.int (md_unA z))) (fm_mk (md_unM M z, ML, R)) := by
  refine mj_ofB _ _ rfl rfl rfl ?_
  rw [md_unA, md_unM]
  refine mj_auto2 [26] 50 rfl ?_
  refine fn_pI fm_s219 rfl rfl rfl rfl ?_
  refine mj_auto2 [26] 50 rfl ?_
  refine fn_gI fm_s219 rfl rfl rfl ?_
  rw [fm_u_ix (show ¬ 19 = 5 by decide), h1]
  refine mj_if rfl rfl (fun c => ?_) (fun c => ?_)
  · have hz0 : ¬ z = 0 := fun q => c (by rw [q]; rfl)
    rw [if_neg hz0, if_neg hz0]
    refine mj_auto2 [26] 50 rfl ?_
    refine fn_gI fm_s219 rfl rfl rfl ?_
    rw [fm_u_ix (show ¬ 19 = 5 by decide), h1]
    refine mj_auto2 [26] 50 rfl ?_
    have e1 : nI z - 1 = nI (z - 1) := by
      obtain ⟨y, rfl⟩ : ∃ y, z = y + 1 := ⟨z - 1, by omega⟩
      exact nI_pred y
    rw [e1]
    refine fn_pI fm_s219 rfl rfl rfl rfl ?_
    obtain ⟨M1, hM1⟩ : ∃ x, x = fm_u (fm_u M 219 5 0) 219 19 (nI (z - 1)) := ⟨_, rfl⟩
    rw [← hM1]
    have m1 : M1 219 19 = nI (z - 1) := by rw [hM1, fm_u_at]
    have m2 : M1 225 = M 225 := by rw [hM1, fm_u_off (by decide), fm_u_off (by decide)]
    have m3 : M1 220 = M 220 := by rw [hM1, fm_u_off (by decide), fm_u_off (by decide)]
    have lp : ∀ (m k : Nat), k + m = 43 → mj_Rn 0 (some .int) kX11_undo (fun v g => v = some (.int (nI (z - 1))) ∧ g = fm_mk (fm_row M1 220 (md_lay (fun j => M 225 (43 * (z - 1) + j)) (M 220) 0 43), ML, R)) (fm_mk (fm_row M1 220 (md_lay (fun j => M 225 (43 * (z - 1) + j)) (M 220) 0 k), ML, R)) 26 [some (.ref 219), some (.int (nI k))] [] := by
      intro m
      induction m with
      | zero =>
        intro k hk
        obtain rfl : k = 43 := by omega
        refine mj_begin2 [26] 50 rfl ?_
        refine mj_if rfl rfl (fun c1 => ?_) (fun c1 => absurd (by decide) c1)
        refine mj_auto2 [26] 50 rfl ?_
        refine fn_gI fm_s219 rfl rfl rfl ?_
        rw [fm_row_off (show ¬ 219 = 220 by decide), m1]
        exact mj_rt rfl rfl rfl ⟨rfl, rfl⟩
      | succ m ih =>
        intro k hk
        have e1 : ¬ (43 : Int32) ≤ nI k := nI_ge (b := 43) (by omega) (by omega)
        have ih := ih (k + 1) (by omega)
        rw [← nI_1, ← md_lay_s (fun j => M 225 (43 * (z - 1) + j)) (M 220) 0 k, Nat.zero_add] at ih
        refine mj_begin2 [26] 50 rfl ?_
        refine mj_if rfl rfl (fun c1 => absurd c1 e1) (fun c1 => ?_)
        refine mj_auto2 [26] 50 rfl ?_
        refine fn_gR fm_s219 rfl rfl rfl ?_
        refine mj_auto2 [26] 50 rfl ?_
        refine fn_gR fm_s219 rfl rfl rfl ?_
        refine mj_auto2 [26] 50 rfl ?_
        refine fn_gI fm_s219 rfl rfl rfl ?_
        rw [fm_row_off (show ¬ 219 = 220 by decide), m1]
        refine mj_auto2 [26] 50 rfl ?_
        rw [nI_m43 (z - 1) (by omega), nI_add]
        refine fn_ld fm_s225 rfl (in_nI (by omega) (by omega)) ?_
        rw [nI_clamp (by omega), fm_row_off (show ¬ 225 = 220 by decide), m2]
        refine fn_st fm_s220 rfl (in_nI (by omega) (by omega)) ?_
        rw [nI_clamp (by omega), fm_row_u]
        refine mj_auto2 [26] 50 rfl ?_
        exact ih
    refine mj_auto2 [26] 50 rfl ?_
    have q := lp 43 0 rfl
    rw [md_lay_0, ← m3, fm_row_self] at q
    rw [← m3]
    exact q
  · have hz0 : z = 0 := by
      rcases Nat.eq_zero_or_pos z with q | q
      · exact q
      · exact absurd (nI_ne0 q (by omega)) c
    rw [if_pos hz0, if_pos hz0]
    refine mj_auto2 [26] 50 rfl ?_
    exact mj_rt rfl rfl rfl ⟨rfl, rfl⟩
