abbrev cs_C (M : Nat → Nat → Int32) (ML : Nat → Nat → Int64) (R : Nat → Nat → Option Nat) : fm_S := (fm_u M 44 1 0, ML, R)
set_option maxRecDepth 20000 in
theorem t_ties (M : Nat → Nat → Int32) (ML : Nat → Nat → Int64) (R : Nat → Nat → Option Nat) (n : Nat) (hn : n ≤ 80) (hs : M 38 1 = nI n) : mj_big 3 77 [.ref 0] (fm_mk (M, ML, R)) (some (.int (if (sc_rt 42 n 0 0 (fm_u M 42 1 0)).1 = -1 then (sc_rt 42 n 0 0 (fm_u M 42 1 0)).2 42 1 else -1 - (sc_rt 42 n 0 0 (fm_u M 42 1 0)).1)))
    (fm_mk (if (sc_rt 42 n 0 0 (fm_u M 42 1 0)).1 = -1 then ti_copy (fm_u (sc_rt 42 n 0 0 (fm_u M 42 1 0)).2 38 1 0) 40 42 else fm_u (sc_rt 42 n 0 0 (fm_u M 42 1 0)).2 38 1 0, ML, R)) := by
  have k1 := t_readTies fm_T42 (by decide) (M, ML, R) n hn hs
  dsimp only at k1
  generalize sc_rt 42 n 0 0 (fm_u M 42 1 0) = F at k1 ⊢
  have k2 := t_sclear (F.2, ML, R)
  have k3 := t_tcopy fm_T40 fm_T42 (by decide) (fm_u F.2 38 1 0, ML, R)
  refine mj_ofB _ _ rfl rfl rfl ?_
  refine mj_auto2 [] 50 rfl ?_
  refine fm_gR fm_s0 rfl rfl rfl ?_
  refine mj_auto2 [] 50 rfl ?_
  refine fm_gR fm_s0 rfl rfl rfl ?_
  refine mj_cvB k1 (fm_o fm_s38) rfl rfl rfl rfl rfl ⟨rfl, rfl⟩ rfl ?_
  refine mj_auto2 [] 50 rfl ?_
  refine fm_gR fm_s0 rfl rfl rfl ?_
  refine mj_cvB k2 (fm_o fm_s38) rfl rfl rfl rfl rfl ⟨rfl, rfl⟩ rfl ?_
  refine mj_auto2 [] 50 rfl ?_
  refine mj_if rfl rfl (fun c => ?_) (fun c => ?_)
  · rw [if_pos c, if_pos c]
    refine mj_auto2 [] 50 rfl ?_
    refine fm_gR fm_s0 rfl rfl rfl ?_
    refine mj_auto2 [] 50 rfl ?_
    refine fm_gR fm_s0 rfl rfl rfl ?_
    refine mj_cvB k3 (fm_o fm_s40) rfl rfl rfl rfl rfl ⟨rfl, rfl⟩ rfl ?_
    dsimp only
    refine mj_auto2 [] 50 rfl ?_
    refine fm_gR fm_s0 rfl rfl rfl ?_
    refine fm_gI fm_s40 rfl rfl rfl ?_
    dsimp only
    rw [ti_copy, fm_u_at, fm_u_off (by decide)]
    exact mj_rt rfl rfl rfl ⟨rfl, rfl⟩
  · rw [if_neg c, if_neg c]
    refine mj_auto2 [] 50 rfl ?_
    exact mj_rt rfl rfl rfl ⟨rfl, rfl⟩
def cs_slot (M : Nat → Nat → Int32) (ML : Nat → Nat → Int64) (R : Nat → Nat → Option Nat) (N P a z : Nat) : fm_S :=
  rw_add (rw_add (cs_C (wd_gob (pa_rem M a z 1) 1 40 N P (-1)) ML R) (wd_gob (pa_rem M a z 1) 1 40 N P (-1) 1 12 - M 1 12).toInt64) (wd_gob (pa_rem M a z 1) 1 40 N P (-1) 1 14).toInt64
theorem pa_rem_off {M : Nat → Nat → Int32} {a z o c : Nat} (h : c < 34 ∨ (34 < c ∧ c < 65)) : pa_rem M a z o c = M c := by
  have hj : (a + z) % 12 < 12 := Nat.mod_lt _ (by decide)
  unfold pa_rem
  split
  · rw [fm_u_off (by omega), wd_copy_off (by omega)]
  · rw [fm_u_off (by omega), wd_copy_off (by omega)]
set_option maxRecDepth 20000 in
theorem t_slot {M : Nat → Nat → Int32} {ML : Nat → Nat → Int64} {R : Nat → Nat → Option Nat} {N P B a z : Nat} (h : cl_ok M R N P B a z) : mj_big 6 82 [.ref 0] (fm_mk (M, ML, R)) (some (.int (wd_gob (pa_rem M a z 1) 1 40 N P (-1) 1 13))) (fm_mk (cs_slot M ML R N P a z)) := by
  obtain ⟨h1, h2, h3, h4, h5, h6, h7, h8, h9, h10, h11⟩ := h
  have k1 := t_remember fm_W1 (by decide) M ML R h7 a z h8 h9 h10 h11
  have k2 := t_goBy fm_W1 fm_T40 (by omega) (pa_rem M a z 1, ML, R) N P h1 (by dsimp only; rw [pa_rem_off (by omega)]; exact h2) h3 (by dsimp only; rw [pa_rem_off (by omega)]; exact h4) ((h5.row (pa_rem_off (by omega)) (pa_rem_off (by omega))).bd (by omega)) (-1)
  dsimp only at k2
  unfold cs_slot
  generalize wd_gob (pa_rem M a z 1) 1 40 N P (-1) = M2 at k2 ⊢
  have k3 := t_rclear (M2, ML, R)
  have k4 := fun v => t_radd (cs_C M2 ML R) (rw_clear_ok M2 (ML, R)) v
  have k5 := fun v w => t_radd (rw_add (cs_C M2 ML R) v) (rw_add_ok (rw_clear_ok M2 (ML, R)) v) w
  refine mj_ofB _ _ rfl rfl rfl ?_
  refine mj_auto2 [] 50 rfl ?_
  refine fm_gR fm_s0 rfl rfl rfl ?_
  refine fm_gI fm_w1 rfl rfl rfl ?_
  refine mj_auto2 [] 50 rfl ?_
  refine fm_gR fm_s0 rfl rfl rfl ?_
  refine mj_auto2 [] 50 rfl ?_
  refine fm_gR fm_s0 rfl rfl rfl ?_
  refine mj_cvB k1 (fm_o fm_s34) rfl rfl rfl rfl rfl ⟨rfl, rfl⟩ rfl ?_
  refine mj_auto2 [] 50 rfl ?_
  refine fm_gR fm_s0 rfl rfl rfl ?_
  refine mj_auto2 [] 50 rfl ?_
  refine fm_gR fm_s0 rfl rfl rfl ?_
  refine mj_auto2 [] 50 rfl ?_
  refine mj_cvB k2 (fm_o fm_w1) rfl rfl rfl rfl rfl ⟨rfl, rfl⟩ rfl ?_
  refine mj_auto2 [] 50 rfl ?_
  refine fm_gR fm_s0 rfl rfl rfl ?_
  refine mj_cvB k3 (fm_o fm_s44) rfl rfl rfl rfl rfl ⟨rfl, rfl⟩ rfl ?_
  refine mj_auto2 [] 50 rfl ?_
  refine fm_gR fm_s0 rfl rfl rfl ?_
  refine mj_auto2 [] 50 rfl ?_
  refine fm_gR fm_s0 rfl rfl rfl ?_
  refine fm_gI fm_w1 rfl rfl rfl ?_
  refine mj_auto2 [] 50 rfl ?_
  dsimp only
  rw [fm_u_off (show ¬ 1 = 44 by decide)]
  refine mj_cvB (k4 _) (fm_o fm_s44) rfl rfl rfl rfl rfl ⟨rfl, rfl⟩ rfl ?_
  refine mj_auto2 [] 50 rfl ?_
  refine fm_gR fm_s0 rfl rfl rfl ?_
  refine mj_auto2 [] 50 rfl ?_
  refine fm_gR fm_s0 rfl rfl rfl ?_
  refine fm_gI fm_w1 rfl rfl rfl ?_
  rw [rw_add_M (show ¬ 1 = 44 by decide)]
  dsimp only
  rw [fm_u_off (show ¬ 1 = 44 by decide)]
  refine mj_auto2 [] 50 rfl ?_
  refine mj_cvB (k5 _ _) (fm_o fm_s44) rfl rfl rfl rfl rfl ⟨rfl, rfl⟩ rfl ?_
  refine mj_auto2 [] 50 rfl ?_
  refine fm_gR fm_s0 rfl rfl rfl ?_
  refine fm_gI fm_w1 rfl rfl rfl ?_
  rw [rw_add_M (show ¬ 1 = 44 by decide), rw_add_M (show ¬ 1 = 44 by decide)]
  dsimp only
  rw [fm_u_off (show ¬ 1 = 44 by decide)]
  exact mj_rt rfl rfl rfl ⟨rfl, rfl⟩
def cs_lag (S : fm_S) (t : Int32) : fm_S := if ¬ wd_there S.1 1 t = 0 then rw_fr (fm_u S.1 44 1 0, S.2) (wd_lag S.1 1 t.toNatClampNeg).toInt64 (S.1 3 t.toNatClampNeg).toInt64 else S
theorem fm_a3 : fm_sh 3 = .inl (0, 8) := by decide +kernel
theorem wd_lag_u {M : Nat → Nat → Int32} {k i : Nat} {x : Int32} : wd_lag (fm_u M 44 i x) 1 k = wd_lag M 1 k := by
  unfold wd_lag
  rw [fm_u_off (by decide), fm_u_off (by decide), fm_u_off (by decide), fm_u_off (by decide), fm_u_off (by decide)]
set_option maxRecDepth 20000 in
theorem t_lag (M : Nat → Nat → Int32) (ML : Nat → Nat → Int64) (R : Nat → Nat → Option Nat) (t : Int32) : mj_big 3 91 [.ref 0, .int t] (fm_mk (M, ML, R)) (some (.int (if ¬ wd_there M 1 t = 0 then 0 else -1))) (fm_mk (cs_lag (M, ML, R) t)) := by
  have k1 := t_isThere fm_W1 (M, ML, R) t
  have k2 := t_rclear (M, ML, R)
  have k3 := fun ht => t_lagUpper fm_W1 (fm_u M 44 1 0, ML, R) t ht
  have k4 := fun u l => t_addFraction (fm_u M 44 1 0, ML, R) (rw_clear_ok M (ML, R)) u l
  dsimp only at k1 k3
  rw [wd_lag_u] at k3
  refine mj_ofB _ _ rfl rfl rfl ?_
  rw [cs_lag]
  dsimp only
  refine mj_auto2 [] 50 rfl ?_
  refine fm_gR fm_s0 rfl rfl rfl ?_
  refine mj_auto2 [] 50 rfl ?_
  refine mj_cvB k1 (fm_o fm_w1) rfl rfl rfl rfl rfl ⟨rfl, rfl⟩ rfl ?_
  refine mj_if rfl rfl (fun c => ?_) (fun c => ?_)
  · rw [if_pos c, if_pos c]
    have ht := wd_there_in c
    refine mj_auto2 [] 50 rfl ?_
    refine fm_gR fm_s0 rfl rfl rfl ?_
    refine mj_cvB k2 (fm_o fm_s44) rfl rfl rfl rfl rfl ⟨rfl, rfl⟩ rfl ?_
    refine mj_auto2 [] 50 rfl ?_
    refine fm_gR fm_s0 rfl rfl rfl ?_
    refine mj_auto2 [] 50 rfl ?_
    refine fm_gR fm_s0 rfl rfl rfl ?_
    refine mj_auto2 [] 50 rfl ?_
    refine mj_cvB (k3 ht) (fm_o fm_w1) rfl rfl rfl rfl rfl ⟨rfl, rfl⟩ rfl ?_
    refine mj_auto2 [] 50 rfl ?_
    refine fm_gR fm_s0 rfl rfl rfl ?_
    refine fm_gR fm_w1 rfl rfl rfl ?_
    refine mj_auto2 [] 50 rfl ?_
    refine fm_ld fm_a3 rfl ht ?_
    refine mj_auto2 [] 50 rfl ?_
    dsimp only
    rw [fm_u_off (show ¬ 3 = 44 by decide)]
    refine mj_cvB (k4 _ _) (fm_o fm_s44) rfl rfl rfl rfl rfl ⟨rfl, rfl⟩ rfl ?_
    refine mj_auto2 [] 50 rfl ?_
    exact mj_rt rfl rfl rfl ⟨rfl, rfl⟩
  · rw [if_neg c, if_neg c]
    refine mj_auto2 [] 50 rfl ?_
    exact mj_rt rfl rfl rfl ⟨rfl, rfl⟩
