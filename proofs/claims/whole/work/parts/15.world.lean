/-- what lookAtNext lays for the TASK at t -/
def wd_look (M : Nat → Nat → Int32) (b t : Nat) : Nat → Nat → Int32 :=
  fm_u (fm_u (fm_u (fm_u M (b + 7) t (M (b + 4) t + pt_rel (M (b + 1) t) (M (b + 2) t) (M (b + 6) t + 1))) (b + 8) t (M (b + 4) t + pt_dl (M (b + 1) t) (M (b + 2) t) (M (b + 6) t + 1))) (b + 9) t (pt_ov (M (b + 1) t) (M (b + 2) t) (M (b + 6) t + 1))) (b + 10) t (wd_gof M b t (M (b + 6) t + 1))
theorem fm_u_off2 {M : Nat → Nat → Int32} {b i x y : Nat} {v : Int32} (h : ¬ y = x) : fm_u M (b + x) i v (b + y) = M (b + y) := fm_u_off (by omega)
set_option maxRecDepth 20000 in
set_option maxHeartbeats 4000000 in
theorem t_lookAtNext {b : Nat} (hb : fm_W b) (S : fm_S) (t : Int32) (ht : vp_in t 8) (he : 0 ≤ (S.1 (b + 1) t.toNatClampNeg).toInt) (hi : 0 ≤ (S.1 (b + 6) t.toNatClampNeg + 1).toInt) (hi2 : (S.1 (b + 6) t.toNatClampNeg + 1).toInt + (S.1 (b + 1) t.toNatClampNeg).toInt < 2 ^ 31) : mj_big 3 54 [.ref b, .int t] (fm_mk S) none (fm_mk (wd_look S.1 b t.toNatClampNeg, S.2)) := by
  obtain ⟨hb, h0, h1, h2, h3, h4, h5, h6, h7, h8, h9⟩ := hb
  have hg := fun h => t_group h (S.1 (b + 1) t.toNatClampNeg) (S.1 (b + 2) t.toNatClampNeg) (S.1 (b + 6) t.toNatClampNeg + 1) he hi hi2
  refine mj_ofB _ _ rfl rfl rfl ?_
  repeat' first
    | refine mj_auto6 [] 80 rfl ?_
    | refine mj_if rfl rfl (fun c1 => ?_) (fun c1 => ?_)
    | refine fm_gR (by with_reducible assumption) rfl rfl rfl ?_
    | refine fm_gI (by with_reducible assumption) rfl rfl rfl ?_
    | refine fm_ld (by with_reducible assumption) rfl (by with_reducible assumption) ?_
    | refine fm_st (by with_reducible assumption) rfl (by with_reducible assumption) ?_
    | refine fm_pI (by with_reducible assumption) rfl rfl rfl rfl ?_
    | refine mj_csB (hg ..) rfl rfl rfl rfl rfl rfl rfl ?_
    | refine mj_csB (t_release ..) rfl rfl rfl rfl rfl rfl rfl ?_
    | refine mj_csB (t_deadline ..) rfl rfl rfl rfl rfl rfl rfl ?_
    | refine mj_csB (t_overlap ..) rfl rfl rfl rfl rfl rfl rfl ?_
    | refine mj_rt rfl rfl rfl ⟨?_, by with_reducible rfl⟩
    | refine mj_rt rfl rfl rfl ⟨?_, ?_⟩
    | refine mj_rtl rfl rfl ⟨?_, by with_reducible rfl⟩
    | refine mj_rtl rfl rfl ⟨?_, ?_⟩
    | refine mj_rtv rfl rfl ⟨rfl, by with_reducible rfl⟩
    | refine mj_rtv rfl rfl ⟨rfl, ?_⟩
  · refine congrArg fm_mk (Prod.ext ?_ rfl)
    simp (disch := decide) only [fm_u_off2, wd_look, wd_gof]
    rw [if_pos c1]
  · refine congrArg fm_mk (Prod.ext ?_ rfl)
    simp (disch := decide) only [fm_u_off2, wd_look, wd_gof]
    rw [if_neg c1]
