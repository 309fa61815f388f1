/-- the rings' references stand -/
def pa_R (R : Nat → Nat → Option Nat) : Prop := (∀ k, k < 12 → R 35 k = some (65 + 11 * k)) ∧ ∀ k, k < 2 → R 36 k = some (65 + 11 * (12 + k))
theorem pa_ix : ∀ a, a < 12 → ∀ z, z < 13 → (nI a + nI z) - (nI a + nI z) / 12 * 12 = nI ((a + z) % 12) := by
  have h : (List.range 12).all (fun a => (List.range 13).all (fun z => decide ((nI a + nI z) - (nI a + nI z) / 12 * 12 = nI ((a + z) % 12)))) = true := by decide +kernel
  intro a ha z hz
  exact of_decide_eq_true (List.all_eq_true.mp (List.all_eq_true.mp h a (List.mem_range.mpr ha)) z (List.mem_range.mpr hz))
def pa_rem (M : Nat → Nat → Int32) (a z o : Nat) : Nat → Nat → Int32 := if z < 12 then fm_u (wd_copy M (65 + 11 * ((a + z) % 12)) o) 34 2 (nI (z + 1)) else fm_u (wd_copy M (65 + 11 * ((a + z) % 12)) o) 34 1 (nI ((a + 1) % 12))
theorem wd_copy_off {M : Nat → Nat → Int32} {b o a : Nat} (h : a < b ∨ b + 10 < a) : wd_copy M b o a = M a := by
  unfold wd_copy
  rw [if_neg (by omega), if_neg (by omega)]
theorem tn12 (k : Nat) (h : k < 12) : (nI k).toNatClampNeg = k := nI_clamp (by omega)
set_option maxRecDepth 20000 in
theorem t_remember {o : Nat} (ho : fm_W o) (ho2 : o + 10 < 34) (M : Nat → Nat → Int32) (ML : Nat → Nat → Int64) (R : Nat → Nat → Option Nat) (hR : pa_R R) (a z : Nat) (ha : a < 12) (hz : z ≤ 12) (h1 : M 34 1 = nI a) (h2 : M 34 2 = nI z) : mj_big 2 11 [.ref 34, .ref o] (fm_mk (M, ML, R)) none (fm_mk (pa_rem M a z o, ML, R)) := by
  have hj : (a + z) % 12 < 12 := Nat.mod_lt _ (by decide)
  have kc := t_copyFrom (fm_W65 ((a + z) % 12) (by omega)) ho (by omega) (M, ML, R)
  have q1 := fm_W65 ((a + z) % 12) (by omega)
  refine mj_ofB _ _ rfl rfl rfl ?_
  refine mj_auto2 [] 50 rfl ?_
  refine fn_gR fm_s34 rfl rfl rfl ?_
  refine mj_auto2 [] 50 rfl ?_
  refine fn_gI fm_s34 rfl rfl rfl ?_
  refine mj_auto2 [] 50 rfl ?_
  refine fn_gI fm_s34 rfl rfl rfl ?_
  rw [h1, h2]
  refine mj_auto2 [] 50 rfl ?_
  refine mj_div rfl rfl (by decide) ?_
  rw [pa_ix a ha z (by omega)]
  refine fn_lda fm_s35 rfl (in_nI hj (by omega)) (by rw [tn12 _ hj]; exact hR.1 _ hj) ?_
  refine mj_auto2 [] 50 rfl ?_
  refine mj_cvB kc (fm_o q1.1) rfl rfl rfl rfl rfl ⟨rfl, rfl⟩ rfl ?_
  dsimp only
  have w1 : wd_copy M (65 + 11 * ((a + z) % 12)) o 34 = M 34 := wd_copy_off (by omega)
  refine mj_auto2 [] 50 rfl ?_
  refine fn_gI fm_s34 rfl rfl rfl ?_
  rw [w1, h2]
  refine mj_auto2 [] 50 rfl ?_
  rw [pa_rem]
  refine mj_if rfl rfl (fun c1 => ?_) (fun c1 => ?_)
  · have hz12 : ¬ z < 12 := fun q => nI_ge q (by omega) c1
    rw [if_neg hz12]
    refine mj_auto2 [] 50 rfl ?_
    refine fn_gI fm_s34 rfl rfl rfl ?_
    rw [w1, h1]
    refine mj_auto2 [] 50 rfl ?_
    refine mj_div rfl rfl (by decide) ?_
    rw [show (nI a + 1 : Int32) = nI a + nI 1 from rfl, pa_ix a ha 1 (by omega)]
    refine fn_pI fm_s34 rfl rfl rfl rfl ?_
    exact mj_rtv rfl rfl ⟨rfl, rfl⟩
  · have hz12 : z < 12 := by
      rcases Nat.lt_or_ge z 12 with q | q
      · exact q
      · exact absurd (nI_le q (by omega)) c1
    rw [if_pos hz12]
    refine mj_auto2 [] 50 rfl ?_
    refine fn_gI fm_s34 rfl rfl rfl ?_
    rw [w1, h2]
    refine mj_auto2 [] 50 rfl ?_
    rw [nI_1]
    refine fn_pI fm_s34 rfl rfl rfl rfl ?_
    refine mj_auto2 [] 50 rfl ?_
    exact mj_rtv rfl rfl ⟨rfl, rfl⟩
def pa_bbA (z : Nat) : Int32 := if z = 0 then -1 else nI (z - 1)
def pa_bbM (M : Nat → Nat → Int32) (a z o : Nat) : Nat → Nat → Int32 := if z = 0 then M else wd_copy (fm_u M 34 2 (nI (z - 1))) o (65 + 11 * ((a + (z - 1)) % 12))
set_option maxRecDepth 20000 in
theorem t_bringBack {o : Nat} (ho : fm_W o) (ho2 : o + 10 < 34) (M : Nat → Nat → Int32) (ML : Nat → Nat → Int64) (R : Nat → Nat → Option Nat) (hR : pa_R R) (a z : Nat) (ha : a < 12) (hz : z ≤ 12) (h1 : M 34 1 = nI a) (h2 : M 34 2 = nI z) : mj_big 2 12 [.ref 34, .ref o] (fm_mk (M, ML, R)) (some (.int (pa_bbA z))) (fm_mk (pa_bbM M a z o, ML, R)) := by
  have hj : (a + (z - 1)) % 12 < 12 := Nat.mod_lt _ (by decide)
  have kc := t_copyFrom ho (fm_W65 ((a + (z - 1)) % 12) (by omega)) (by omega) (fm_u M 34 2 (nI (z - 1)), ML, R)
  refine mj_ofB _ _ rfl rfl rfl ?_
  refine mj_auto2 [] 50 rfl ?_
  refine fn_gI fm_s34 rfl rfl rfl ?_
  rw [h2]
  refine mj_if rfl rfl (fun c1 => ?_) (fun c1 => ?_)
  · have hz0 : ¬ z = 0 := fun q => c1 (by rw [q]; rfl)
    rw [pa_bbA, pa_bbM, if_neg hz0, if_neg hz0]
    refine mj_auto2 [] 50 rfl ?_
    refine fn_gI fm_s34 rfl rfl rfl ?_
    rw [h2]
    refine mj_auto2 [] 50 rfl ?_
    have e1 : nI z - 1 = nI (z - 1) := by
      obtain ⟨y, rfl⟩ : ∃ y, z = y + 1 := ⟨z - 1, by omega⟩
      exact nI_pred y
    rw [e1]
    refine fn_pI fm_s34 rfl rfl rfl rfl ?_
    refine mj_auto2 [] 50 rfl ?_
    refine fn_gR fm_s34 rfl rfl rfl ?_
    refine mj_auto2 [] 50 rfl ?_
    refine fn_gI fm_s34 rfl rfl rfl ?_
    refine mj_auto2 [] 50 rfl ?_
    refine fn_gI fm_s34 rfl rfl rfl ?_
    rw [fm_u_ix (show ¬ 1 = 2 by decide), fm_u_at, h1]
    refine mj_auto2 [] 50 rfl ?_
    refine mj_div rfl rfl (by decide) ?_
    rw [pa_ix a ha (z - 1) (by omega)]
    refine fn_lda fm_s35 rfl (in_nI hj (by omega)) (by rw [tn12 _ hj]; exact hR.1 _ hj) ?_
    refine mj_cvB kc (fm_o ho.1) rfl rfl rfl rfl rfl ⟨rfl, rfl⟩ rfl ?_
    dsimp only
    refine mj_auto2 [] 50 rfl ?_
    refine fn_gI fm_s34 rfl rfl rfl ?_
    rw [wd_copy_off (by omega), fm_u_at]
    exact mj_rt rfl rfl rfl ⟨rfl, rfl⟩
  · have hz0 : z = 0 := by
      rcases Nat.eq_zero_or_pos z with q | q
      · exact q
      · exact absurd (nI_ne0 q (by omega)) c1
    rw [pa_bbA, pa_bbM, if_pos hz0, if_pos hz0]
    refine mj_auto2 [] 50 rfl ?_
    exact mj_rt rfl rfl rfl ⟨rfl, rfl⟩
theorem nI_of_in {i : Int32} {N : Nat} (h : vp_in i N) : ∃ k, k < N ∧ i = nI k := by
  obtain ⟨j, hj, rfl⟩ := nI_of (fun q => h (Or.inl q))
  refine ⟨j, ?_, rfl⟩
  have := Nat.not_le.mp fun q => h (Or.inr q)
  rwa [nI_clamp hj] at this
theorem in2 {t : Int32} (h1 : ¬ t < 0) (h2 : t < 2) : vp_in t 2 := by
  rw [Int32.lt_iff_toInt_lt] at h1 h2
  have h3 : (2 : Int32).toInt = 2 := rfl
  have h4 : (0 : Int32).toInt = 0 := rfl
  exact in_of (by omega) (by omega)
def pa_kA (i : Int32) : Int32 := if i < 0 then 0 else if i < 2 then 1 else 0
def pa_kM (M : Nat → Nat → Int32) (i : Int32) (o : Nat) : Nat → Nat → Int32 := if i < 0 then M else if i < 2 then fm_u (wd_copy M (65 + 11 * (12 + i.toNatClampNeg)) o) 37 i.toNatClampNeg 1 else M
set_option maxRecDepth 20000 in
theorem t_keepUnder {o : Nat} (ho : fm_W o) (ho2 : o + 10 < 34) (M : Nat → Nat → Int32) (ML : Nat → Nat → Int64) (R : Nat → Nat → Option Nat) (hR : pa_R R) (i : Int32) : mj_big 2 13 [.ref 34, .int i, .ref o] (fm_mk (M, ML, R)) (some (.int (pa_kA i))) (fm_mk (pa_kM M i o, ML, R)) := by
  refine mj_ofB _ _ rfl rfl rfl ?_
  rw [pa_kA, pa_kM]
  refine mj_auto3 [] 50 rfl ?_
  refine mj_if rfl rfl (fun c1 => ?_) (fun c1 => ?_)
  · rw [if_pos c1, if_pos c1]
    refine mj_auto3 [] 50 rfl ?_
    exact mj_rt rfl rfl rfl ⟨rfl, rfl⟩
  rw [if_neg c1, if_neg c1]
  refine mj_auto3 [] 50 rfl ?_
  refine mj_if rfl rfl (fun c2 => ?_) (fun c2 => ?_)
  · rw [if_pos c2, if_pos c2]
    have hi := in2 c1 c2
    obtain ⟨k, hk, rfl⟩ := nI_of_in hi
    have kc := t_copyFrom (fm_W65 (12 + k) (by omega)) ho (by omega) (M, ML, R)
    rw [nI_clamp (by omega)]
    refine mj_auto3 [] 50 rfl ?_
    refine fn_gR fm_s34 rfl rfl rfl ?_
    refine mj_auto3 [] 50 rfl ?_
    refine fn_lda fm_s36 rfl hi (by rw [nI_clamp (by omega)]; exact hR.2 k hk) ?_
    refine mj_auto3 [] 50 rfl ?_
    refine mj_cvB kc (fm_o (fm_W65 (12 + k) (by omega)).1) rfl rfl rfl rfl rfl ⟨rfl, rfl⟩ rfl ?_
    refine mj_auto3 [] 50 rfl ?_
    refine fn_gR fm_s34 rfl rfl rfl ?_
    refine mj_auto3 [] 50 rfl ?_
    refine fn_stz fm_s37 rfl hi ?_
    rw [nI_clamp (by omega)]
    refine mj_auto3 [] 50 rfl ?_
    exact mj_rt rfl rfl rfl ⟨rfl, rfl⟩
  · rw [if_neg c2, if_neg c2]
    refine mj_auto3 [] 50 rfl ?_
    exact mj_rt rfl rfl rfl ⟨rfl, rfl⟩
def pa_bkA (M : Nat → Nat → Int32) (i : Int32) : Int32 := if i < 0 then 0 else if 2 ≤ i then 0 else if ¬ M 37 i.toNatClampNeg = 0 then 1 else 0
def pa_bkM (M : Nat → Nat → Int32) (i : Int32) (o : Nat) : Nat → Nat → Int32 := if i < 0 then M else if 2 ≤ i then M else if ¬ M 37 i.toNatClampNeg = 0 then fm_u (wd_copy M o (65 + 11 * (12 + i.toNatClampNeg))) 34 2 0 else M
set_option maxRecDepth 20000 in
theorem t_bringKept {o : Nat} (ho : fm_W o) (ho2 : o + 10 < 34) (M : Nat → Nat → Int32) (ML : Nat → Nat → Int64) (R : Nat → Nat → Option Nat) (hR : pa_R R) (i : Int32) : mj_big 2 14 [.ref 34, .int i, .ref o] (fm_mk (M, ML, R)) (some (.int (pa_bkA M i))) (fm_mk (pa_bkM M i o, ML, R)) := by
  refine mj_ofB _ _ rfl rfl rfl ?_
  rw [pa_bkA, pa_bkM]
  refine mj_auto3 [] 50 rfl ?_
  refine mj_if rfl rfl (fun c1 => ?_) (fun c1 => ?_)
  · rw [if_pos c1, if_pos c1]
    refine mj_auto3 [] 50 rfl ?_
    exact mj_rt rfl rfl rfl ⟨rfl, rfl⟩
  rw [if_neg c1, if_neg c1]
  refine mj_auto3 [] 50 rfl ?_
  refine mj_if rfl rfl (fun c2 => ?_) (fun c2 => ?_)
  · rw [if_pos c2, if_pos c2]
    refine mj_auto3 [] 50 rfl ?_
    exact mj_rt rfl rfl rfl ⟨rfl, rfl⟩
  rw [if_neg c2, if_neg c2]
  have hi := in2 c1 (Int32.not_le.mp c2)
  obtain ⟨k, hk, rfl⟩ := nI_of_in hi
  have kc := t_copyFrom ho (fm_W65 (12 + k) (by omega)) (by omega) (M, ML, R)
  refine mj_auto3 [] 50 rfl ?_
  refine fn_gR fm_s34 rfl rfl rfl ?_
  refine mj_auto3 [] 50 rfl ?_
  refine fn_ldz fm_s37 rfl hi ?_
  rw [nI_clamp (by omega)]
  refine mj_if rfl rfl (fun c3 => ?_) (fun c3 => ?_)
  · rw [if_pos c3, if_pos c3]
    refine mj_auto3 [] 50 rfl ?_
    refine fn_gR fm_s34 rfl rfl rfl ?_
    refine mj_auto3 [] 50 rfl ?_
    refine fn_lda fm_s36 rfl hi (by rw [nI_clamp (by omega)]; exact hR.2 k hk) ?_
    refine mj_cvB kc (fm_o ho.1) rfl rfl rfl rfl rfl ⟨rfl, rfl⟩ rfl ?_
    refine mj_auto3 [] 50 rfl ?_
    refine fn_pI fm_s34 rfl rfl rfl rfl ?_
    refine mj_auto3 [] 50 rfl ?_
    exact mj_rt rfl rfl rfl ⟨rfl, rfl⟩
  · rw [if_neg c3, if_neg c3]
    refine mj_auto3 [] 50 rfl ?_
    exact mj_rt rfl rfl rfl ⟨rfl, rfl⟩
