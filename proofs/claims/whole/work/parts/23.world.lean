def wd_tpA (M : Nat → Nat → Int32) (b : Nat) (v : Int32) : Int32 := if v < 1 then -1 else if v ≤ 4 then (if ¬ v = M b 10 then (if wd_ws M b 8 ≤ v * 27720 then 10 + M b 10 else -3) else -2) else -1
def wd_tpM (M : Nat → Nat → Int32) (b : Nat) (v : Int32) : Nat → Nat → Int32 := if v < 1 then M else if v ≤ 4 then (if ¬ v = M b 10 then (if wd_ws M b 8 ≤ v * 27720 then fm_u M b 10 v else M) else M) else M
set_option maxRecDepth 20000 in
theorem t_takeProcessors {b : Nat} (hb : fm_W b) (S : fm_S) (v : Int32) : mj_big 2 65 [.ref b, .int v] (fm_mk S) (some (.int (wd_tpA S.1 b v))) (fm_mk (wd_tpM S.1 b v, S.2)) := by
  have k1 := t_weightSum hb S
  obtain ⟨hb, h0, h1, h2, h3, h4, h5, h6, h7, h8, h9⟩ := hb
  refine mj_ofB _ _ rfl rfl rfl ?_
  repeat' first
    | refine mj_auto3 [] 80 rfl ?_
    | refine mj_if rfl rfl (fun c1 => ?_) (fun c1 => ?_)
    | refine fm_gR (by with_reducible assumption) rfl rfl rfl ?_
    | refine fm_gI (by with_reducible assumption) rfl rfl rfl ?_
    | refine fm_ld (by with_reducible assumption) rfl (by with_reducible assumption) ?_
    | refine fm_st (by with_reducible assumption) rfl (by with_reducible assumption) ?_
    | refine fm_pI (by with_reducible assumption) rfl rfl rfl rfl ?_
    | refine mj_cvB (k1 ..) (fm_o (by with_reducible assumption)) rfl rfl rfl rfl rfl ⟨rfl, rfl⟩ rfl ?_
    | refine mj_rt rfl rfl rfl ⟨?_, by with_reducible rfl⟩
    | refine mj_rt rfl rfl rfl ⟨?_, ?_⟩
    | refine mj_rtl rfl rfl ⟨?_, by with_reducible rfl⟩
    | refine mj_rtl rfl rfl ⟨?_, ?_⟩
    | refine mj_rtv rfl rfl ⟨rfl, by with_reducible rfl⟩
    | refine mj_rtv rfl rfl ⟨rfl, ?_⟩
  all_goals simp [wd_tpA, wd_tpM, *]
def wd_teA (M : Nat → Nat → Int32) (b : Nat) (t : Int32) : Int32 := if ¬ wd_there M b t = 0 then 1 - M (b + 5) t.toNatClampNeg else -1
def wd_teM (M : Nat → Nat → Int32) (b : Nat) (t : Int32) : Nat → Nat → Int32 := if ¬ wd_there M b t = 0 then fm_u M (b + 5) t.toNatClampNeg (1 - M (b + 5) t.toNatClampNeg) else M
set_option maxRecDepth 20000 in
theorem t_turnEarly {b : Nat} (hb : fm_W b) (S : fm_S) (t : Int32) : mj_big 2 68 [.ref b, .int t] (fm_mk S) (some (.int (wd_teA S.1 b t))) (fm_mk (wd_teM S.1 b t, S.2)) := by
  have k1 := t_isThere hb S t
  obtain ⟨hb, h0, h1, h2, h3, h4, h5, h6, h7, h8, h9⟩ := hb
  refine mj_ofB _ _ rfl rfl rfl ?_
  repeat' first
    | refine mj_auto2 [] 80 rfl ?_
    | refine mj_if rfl rfl (fun c1 => ?_) (fun c1 => ?_)
    | refine fm_gR (by with_reducible assumption) rfl rfl rfl ?_
    | refine fm_gI (by with_reducible assumption) rfl rfl rfl ?_
    | refine fm_ld (by with_reducible assumption) rfl (wd_there_in (by assumption)) ?_
    | refine fm_st (by with_reducible assumption) rfl (wd_there_in (by assumption)) ?_
    | refine fm_pI (by with_reducible assumption) rfl rfl rfl rfl ?_
    | refine mj_cvB (k1 ..) (fm_o (by with_reducible assumption)) rfl rfl rfl rfl rfl ⟨rfl, rfl⟩ rfl ?_
    | refine mj_rt rfl rfl rfl ⟨?_, by with_reducible rfl⟩
    | refine mj_rt rfl rfl rfl ⟨?_, ?_⟩
    | refine mj_rtl rfl rfl ⟨?_, by with_reducible rfl⟩
    | refine mj_rtl rfl rfl ⟨?_, ?_⟩
    | refine mj_rtv rfl rfl ⟨rfl, by with_reducible rfl⟩
    | refine mj_rtv rfl rfl ⟨rfl, ?_⟩
  all_goals simp [wd_teA, wd_teM, fm_u_at, *]
def wd_lgM' (M : Nat → Nat → Int32) (b : Nat) (t : Int32) : Nat → Nat → Int32 := fm_u (fm_u M (b + 2) t.toNatClampNeg 0) (b + 3) t.toNatClampNeg 0
def wd_lgA (M : Nat → Nat → Int32) (b : Nat) (t : Int32) : Int32 := if ¬ wd_there M b t = 0 then (if wd_mlf M b t.toNatClampNeg ≤ M b 11 then jd_bc (wd_thereSet (wd_lgM' M b t) b 8) else -3) else -1
def wd_lgM (M : Nat → Nat → Int32) (b : Nat) (t : Int32) : Nat → Nat → Int32 := if ¬ wd_there M b t = 0 then (if wd_mlf M b t.toNatClampNeg ≤ M b 11 then wd_lgM' M b t else M) else M
theorem in8_lt {t : Int32} (h : vp_in t 8) : t.toNatClampNeg < 8 := Nat.not_le.mp fun q => h (Or.inr q)
set_option maxRecDepth 20000 in
theorem t_letGo {b : Nat} (hb : fm_W b) (S : fm_S) (hbd : wd_bd S.1 b) (t : Int32) : mj_big 5 66 [.ref b, .int t] (fm_mk S) (some (.int (wd_lgA S.1 b t))) (fm_mk (wd_lgM S.1 b t, S.2)) := by
  have k1 := t_isThere hb S t
  have k2 := t_mayLeaveFrom hb S t
  have k3 := fun M' => t_thereSet hb (M', S.2)
  obtain ⟨hb, h0, h1, h2, h3, h4, h5, h6, h7, h8, h9⟩ := hb
  refine mj_ofB _ _ rfl rfl rfl ?_
  refine mj_auto2 [] 50 rfl ?_
  refine mj_cvB k1 (fm_o hb) rfl rfl rfl rfl rfl ⟨rfl, rfl⟩ rfl ?_
  refine mj_if rfl rfl (fun c1 => ?_) (fun c1 => ?_)
  · have ht := wd_there_in c1
    have q := hbd _ (in8_lt ht)
    have k2 := k2 ht q.1 q.2.2.1 (by omega)
    repeat' first
      | refine mj_auto2 [] 80 rfl ?_
      | refine mj_if rfl rfl (fun c1 => ?_) (fun c1 => ?_)
      | refine fm_gR (by with_reducible assumption) rfl rfl rfl ?_
      | refine fm_gI (by with_reducible assumption) rfl rfl rfl ?_
      | refine fm_ld (by with_reducible assumption) rfl (by with_reducible assumption) ?_
      | refine fm_st (by with_reducible assumption) rfl (by with_reducible assumption) ?_
      | refine fm_pI (by with_reducible assumption) rfl rfl rfl rfl ?_
      | refine mj_cvB (k2 ..) (fm_o (by with_reducible assumption)) rfl rfl rfl rfl rfl ⟨rfl, rfl⟩ rfl ?_
      | refine mj_cvB (k3 ..) (fm_o (by with_reducible assumption)) rfl rfl rfl rfl rfl ⟨rfl, rfl⟩ rfl ?_
      | refine mj_csB (t_bitCount ..) rfl rfl rfl rfl rfl rfl rfl ?_
      | refine mj_rt rfl rfl rfl ⟨?_, by with_reducible rfl⟩
      | refine mj_rt rfl rfl rfl ⟨?_, ?_⟩
      | refine mj_rtl rfl rfl ⟨?_, by with_reducible rfl⟩
      | refine mj_rtl rfl rfl ⟨?_, ?_⟩
      | refine mj_rtv rfl rfl ⟨rfl, by with_reducible rfl⟩
      | refine mj_rtv rfl rfl ⟨rfl, ?_⟩
    all_goals simp [wd_lgA, wd_lgM, wd_lgM', *]
  · repeat' first
      | refine mj_auto2 [] 80 rfl ?_
      | refine mj_if rfl rfl (fun c1 => ?_) (fun c1 => ?_)
      | refine fm_gR (by with_reducible assumption) rfl rfl rfl ?_
      | refine fm_gI (by with_reducible assumption) rfl rfl rfl ?_
      | refine fm_ld (by with_reducible assumption) rfl (by with_reducible assumption) ?_
      | refine fm_st (by with_reducible assumption) rfl (by with_reducible assumption) ?_
      | refine fm_pI (by with_reducible assumption) rfl rfl rfl rfl ?_
      | refine mj_rt rfl rfl rfl ⟨?_, by with_reducible rfl⟩
      | refine mj_rt rfl rfl rfl ⟨?_, ?_⟩
      | refine mj_rtl rfl rfl ⟨?_, by with_reducible rfl⟩
      | refine mj_rtl rfl rfl ⟨?_, ?_⟩
      | refine mj_rtv rfl rfl ⟨rfl, by with_reducible rfl⟩
      | refine mj_rtv rfl rfl ⟨rfl, ?_⟩
    all_goals simp [wd_lgA, wd_lgM, wd_lgM', *]
def wd_entM (M : Nat → Nat → Int32) (b t : Nat) (e p ea : Int32) : Nat → Nat → Int32 := wd_look (fm_u (fm_u (fm_u (fm_u (fm_u (fm_u M (b + 1) t e) (b + 2) t p) (b + 3) t (e * (27720 / p))) (b + 4) t (M b 11)) (b + 5) t ea) (b + 6) t 0) b t
set_option maxRecDepth 20000 in
theorem t_enter {b : Nat} (hb : fm_W b) (S : fm_S) (t e p ea : Int32) (ht : vp_in t 8) (he : 0 ≤ e.toInt ∧ e.toInt ≤ 100) (hp : 1 ≤ p) : mj_big 4 53 [.ref b, .int t, .int e, .int p, .int ea] (fm_mk S) none (fm_mk (wd_entM S.1 b t.toNatClampNeg e p ea, S.2)) := by
  have k1 := fun M' => t_lookAtNext hb (M', S.2) t ht
  obtain ⟨hb, h0, h1, h2, h3, h4, h5, h6, h7, h8, h9⟩ := hb
  have hp0 : ¬ p = 0 := fun q => by rw [q] at hp; exact absurd hp (by decide)
  have ht0 : ¬ t < 0 := fun q => ht (Or.inl q)
  have ht8 : ¬ 8 ≤ t := fun q => ht (Or.inr (by
    rw [Int32.le_iff_toInt_le] at q
    have h3 : (8 : Int32).toInt = 8 := rfl
    have h4 : t.toNatClampNeg = t.toInt.toNat := rfl
    omega))
  refine mj_ofB _ _ rfl rfl rfl ?_
  refine mj_auto5 [] 50 rfl ?_
  refine mj_if rfl rfl (fun c1 => absurd c1 ht0) (fun c1 => ?_)
  refine mj_auto5 [] 50 rfl ?_
  refine mj_if rfl rfl (fun c2 => absurd c2 ht8) (fun c2 => ?_)
  refine mj_auto5 [] 50 rfl ?_
  refine mj_if rfl rfl (fun c3 => ?_) (fun c3 => absurd hp c3)
  repeat' first
    | refine mj_auto5 [] 80 rfl ?_
    | refine mj_if rfl rfl (fun c1 => ?_) (fun c1 => ?_)
    | refine fm_gR (by with_reducible assumption) rfl rfl rfl ?_
    | refine fm_gI (by with_reducible assumption) rfl rfl rfl ?_
    | refine fm_ld (by with_reducible assumption) rfl (by with_reducible assumption) ?_
    | refine fm_st (by with_reducible assumption) rfl (by with_reducible assumption) ?_
    | refine fm_pI (by with_reducible assumption) rfl rfl rfl rfl ?_
    | refine mj_div rfl rfl (by assumption) ?_
  dsimp only
  rw [fm_u_off (by omega), fm_u_off (by omega), fm_u_off (by omega)]
  have k2 := k1 (fm_u (fm_u (fm_u (fm_u (fm_u (fm_u S.1 (b + 1) t.toNatClampNeg e) (b + 2) t.toNatClampNeg p) (b + 3) t.toNatClampNeg (e * (27720 / p))) (b + 4) t.toNatClampNeg (S.1 b 11)) (b + 5) t.toNatClampNeg ea) (b + 6) t.toNatClampNeg 0)
    (by dsimp only; rw [fm_u_off (by omega), fm_u_off (by omega), fm_u_off (by omega), fm_u_off (by omega), fm_u_off (by omega), fm_u_at]; exact he.1)
    (by dsimp only; rw [fm_u_at]; decide)
    (by dsimp only; rw [fm_u_at, fm_u_off (by omega), fm_u_off (by omega), fm_u_off (by omega), fm_u_off (by omega), fm_u_off (by omega), fm_u_at]; have : (0 + 1 : Int32).toInt = 1 := rfl; omega)
  refine mj_cvB k2 (fm_o hb) rfl rfl rfl rfl rfl ⟨rfl, rfl⟩ rfl ?_
  exact mj_rtv rfl rfl ⟨rfl, rfl⟩
def wd_cl (M : Nat → Nat → Int32) (b p q : Nat) : Int32 := jd_lcmp ((wd_lag M b p).toInt64 * (M (b + 2) q).toInt64) ((wd_lag M b q).toInt64 * (M (b + 2) p).toInt64)
set_option maxRecDepth 20000 in
theorem t_compareLags {b : Nat} (hb : fm_W b) (S : fm_S) (p q : Int32) (hp : vp_in p 8) (hq : vp_in q 8) : mj_big 2 72 [.ref b, .int p, .int q] (fm_mk S) (some (.int (wd_cl S.1 b p.toNatClampNeg q.toNatClampNeg))) (fm_mk S) := by
  have k1 := t_lagUpper hb S p hp
  have k2 := t_lagUpper hb S q hq
  obtain ⟨hb, h0, h1, h2, h3, h4, h5, h6, h7, h8, h9⟩ := hb
  refine mj_ofB _ _ rfl rfl rfl ?_
  repeat' first
    | refine mj_auto7 [] 80 rfl ?_
    | refine mj_if rfl rfl (fun c1 => ?_) (fun c1 => ?_)
    | refine fm_gR (by with_reducible assumption) rfl rfl rfl ?_
    | refine fm_gI (by with_reducible assumption) rfl rfl rfl ?_
    | refine fm_ld (by with_reducible assumption) rfl (by with_reducible assumption) ?_
    | refine fm_st (by with_reducible assumption) rfl (by with_reducible assumption) ?_
    | refine fm_pI (by with_reducible assumption) rfl rfl rfl rfl ?_
    | refine mj_cvB (k1 ..) (fm_o (by with_reducible assumption)) rfl rfl rfl rfl rfl ⟨rfl, rfl⟩ rfl ?_
    | refine mj_cvB (k2 ..) (fm_o (by with_reducible assumption)) rfl rfl rfl rfl rfl ⟨rfl, rfl⟩ rfl ?_
    | refine mj_csB (t_lcmp ..) rfl rfl rfl rfl rfl rfl rfl ?_
    | refine mj_rt rfl rfl rfl ⟨?_, by with_reducible rfl⟩
    | refine mj_rt rfl rfl rfl ⟨?_, ?_⟩
    | refine mj_rtl rfl rfl ⟨?_, by with_reducible rfl⟩
    | refine mj_rtl rfl rfl ⟨?_, ?_⟩
    | refine mj_rtv rfl rfl ⟨rfl, by with_reducible rfl⟩
    | refine mj_rtv rfl rfl ⟨rfl, ?_⟩
  all_goals rfl
def wd_hl (M : Nat → Nat → Int32) (b o : Nat) : Nat → Nat → Int32
  | 0, _ => 1
  | n + 1, k => if wd_there M b (nI k) = 0 then wd_hl M b o n (k + 1) else if wd_lag M b k = wd_lag M o k then wd_hl M b o n (k + 1) else 0
set_option maxRecDepth 20000 in
theorem t_hasLagsOf {b o : Nat} (hb : fm_W b) (ho : fm_W o) (S : fm_S) : mj_big 2 73 [.ref b, .ref o] (fm_mk S) (some (.int (wd_hl S.1 b o 8 0))) (fm_mk S) := by
  have k1 := t_isThere hb S
  have k2 := fun k hk => t_lagUpper hb S (nI k) (nI8_in k hk)
  have k3 := fun k hk => t_lagUpper ho S (nI k) (nI8_in k hk)
  obtain ⟨hb, h0, h1, h2, h3, h4, h5, h6, h7, h8, h9⟩ := hb
  obtain ⟨ho, o0, o1, o2, o3, o4, o5, o6, o7, o8, o9⟩ := ho
  refine mj_ofB _ _ rfl rfl rfl ?_
  have lp : ∀ (n k : Nat), k + n = 8 → mj_Rn 1 (some .boolean) kX9_hasLagsOf (fun v g => v = some (.int (wd_hl S.1 b o n k)) ∧ g = fm_mk S) (fm_mk S) 2 [some (.ref b), some (.ref o), some (.int (nI k))] [] := by
    intro n
    induction n with
    | zero =>
      intro k  hk
      obtain rfl : k = 8 := by omega
      refine mj_begin3 [2] 80 rfl ?_
      refine mj_if rfl rfl (fun c1 => ?_) (fun c1 => absurd (by decide) c1)
      repeat' first
        | refine mj_auto3 [2] 80 rfl ?_
        | refine mj_if rfl rfl (fun c1 => ?_) (fun c1 => ?_)
        | refine fm_gR (by with_reducible assumption) rfl rfl rfl ?_
        | refine fm_gI (by with_reducible assumption) rfl rfl rfl ?_
        | refine fm_ld (by with_reducible assumption) rfl (by with_reducible assumption) ?_
        | refine fm_st (by with_reducible assumption) rfl (by with_reducible assumption) ?_
        | refine fm_pI (by with_reducible assumption) rfl rfl rfl rfl ?_
        | refine mj_rt rfl rfl rfl ⟨?_, by with_reducible rfl⟩
        | refine mj_rt rfl rfl rfl ⟨?_, ?_⟩
        | refine mj_rtl rfl rfl ⟨?_, by with_reducible rfl⟩
        | refine mj_rtl rfl rfl ⟨?_, ?_⟩
        | refine mj_rtv rfl rfl ⟨rfl, by with_reducible rfl⟩
        | refine mj_rtv rfl rfl ⟨rfl, ?_⟩
      all_goals first | rfl | (simp [wd_hl])
    | succ n ih =>
      intro k  hk
      have hk8 : k < 8 := by omega
      have e1 := nI8_lt k hk8
      have e2 := nI8_in k hk8
      have e3 := nI8_tn k hk8
      have k2 := k2 k hk8
      have k3 := k3 k hk8
      rw [e3] at k2 k3
      have ih := ih (k + 1) (by omega)
      rw [← nI_1] at ih
      refine mj_begin3 [2] 80 rfl ?_
      repeat' first
        | refine mj_auto3 [2] 80 rfl ?_
        | refine mj_if rfl rfl (fun c1 => ?_) (fun c1 => ?_)
        | refine fm_gR (by with_reducible assumption) rfl rfl rfl ?_
        | refine fm_gI (by with_reducible assumption) rfl rfl rfl ?_
        | refine fm_ld (by with_reducible assumption) rfl (by with_reducible assumption) ?_
        | refine fm_st (by with_reducible assumption) rfl (by with_reducible assumption) ?_
        | refine fm_pI (by with_reducible assumption) rfl rfl rfl rfl ?_
        | refine mj_cvB (k1 ..) (fm_o (by with_reducible assumption)) rfl rfl rfl rfl rfl ⟨rfl, rfl⟩ rfl ?_
        | refine mj_cvB (k2 ..) (fm_o (by with_reducible assumption)) rfl rfl rfl rfl rfl ⟨rfl, rfl⟩ rfl ?_
        | refine mj_cvB (k3 ..) (fm_o (by with_reducible assumption)) rfl rfl rfl rfl rfl ⟨rfl, rfl⟩ rfl ?_
      all_goals first
        | exact absurd (by assumption) e1
        | (rw [e3] at *; refine mj_rt rfl rfl rfl ⟨?_, rfl⟩; simp [wd_hl, *]; done)
        | (refine mj_rt rfl rfl rfl ⟨?_, rfl⟩; simp [wd_hl, *]; done)
        | (rw [e3] at *; simp only [wd_hl, if_pos, if_neg, *, not_false_eq_true] at ih ⊢ <;> exact ih)
        | (rw [e3] at *; rw [wd_hl] at ih; (repeat' split at ih) <;> first | exact ih | contradiction)
        | (rw [wd_hl] at ih; (repeat' split at ih) <;> first | exact ih | contradiction)
  refine mj_auto3 [2] 50 rfl ?_
  exact lp 8 0 rfl
