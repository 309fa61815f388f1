theorem in8 {t : Int32} (h1 : ¬ t < 0) (h2 : ¬ 8 ≤ t) : vp_in t 8 := by
  rw [Int32.lt_iff_toInt_lt] at h1
  rw [Int32.le_iff_toInt_le] at h2
  have h3 : (8 : Int32).toInt = 8 := rfl
  have h4 : (0 : Int32).toInt = 0 := rfl
  exact in_of (by omega) (by omega)
def wd_there (M : Nat → Nat → Int32) (b : Nat) (t : Int32) : Int32 := if t < 0 then 0 else if 8 ≤ t then 0 else if M (b + 2) t.toNatClampNeg ≤ 0 then 0 else 1
set_option maxRecDepth 20000 in
theorem t_isThere {b : Nat} (hb : fm_W b) (S : fm_S) (t : Int32) : mj_big 1 49 [.ref b, .int t] (fm_mk S) (some (.int (wd_there S.1 b t))) (fm_mk S) := by
  obtain ⟨hb, h0, h1, h2, h3, h4, h5, h6, h7, h8, h9⟩ := hb
  refine mj_ofB _ _ rfl rfl rfl ?_
  repeat' first
    | refine mj_auto [] 80 rfl ?_
    | refine mj_if rfl rfl (fun c1 => ?_) (fun c1 => ?_)
    | refine fm_gR (by assumption) rfl rfl rfl ?_
    | refine fm_gI (by assumption) rfl rfl rfl ?_
    | refine fm_ld (by assumption) rfl (in8 (by assumption) (by assumption)) ?_
    | refine fm_st (by assumption) rfl (in8 (by assumption) (by assumption)) ?_
    | refine fm_pI (by assumption) rfl rfl rfl rfl ?_
    | refine mj_rt rfl rfl rfl ⟨?_, rfl⟩
    | refine mj_rt rfl rfl rfl ⟨?_, ?_⟩
    | refine mj_rtl rfl rfl ⟨?_, rfl⟩
    | refine mj_rtl rfl rfl ⟨?_, ?_⟩
    | refine mj_rtv rfl rfl ⟨rfl, rfl⟩
    | refine mj_rtv rfl rfl ⟨rfl, ?_⟩
  all_goals simp [wd_there, *]
def wd_thereSet (M : Nat → Nat → Int32) (b : Nat) : Nat → Int32
  | 0 => 0
  | k + 1 => if M (b + 2) k ≤ 0 then wd_thereSet M b k else wd_thereSet M b k ||| 1 <<< (nI k &&& 31)
set_option maxRecDepth 20000 in
theorem t_thereSet {b : Nat} (hb : fm_W b) (S : fm_S) : mj_big 1 50 [.ref b] (fm_mk S) (some (.int (wd_thereSet S.1 b 8))) (fm_mk S) := by
  obtain ⟨hb, h0, h1, h2, h3, h4, h5, h6, h7, h8, h9⟩ := hb
  refine mj_ofB _ _ rfl rfl rfl ?_
  have lp : ∀ n k, k + n = 8 → mj_Rn 0 (some .int) kX9_thereSet (fun v g => v = some (.int (wd_thereSet S.1 b 8)) ∧ g = fm_mk S) (fm_mk S) 4 [some (.ref b), some (.int (wd_thereSet S.1 b k)), some (.int (nI k))] [] := by
    intro n
    induction n with
    | zero =>
      intro k hk
      obtain rfl : k = 8 := by omega
      refine mj_begin [4] 50 rfl ?_
      refine mj_if rfl rfl (fun c1 => ?_) (fun c1 => absurd (by decide) c1)
      refine mj_auto [4] 50 rfl ?_
      exact mj_rt rfl rfl rfl ⟨rfl, rfl⟩
    | succ n ih =>
      intro k hk
      have hk8 : k < 8 := by omega
      have e1 := nI8_lt k hk8
      have e2 := nI8_in k hk8
      have e3 := nI8_tn k hk8
      have ih := ih (k + 1) (by omega)
      rw [← nI_1] at ih
      refine mj_begin [4] 50 rfl ?_
      repeat' first
        | refine mj_auto [4] 80 rfl ?_
        | refine mj_if rfl rfl (fun c1 => ?_) (fun c1 => ?_)
        | refine fm_gR (by assumption) rfl rfl rfl ?_
        | refine fm_gI (by assumption) rfl rfl rfl ?_
        | refine fm_ld (by assumption) rfl (by assumption) ?_
        | refine fm_st (by assumption) rfl (by assumption) ?_
        | refine fm_pI (by assumption) rfl rfl rfl rfl ?_
      all_goals first
        | exact absurd (by assumption) e1
        | (rw [e3] at *; simp only [wd_thereSet, if_pos, if_neg, *, not_false_eq_true] at ih; exact ih)
  refine mj_auto [4] 50 rfl ?_
  exact lp 8 0 rfl
