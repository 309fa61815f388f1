theorem in8 {t : Int32} (h1 : ¬ t < 0) (h2 : ¬ 8 ≤ t) : vp_in t 8 := by
  rw [Int32.lt_iff_toInt_lt] at h1
  rw [Int32.le_iff_toInt_le] at h2
  have h3 : (8 : Int32).toInt = 8 := rfl
  have h4 : (0 : Int32).toInt = 0 := rfl
  exact in_of (by omega) (by omega)
def wd_there (M : Nat → Nat → Int32) (b : Nat) (t : Int32) : Int32 := if t < 0 then 0 else if 8 ≤ t then 0 else if M (b + 2) t.toNatClampNeg ≤ 0 then 0 else 1
set_option maxRecDepth 20000 in
theorem t_isThere {b : Nat} (hb : fm_W b) (S : fm_S) (t : Int32) : mj_big 1 49 [.ref b, .int t] (fm_mk S) (some (.int (wd_there S.1 b t))) (fm_mk S) := by
  obtain ⟨hb, h0, h1, h2, h3, h4, h5, h6, h7, h8, h9⟩ := hb
  refine mj_ofB _ _ rfl rfl rfl ?_
  repeat' first
    | refine mj_auto2 [] 80 rfl ?_
    | refine mj_if rfl rfl (fun c1 => ?_) (fun c1 => ?_)
    | refine fm_gR (by with_reducible assumption) rfl rfl rfl ?_
    | refine fm_gI (by with_reducible assumption) rfl rfl rfl ?_
    | refine fm_ld (by with_reducible assumption) rfl (in8 (by assumption) (by assumption)) ?_
    | refine fm_st (by with_reducible assumption) rfl (in8 (by assumption) (by assumption)) ?_
    | refine fm_pI (by with_reducible assumption) rfl rfl rfl rfl ?_
    | refine mj_rt rfl rfl rfl ⟨?_, by with_reducible rfl⟩
    | refine mj_rt rfl rfl rfl ⟨?_, ?_⟩
    | refine mj_rtl rfl rfl ⟨?_, by with_reducible rfl⟩
    | refine mj_rtl rfl rfl ⟨?_, ?_⟩
    | refine mj_rtv rfl rfl ⟨rfl, by with_reducible rfl⟩
    | refine mj_rtv rfl rfl ⟨rfl, ?_⟩
  all_goals simp [wd_there, *]
theorem wd_there_nI {M : Nat → Nat → Int32} {b k : Nat} (hk : k < 8) : wd_there M b (nI k) = if M (b + 2) k ≤ 0 then 0 else 1 := by
  rw [wd_there, if_neg (nI_pos (by omega)), if_neg (nI8_lt k hk), nI8_tn k hk]
def wd_thereSet (M : Nat → Nat → Int32) (b : Nat) : Nat → Int32
  | 0 => 0
  | k + 1 => if M (b + 2) k ≤ 0 then wd_thereSet M b k else wd_thereSet M b k ||| 1 <<< (nI k &&& 31)
set_option maxRecDepth 20000 in
theorem t_thereSet {b : Nat} (hb : fm_W b) (S : fm_S) : mj_big 1 50 [.ref b] (fm_mk S) (some (.int (wd_thereSet S.1 b 8))) (fm_mk S) := by
  obtain ⟨hb, h0, h1, h2, h3, h4, h5, h6, h7, h8, h9⟩ := hb
  refine mj_ofB _ _ rfl rfl rfl ?_
  obtain ⟨res, hres⟩ : ∃ z9, z9 = wd_thereSet S.1 b 8 := ⟨_, rfl⟩
  rw [← hres]
  have lp : ∀ (n k : Nat), k + n = 8 → mj_Rn 0 (some .int) kX9_thereSet (fun v g => v = some (.int res) ∧ g = fm_mk S) (fm_mk S) 4 [some (.ref b), some (.int (wd_thereSet S.1 b k)), some (.int (nI k))] [] := by
    intro n
    induction n with
    | zero =>
      intro k  hk
      obtain rfl : k = 8 := by omega
      refine mj_begin3 [4] 80 rfl ?_
      refine mj_if rfl rfl (fun c1 => ?_) (fun c1 => absurd (by decide) c1)
      repeat' first
        | refine mj_auto3 [4] 80 rfl ?_
        | refine mj_if rfl rfl (fun c1 => ?_) (fun c1 => ?_)
        | refine fm_gR (by with_reducible assumption) rfl rfl rfl ?_
        | refine fm_gI (by with_reducible assumption) rfl rfl rfl ?_
        | refine fm_ld (by with_reducible assumption) rfl (by with_reducible assumption) ?_
        | refine fm_st (by with_reducible assumption) rfl (by with_reducible assumption) ?_
        | refine fm_pI (by with_reducible assumption) rfl rfl rfl rfl ?_
        | refine mj_rt rfl rfl rfl ⟨?_, by with_reducible rfl⟩
        | refine mj_rt rfl rfl rfl ⟨?_, ?_⟩
        | refine mj_rtl rfl rfl ⟨?_, by with_reducible rfl⟩
        | refine mj_rtl rfl rfl ⟨?_, ?_⟩
        | refine mj_rtv rfl rfl ⟨rfl, by with_reducible rfl⟩
        | refine mj_rtv rfl rfl ⟨rfl, ?_⟩
      all_goals first | rfl | (rw [hres]; done) | (simp [wd_thereSet])
    | succ n ih =>
      intro k  hk
      clear hres
      have hk8 : k < 8 := by omega
      have e1 := nI8_lt k hk8
      have e2 := nI8_in k hk8
      have e3 := nI8_tn k hk8
      have ih := ih (k + 1) (by omega)
      rw [← nI_1] at ih
      refine mj_begin3 [4] 80 rfl ?_
      repeat' first
        | refine mj_auto3 [4] 80 rfl ?_
        | refine mj_if rfl rfl (fun c1 => ?_) (fun c1 => ?_)
        | refine fm_gR (by with_reducible assumption) rfl rfl rfl ?_
        | refine fm_gI (by with_reducible assumption) rfl rfl rfl ?_
        | refine fm_ld (by with_reducible assumption) rfl (by with_reducible assumption) ?_
        | refine fm_st (by with_reducible assumption) rfl (by with_reducible assumption) ?_
        | refine fm_pI (by with_reducible assumption) rfl rfl rfl rfl ?_
      all_goals first
        | exact absurd (by assumption) e1
        | (rw [e3] at *; simp only [wd_thereSet, if_pos, if_neg, *, not_false_eq_true] at ih; exact ih)
        | (rw [e3] at *; rw [wd_thereSet] at ih; (repeat' split at ih) <;> first | exact ih | contradiction)
        | (rw [wd_thereSet] at ih; (repeat' split at ih) <;> first | exact ih | contradiction)
  refine mj_auto3 [4] 50 rfl ?_
  exact lp 8 0 rfl
def wd_lf (M : Nat → Nat → Int32) (b : Nat) : Nat → Nat → Int32
  | 0, _ => -1
  | n + 1, k => if 0 < M (b + 2) k then wd_lf M b n (k + 1) else nI k
set_option maxRecDepth 20000 in
theorem t_leastFree {b : Nat} (hb : fm_W b) (S : fm_S) : mj_big 1 51 [.ref b] (fm_mk S) (some (.int (wd_lf S.1 b 8 0))) (fm_mk S) := by
  obtain ⟨hb, h0, h1, h2, h3, h4, h5, h6, h7, h8, h9⟩ := hb
  refine mj_ofB _ _ rfl rfl rfl ?_
  have lp : ∀ (n k : Nat), k + n = 8 → mj_Rn 0 (some .int) kX9_leastFree (fun v g => v = some (.int (wd_lf S.1 b n k)) ∧ g = fm_mk S) (fm_mk S) 2 [some (.ref b), some (.int (nI k))] [] := by
    intro n
    induction n with
    | zero =>
      intro k  hk
      obtain rfl : k = 8 := by omega
      refine mj_begin2 [2] 80 rfl ?_
      refine mj_if rfl rfl (fun c1 => ?_) (fun c1 => absurd (by decide) c1)
      repeat' first
        | refine mj_auto2 [2] 80 rfl ?_
        | refine mj_if rfl rfl (fun c1 => ?_) (fun c1 => ?_)
        | refine fm_gR (by with_reducible assumption) rfl rfl rfl ?_
        | refine fm_gI (by with_reducible assumption) rfl rfl rfl ?_
        | refine fm_ld (by with_reducible assumption) rfl (by with_reducible assumption) ?_
        | refine fm_st (by with_reducible assumption) rfl (by with_reducible assumption) ?_
        | refine fm_pI (by with_reducible assumption) rfl rfl rfl rfl ?_
        | refine mj_rt rfl rfl rfl ⟨?_, by with_reducible rfl⟩
        | refine mj_rt rfl rfl rfl ⟨?_, ?_⟩
        | refine mj_rtl rfl rfl ⟨?_, by with_reducible rfl⟩
        | refine mj_rtl rfl rfl ⟨?_, ?_⟩
        | refine mj_rtv rfl rfl ⟨rfl, by with_reducible rfl⟩
        | refine mj_rtv rfl rfl ⟨rfl, ?_⟩
      all_goals first | rfl | (simp [wd_lf])
    | succ n ih =>
      intro k  hk
      have hk8 : k < 8 := by omega
      have e1 := nI8_lt k hk8
      have e2 := nI8_in k hk8
      have e3 := nI8_tn k hk8
      have ih := ih (k + 1) (by omega)
      rw [← nI_1] at ih
      refine mj_begin2 [2] 80 rfl ?_
      repeat' first
        | refine mj_auto2 [2] 80 rfl ?_
        | refine mj_if rfl rfl (fun c1 => ?_) (fun c1 => ?_)
        | refine fm_gR (by with_reducible assumption) rfl rfl rfl ?_
        | refine fm_gI (by with_reducible assumption) rfl rfl rfl ?_
        | refine fm_ld (by with_reducible assumption) rfl (by with_reducible assumption) ?_
        | refine fm_st (by with_reducible assumption) rfl (by with_reducible assumption) ?_
        | refine fm_pI (by with_reducible assumption) rfl rfl rfl rfl ?_
      all_goals first
        | exact absurd (by assumption) e1
        | (rw [e3] at *; refine mj_rt rfl rfl rfl ⟨?_, rfl⟩; simp [wd_lf, *]; done)
        | (refine mj_rt rfl rfl rfl ⟨?_, rfl⟩; simp [wd_lf, *]; done)
        | (rw [e3] at *; simp only [wd_lf, if_pos, if_neg, *, not_false_eq_true] at ih ⊢ <;> exact ih)
        | (rw [e3] at *; rw [wd_lf] at ih; (repeat' split at ih) <;> first | exact ih | contradiction)
        | (rw [wd_lf] at ih; (repeat' split at ih) <;> first | exact ih | contradiction)
  refine mj_auto2 [2] 50 rfl ?_
  exact lp 8 0 rfl
def wd_doa (M : Nat → Nat → Int32) (b : Nat) : Nat → Int32
  | 0 => 0
  | k + 1 => if M (b + 2) k ≤ 0 then wd_doa M b k else wd_doa M b k + M (b + 6) k
set_option maxRecDepth 20000 in
theorem t_doneOfAll {b : Nat} (hb : fm_W b) (S : fm_S) : mj_big 1 52 [.ref b] (fm_mk S) (some (.int (wd_doa S.1 b 8))) (fm_mk S) := by
  obtain ⟨hb, h0, h1, h2, h3, h4, h5, h6, h7, h8, h9⟩ := hb
  refine mj_ofB _ _ rfl rfl rfl ?_
  obtain ⟨res, hres⟩ : ∃ z9, z9 = wd_doa S.1 b 8 := ⟨_, rfl⟩
  rw [← hres]
  have lp : ∀ (n k : Nat), k + n = 8 → mj_Rn 0 (some .int) kX9_doneOfAll (fun v g => v = some (.int res) ∧ g = fm_mk S) (fm_mk S) 4 [some (.ref b), some (.int (wd_doa S.1 b k)), some (.int (nI k))] [] := by
    intro n
    induction n with
    | zero =>
      intro k  hk
      obtain rfl : k = 8 := by omega
      refine mj_begin3 [4] 80 rfl ?_
      refine mj_if rfl rfl (fun c1 => ?_) (fun c1 => absurd (by decide) c1)
      repeat' first
        | refine mj_auto3 [4] 80 rfl ?_
        | refine mj_if rfl rfl (fun c1 => ?_) (fun c1 => ?_)
        | refine fm_gR (by with_reducible assumption) rfl rfl rfl ?_
        | refine fm_gI (by with_reducible assumption) rfl rfl rfl ?_
        | refine fm_ld (by with_reducible assumption) rfl (by with_reducible assumption) ?_
        | refine fm_st (by with_reducible assumption) rfl (by with_reducible assumption) ?_
        | refine fm_pI (by with_reducible assumption) rfl rfl rfl rfl ?_
        | refine mj_rt rfl rfl rfl ⟨?_, by with_reducible rfl⟩
        | refine mj_rt rfl rfl rfl ⟨?_, ?_⟩
        | refine mj_rtl rfl rfl ⟨?_, by with_reducible rfl⟩
        | refine mj_rtl rfl rfl ⟨?_, ?_⟩
        | refine mj_rtv rfl rfl ⟨rfl, by with_reducible rfl⟩
        | refine mj_rtv rfl rfl ⟨rfl, ?_⟩
      all_goals first | rfl | (rw [hres]; done) | (simp [wd_doa])
    | succ n ih =>
      intro k  hk
      clear hres
      have hk8 : k < 8 := by omega
      have e1 := nI8_lt k hk8
      have e2 := nI8_in k hk8
      have e3 := nI8_tn k hk8
      have ih := ih (k + 1) (by omega)
      rw [← nI_1] at ih
      refine mj_begin3 [4] 80 rfl ?_
      repeat' first
        | refine mj_auto3 [4] 80 rfl ?_
        | refine mj_if rfl rfl (fun c1 => ?_) (fun c1 => ?_)
        | refine fm_gR (by with_reducible assumption) rfl rfl rfl ?_
        | refine fm_gI (by with_reducible assumption) rfl rfl rfl ?_
        | refine fm_ld (by with_reducible assumption) rfl (by with_reducible assumption) ?_
        | refine fm_st (by with_reducible assumption) rfl (by with_reducible assumption) ?_
        | refine fm_pI (by with_reducible assumption) rfl rfl rfl rfl ?_
      all_goals first
        | exact absurd (by assumption) e1
        | (rw [e3] at *; simp only [wd_doa, if_pos, if_neg, *, not_false_eq_true] at ih; exact ih)
        | (rw [e3] at *; rw [wd_doa] at ih; (repeat' split at ih) <;> first | exact ih | contradiction)
        | (rw [wd_doa] at ih; (repeat' split at ih) <;> first | exact ih | contradiction)
  refine mj_auto3 [4] 50 rfl ?_
  exact lp 8 0 rfl
def wd_ws (M : Nat → Nat → Int32) (b : Nat) : Nat → Int32
  | 0 => 0
  | k + 1 => wd_ws M b k + M (b + 3) k
set_option maxRecDepth 20000 in
theorem t_weightSum {b : Nat} (hb : fm_W b) (S : fm_S) : mj_big 1 69 [.ref b] (fm_mk S) (some (.int (wd_ws S.1 b 8))) (fm_mk S) := by
  obtain ⟨hb, h0, h1, h2, h3, h4, h5, h6, h7, h8, h9⟩ := hb
  refine mj_ofB _ _ rfl rfl rfl ?_
  obtain ⟨res, hres⟩ : ∃ z9, z9 = wd_ws S.1 b 8 := ⟨_, rfl⟩
  rw [← hres]
  have lp : ∀ (n k : Nat), k + n = 8 → mj_Rn 0 (some .int) kX9_weightSum (fun v g => v = some (.int res) ∧ g = fm_mk S) (fm_mk S) 4 [some (.ref b), some (.int (wd_ws S.1 b k)), some (.int (nI k))] [] := by
    intro n
    induction n with
    | zero =>
      intro k  hk
      obtain rfl : k = 8 := by omega
      refine mj_begin3 [4] 80 rfl ?_
      refine mj_if rfl rfl (fun c1 => ?_) (fun c1 => absurd (by decide) c1)
      repeat' first
        | refine mj_auto3 [4] 80 rfl ?_
        | refine mj_if rfl rfl (fun c1 => ?_) (fun c1 => ?_)
        | refine fm_gR (by with_reducible assumption) rfl rfl rfl ?_
        | refine fm_gI (by with_reducible assumption) rfl rfl rfl ?_
        | refine fm_ld (by with_reducible assumption) rfl (by with_reducible assumption) ?_
        | refine fm_st (by with_reducible assumption) rfl (by with_reducible assumption) ?_
        | refine fm_pI (by with_reducible assumption) rfl rfl rfl rfl ?_
        | refine mj_rt rfl rfl rfl ⟨?_, by with_reducible rfl⟩
        | refine mj_rt rfl rfl rfl ⟨?_, ?_⟩
        | refine mj_rtl rfl rfl ⟨?_, by with_reducible rfl⟩
        | refine mj_rtl rfl rfl ⟨?_, ?_⟩
        | refine mj_rtv rfl rfl ⟨rfl, by with_reducible rfl⟩
        | refine mj_rtv rfl rfl ⟨rfl, ?_⟩
      all_goals first | rfl | (rw [hres]; done) | (simp [wd_ws])
    | succ n ih =>
      intro k  hk
      clear hres
      have hk8 : k < 8 := by omega
      have e1 := nI8_lt k hk8
      have e2 := nI8_in k hk8
      have e3 := nI8_tn k hk8
      have ih := ih (k + 1) (by omega)
      rw [← nI_1] at ih
      refine mj_begin3 [4] 80 rfl ?_
      repeat' first
        | refine mj_auto3 [4] 80 rfl ?_
        | refine mj_if rfl rfl (fun c1 => ?_) (fun c1 => ?_)
        | refine fm_gR (by with_reducible assumption) rfl rfl rfl ?_
        | refine fm_gI (by with_reducible assumption) rfl rfl rfl ?_
        | refine fm_ld (by with_reducible assumption) rfl (by with_reducible assumption) ?_
        | refine fm_st (by with_reducible assumption) rfl (by with_reducible assumption) ?_
        | refine fm_pI (by with_reducible assumption) rfl rfl rfl rfl ?_
      all_goals first
        | exact absurd (by assumption) e1
        | (rw [e3] at *; simp only [wd_ws, if_pos, if_neg, *, not_false_eq_true] at ih; exact ih)
        | (rw [e3] at *; rw [wd_ws] at ih; (repeat' split at ih) <;> first | exact ih | contradiction)
        | (rw [wd_ws] at ih; (repeat' split at ih) <;> first | exact ih | contradiction)
  refine mj_auto3 [4] 50 rfl ?_
  exact lp 8 0 rfl
set_option maxRecDepth 20000 in
theorem t_releaseOf {b : Nat} (hb : fm_W b) (S : fm_S) (t i : Int32) (ht : vp_in t 8) : mj_big 2 55 [.ref b, .int t, .int i] (fm_mk S) (some (.int (S.1 (b + 4) t.toNatClampNeg + pt_rel (S.1 (b + 1) t.toNatClampNeg) (S.1 (b + 2) t.toNatClampNeg) i))) (fm_mk S) := by
  obtain ⟨hb, h0, h1, h2, h3, h4, h5, h6, h7, h8, h9⟩ := hb
  refine mj_ofB _ _ rfl rfl rfl ?_
  repeat' first
    | refine mj_auto3 [] 80 rfl ?_
    | refine mj_if rfl rfl (fun c1 => ?_) (fun c1 => ?_)
    | refine fm_gR (by with_reducible assumption) rfl rfl rfl ?_
    | refine fm_gI (by with_reducible assumption) rfl rfl rfl ?_
    | refine fm_ld (by with_reducible assumption) rfl (by with_reducible assumption) ?_
    | refine fm_st (by with_reducible assumption) rfl (by with_reducible assumption) ?_
    | refine fm_pI (by with_reducible assumption) rfl rfl rfl rfl ?_
    | refine mj_csB (t_release ..) rfl rfl rfl rfl rfl rfl rfl ?_
    | refine mj_rt rfl rfl rfl ⟨?_, by with_reducible rfl⟩
    | refine mj_rt rfl rfl rfl ⟨?_, ?_⟩
    | refine mj_rtl rfl rfl ⟨?_, by with_reducible rfl⟩
    | refine mj_rtl rfl rfl ⟨?_, ?_⟩
    | refine mj_rtv rfl rfl ⟨rfl, by with_reducible rfl⟩
    | refine mj_rtv rfl rfl ⟨rfl, ?_⟩
  all_goals rfl
set_option maxRecDepth 20000 in
theorem t_deadlineOf {b : Nat} (hb : fm_W b) (S : fm_S) (t i : Int32) (ht : vp_in t 8) : mj_big 2 56 [.ref b, .int t, .int i] (fm_mk S) (some (.int (S.1 (b + 4) t.toNatClampNeg + pt_dl (S.1 (b + 1) t.toNatClampNeg) (S.1 (b + 2) t.toNatClampNeg) i))) (fm_mk S) := by
  obtain ⟨hb, h0, h1, h2, h3, h4, h5, h6, h7, h8, h9⟩ := hb
  refine mj_ofB _ _ rfl rfl rfl ?_
  repeat' first
    | refine mj_auto3 [] 80 rfl ?_
    | refine mj_if rfl rfl (fun c1 => ?_) (fun c1 => ?_)
    | refine fm_gR (by with_reducible assumption) rfl rfl rfl ?_
    | refine fm_gI (by with_reducible assumption) rfl rfl rfl ?_
    | refine fm_ld (by with_reducible assumption) rfl (by with_reducible assumption) ?_
    | refine fm_st (by with_reducible assumption) rfl (by with_reducible assumption) ?_
    | refine fm_pI (by with_reducible assumption) rfl rfl rfl rfl ?_
    | refine mj_csB (t_deadline ..) rfl rfl rfl rfl rfl rfl rfl ?_
    | refine mj_rt rfl rfl rfl ⟨?_, by with_reducible rfl⟩
    | refine mj_rt rfl rfl rfl ⟨?_, ?_⟩
    | refine mj_rtl rfl rfl ⟨?_, by with_reducible rfl⟩
    | refine mj_rtl rfl rfl ⟨?_, ?_⟩
    | refine mj_rtv rfl rfl ⟨rfl, by with_reducible rfl⟩
    | refine mj_rtv rfl rfl ⟨rfl, ?_⟩
  all_goals rfl
set_option maxRecDepth 20000 in
theorem t_overlapOf {b : Nat} (hb : fm_W b) (S : fm_S) (t i : Int32) (ht : vp_in t 8) : mj_big 2 57 [.ref b, .int t, .int i] (fm_mk S) (some (.int (pt_ov (S.1 (b + 1) t.toNatClampNeg) (S.1 (b + 2) t.toNatClampNeg) i))) (fm_mk S) := by
  obtain ⟨hb, h0, h1, h2, h3, h4, h5, h6, h7, h8, h9⟩ := hb
  refine mj_ofB _ _ rfl rfl rfl ?_
  repeat' first
    | refine mj_auto3 [] 80 rfl ?_
    | refine mj_if rfl rfl (fun c1 => ?_) (fun c1 => ?_)
    | refine fm_gR (by with_reducible assumption) rfl rfl rfl ?_
    | refine fm_gI (by with_reducible assumption) rfl rfl rfl ?_
    | refine fm_ld (by with_reducible assumption) rfl (by with_reducible assumption) ?_
    | refine fm_st (by with_reducible assumption) rfl (by with_reducible assumption) ?_
    | refine fm_pI (by with_reducible assumption) rfl rfl rfl rfl ?_
    | refine mj_csB (t_overlap ..) rfl rfl rfl rfl rfl rfl rfl ?_
    | refine mj_rt rfl rfl rfl ⟨?_, by with_reducible rfl⟩
    | refine mj_rt rfl rfl rfl ⟨?_, ?_⟩
    | refine mj_rtl rfl rfl ⟨?_, by with_reducible rfl⟩
    | refine mj_rtl rfl rfl ⟨?_, ?_⟩
    | refine mj_rtv rfl rfl ⟨rfl, by with_reducible rfl⟩
    | refine mj_rtv rfl rfl ⟨rfl, ?_⟩
  all_goals rfl
def wd_gof (M : Nat → Nat → Int32) (b t : Nat) (i : Int32) : Int32 := if ¬ pt_gp (M (b + 1) t) (M (b + 2) t) i = 0 then M (b + 4) t + pt_gp (M (b + 1) t) (M (b + 2) t) i else 0
set_option maxRecDepth 20000 in
theorem t_groupOf {b : Nat} (hb : fm_W b) (S : fm_S) (t i : Int32) (ht : vp_in t 8) (he : 0 ≤ (S.1 (b + 1) t.toNatClampNeg).toInt) (hi : 0 ≤ i.toInt) (hi2 : i.toInt + (S.1 (b + 1) t.toNatClampNeg).toInt < 2 ^ 31) : mj_big 3 58 [.ref b, .int t, .int i] (fm_mk S) (some (.int (wd_gof S.1 b t.toNatClampNeg i))) (fm_mk S) := by
  obtain ⟨hb, h0, h1, h2, h3, h4, h5, h6, h7, h8, h9⟩ := hb
  have hg := fun h => t_group h (S.1 (b + 1) t.toNatClampNeg) (S.1 (b + 2) t.toNatClampNeg) i he hi hi2
  refine mj_ofB _ _ rfl rfl rfl ?_
  repeat' first
    | refine mj_auto4 [] 80 rfl ?_
    | refine mj_if rfl rfl (fun c1 => ?_) (fun c1 => ?_)
    | refine fm_gR (by with_reducible assumption) rfl rfl rfl ?_
    | refine fm_gI (by with_reducible assumption) rfl rfl rfl ?_
    | refine fm_ld (by with_reducible assumption) rfl (by with_reducible assumption) ?_
    | refine fm_st (by with_reducible assumption) rfl (by with_reducible assumption) ?_
    | refine fm_pI (by with_reducible assumption) rfl rfl rfl rfl ?_
    | refine mj_csB (hg ..) rfl rfl rfl rfl rfl rfl rfl ?_
    | refine mj_rt rfl rfl rfl ⟨?_, by with_reducible rfl⟩
    | refine mj_rt rfl rfl rfl ⟨?_, ?_⟩
    | refine mj_rtl rfl rfl ⟨?_, by with_reducible rfl⟩
    | refine mj_rtl rfl rfl ⟨?_, ?_⟩
    | refine mj_rtv rfl rfl ⟨rfl, by with_reducible rfl⟩
    | refine mj_rtv rfl rfl ⟨rfl, ?_⟩
  all_goals simp [wd_gof, *]
def wd_rdy (M : Nat → Nat → Int32) (b : Nat) (t : Int32) : Int32 := if wd_there M b t = 0 then 0 else if ¬ M (b + 5) t.toNatClampNeg = 0 then 1 else if M b 11 < M (b + 7) t.toNatClampNeg then 0 else 1
theorem wd_there_in {M : Nat → Nat → Int32} {b : Nat} {t : Int32} (h : ¬ wd_there M b t = 0) : vp_in t 8 := by
  unfold wd_there at h
  by_cases h1 : t < 0
  · rw [if_pos h1] at h; exact absurd rfl h
  · rw [if_neg h1] at h
    by_cases h2 : 8 ≤ t
    · rw [if_pos h2] at h; exact absurd rfl h
    · exact in8 h1 h2
set_option maxRecDepth 20000 in
theorem t_isReady {b : Nat} (hb : fm_W b) (S : fm_S) (t : Int32) : mj_big 2 59 [.ref b, .int t] (fm_mk S) (some (.int (wd_rdy S.1 b t))) (fm_mk S) := by
  have c_th := t_isThere hb
  obtain ⟨hb, h0, h1, h2, h3, h4, h5, h6, h7, h8, h9⟩ := hb
  refine mj_ofB _ _ rfl rfl rfl ?_
  repeat' first
    | refine mj_auto2 [] 80 rfl ?_
    | refine mj_if rfl rfl (fun c1 => ?_) (fun c1 => ?_)
    | refine fm_gR (by with_reducible assumption) rfl rfl rfl ?_
    | refine fm_gI (by with_reducible assumption) rfl rfl rfl ?_
    | refine fm_ld (by with_reducible assumption) rfl (wd_there_in (by assumption)) ?_
    | refine fm_st (by with_reducible assumption) rfl (wd_there_in (by assumption)) ?_
    | refine fm_pI (by with_reducible assumption) rfl rfl rfl rfl ?_
    | refine mj_cvB (c_th ..) (fm_o (by with_reducible assumption)) rfl rfl rfl rfl rfl ⟨rfl, rfl⟩ rfl ?_
    | refine mj_rt rfl rfl rfl ⟨?_, by with_reducible rfl⟩
    | refine mj_rt rfl rfl rfl ⟨?_, ?_⟩
    | refine mj_rtl rfl rfl ⟨?_, by with_reducible rfl⟩
    | refine mj_rtl rfl rfl ⟨?_, ?_⟩
    | refine mj_rtv rfl rfl ⟨rfl, by with_reducible rfl⟩
    | refine mj_rtv rfl rfl ⟨rfl, ?_⟩
  all_goals simp [wd_rdy, *]
def wd_run (M : Nat → Nat → Int32) (b : Nat) (t : Int32) : Int32 := if M b 13 >>> (t &&& 31) &&& 1 = 0 then 0 else 1
set_option maxRecDepth 20000 in
theorem t_hasRun {b : Nat} (hb : fm_W b) (S : fm_S) (t : Int32) : mj_big 1 60 [.ref b, .int t] (fm_mk S) (some (.int (wd_run S.1 b t))) (fm_mk S) := by
  obtain ⟨hb, h0, h1, h2, h3, h4, h5, h6, h7, h8, h9⟩ := hb
  refine mj_ofB _ _ rfl rfl rfl ?_
  repeat' first
    | refine mj_auto2 [] 80 rfl ?_
    | refine mj_if rfl rfl (fun c1 => ?_) (fun c1 => ?_)
    | refine fm_gR (by with_reducible assumption) rfl rfl rfl ?_
    | refine fm_gI (by with_reducible assumption) rfl rfl rfl ?_
    | refine fm_ld (by with_reducible assumption) rfl (by with_reducible assumption) ?_
    | refine fm_st (by with_reducible assumption) rfl (by with_reducible assumption) ?_
    | refine fm_pI (by with_reducible assumption) rfl rfl rfl rfl ?_
    | refine mj_rt rfl rfl rfl ⟨?_, by with_reducible rfl⟩
    | refine mj_rt rfl rfl rfl ⟨?_, ?_⟩
    | refine mj_rtl rfl rfl ⟨?_, by with_reducible rfl⟩
    | refine mj_rtl rfl rfl ⟨?_, ?_⟩
    | refine mj_rtv rfl rfl ⟨rfl, by with_reducible rfl⟩
    | refine mj_rtv rfl rfl ⟨rfl, ?_⟩
  all_goals simp [wd_run, *]
def wd_rset (M : Nat → Nat → Int32) (b : Nat) (t : Int32) : Nat → Int32
  | 0 => 0
  | k + 1 => if nI k = t then wd_rset M b t k else if wd_rdy M b (nI k) = 0 then wd_rset M b t k else wd_rset M b t k ||| 1 <<< (nI k &&& 31)
set_option maxRecDepth 20000 in
theorem t_readySet {b : Nat} (hb : fm_W b) (S : fm_S) (t : Int32) : mj_big 3 61 [.ref b, .int t] (fm_mk S) (some (.int (wd_rset S.1 b t 8))) (fm_mk S) := by
  have c_rd := t_isReady hb
  obtain ⟨hb, h0, h1, h2, h3, h4, h5, h6, h7, h8, h9⟩ := hb
  refine mj_ofB _ _ rfl rfl rfl ?_
  obtain ⟨res, hres⟩ : ∃ z9, z9 = wd_rset S.1 b t 8 := ⟨_, rfl⟩
  rw [← hres]
  have lp : ∀ (n k : Nat), k + n = 8 → mj_Rn 2 (some .int) kX9_readySet (fun v g => v = some (.int res) ∧ g = fm_mk S) (fm_mk S) 4 [some (.ref b), some (.int t), some (.int (wd_rset S.1 b t k)), some (.int (nI k))] [] := by
    intro n
    induction n with
    | zero =>
      intro k  hk
      obtain rfl : k = 8 := by omega
      refine mj_begin4 [4] 80 rfl ?_
      refine mj_if rfl rfl (fun c1 => ?_) (fun c1 => absurd (by decide) c1)
      repeat' first
        | refine mj_auto4 [4] 80 rfl ?_
        | refine mj_if rfl rfl (fun c1 => ?_) (fun c1 => ?_)
        | refine fm_gR (by with_reducible assumption) rfl rfl rfl ?_
        | refine fm_gI (by with_reducible assumption) rfl rfl rfl ?_
        | refine fm_ld (by with_reducible assumption) rfl (by with_reducible assumption) ?_
        | refine fm_st (by with_reducible assumption) rfl (by with_reducible assumption) ?_
        | refine fm_pI (by with_reducible assumption) rfl rfl rfl rfl ?_
        | refine mj_cvB (c_rd ..) (fm_o (by with_reducible assumption)) rfl rfl rfl rfl rfl ⟨rfl, rfl⟩ rfl ?_
        | refine mj_rt rfl rfl rfl ⟨?_, by with_reducible rfl⟩
        | refine mj_rt rfl rfl rfl ⟨?_, ?_⟩
        | refine mj_rtl rfl rfl ⟨?_, by with_reducible rfl⟩
        | refine mj_rtl rfl rfl ⟨?_, ?_⟩
        | refine mj_rtv rfl rfl ⟨rfl, by with_reducible rfl⟩
        | refine mj_rtv rfl rfl ⟨rfl, ?_⟩
      all_goals first | rfl | (rw [hres]; done) | (simp [wd_rset])
    | succ n ih =>
      intro k  hk
      clear hres
      have hk8 : k < 8 := by omega
      have e1 := nI8_lt k hk8
      have e2 := nI8_in k hk8
      have e3 := nI8_tn k hk8
      have ih := ih (k + 1) (by omega)
      rw [← nI_1] at ih
      refine mj_begin4 [4] 80 rfl ?_
      repeat' first
        | refine mj_auto4 [4] 80 rfl ?_
        | refine mj_if rfl rfl (fun c1 => ?_) (fun c1 => ?_)
        | refine fm_gR (by with_reducible assumption) rfl rfl rfl ?_
        | refine fm_gI (by with_reducible assumption) rfl rfl rfl ?_
        | refine fm_ld (by with_reducible assumption) rfl (by with_reducible assumption) ?_
        | refine fm_st (by with_reducible assumption) rfl (by with_reducible assumption) ?_
        | refine fm_pI (by with_reducible assumption) rfl rfl rfl rfl ?_
        | refine mj_cvB (c_rd ..) (fm_o (by with_reducible assumption)) rfl rfl rfl rfl rfl ⟨rfl, rfl⟩ rfl ?_
      all_goals first
        | exact absurd (by assumption) e1
        | (rw [e3] at *; simp only [wd_rset, if_pos, if_neg, *, not_false_eq_true] at ih; exact ih)
        | (rw [e3] at *; rw [wd_rset] at ih; (repeat' split at ih) <;> first | exact ih | contradiction)
        | (rw [wd_rset] at ih; (repeat' split at ih) <;> first | exact ih | contradiction)
  refine mj_auto4 [4] 50 rfl ?_
  exact lp 8 0 rfl
set_option maxRecDepth 20000 in
def wd_lag (M : Nat → Nat → Int32) (b t : Nat) : Int32 := (M b 11 - M (b + 4) t) * M (b + 1) t - M (b + 6) t * M (b + 2) t
set_option maxRecDepth 20000 in
theorem t_lagUpper {b : Nat} (hb : fm_W b) (S : fm_S) (t : Int32) (ht : vp_in t 8) : mj_big 1 71 [.ref b, .int t] (fm_mk S) (some (.int (wd_lag S.1 b t.toNatClampNeg))) (fm_mk S) := by
  obtain ⟨hb, h0, h1, h2, h3, h4, h5, h6, h7, h8, h9⟩ := hb
  refine mj_ofB _ _ rfl rfl rfl ?_
  repeat' first
    | refine mj_auto2 [] 80 rfl ?_
    | refine mj_if rfl rfl (fun c1 => ?_) (fun c1 => ?_)
    | refine fm_gR (by with_reducible assumption) rfl rfl rfl ?_
    | refine fm_gI (by with_reducible assumption) rfl rfl rfl ?_
    | refine fm_ld (by with_reducible assumption) rfl (by with_reducible assumption) ?_
    | refine fm_st (by with_reducible assumption) rfl (by with_reducible assumption) ?_
    | refine fm_pI (by with_reducible assumption) rfl rfl rfl rfl ?_
    | refine mj_rt rfl rfl rfl ⟨?_, by with_reducible rfl⟩
    | refine mj_rt rfl rfl rfl ⟨?_, ?_⟩
    | refine mj_rtl rfl rfl ⟨?_, by with_reducible rfl⟩
    | refine mj_rtl rfl rfl ⟨?_, ?_⟩
    | refine mj_rtv rfl rfl ⟨rfl, by with_reducible rfl⟩
    | refine mj_rtv rfl rfl ⟨rfl, ?_⟩
  all_goals rfl
