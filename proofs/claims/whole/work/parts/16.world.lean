def wd_mlf (M : Nat → Nat → Int32) (b t : Nat) : Int32 := if ¬ M (b + 6) t = 0 then (if wd_gof M b t (M (b + 6) t) = 0 then M (b + 4) t + pt_dl (M (b + 1) t) (M (b + 2) t) (M (b + 6) t) + pt_ov (M (b + 1) t) (M (b + 2) t) (M (b + 6) t) else wd_gof M b t (M (b + 6) t)) else M b 11
set_option maxRecDepth 20000 in
theorem t_mayLeaveFrom {b : Nat} (hb : fm_W b) (S : fm_S) (t : Int32) (ht : vp_in t 8) (he : 0 ≤ (S.1 (b + 1) t.toNatClampNeg).toInt) (hi : 0 ≤ (S.1 (b + 6) t.toNatClampNeg).toInt) (hi2 : (S.1 (b + 6) t.toNatClampNeg).toInt + (S.1 (b + 1) t.toNatClampNeg).toInt < 2 ^ 31) : mj_big 4 67 [.ref b, .int t] (fm_mk S) (some (.int (wd_mlf S.1 b t.toNatClampNeg))) (fm_mk S) := by
  have k1 := t_groupOf hb S t (S.1 (b + 6) t.toNatClampNeg) ht he hi hi2
  have k2 := t_deadlineOf hb S t (S.1 (b + 6) t.toNatClampNeg) ht
  have k3 := t_overlapOf hb S t (S.1 (b + 6) t.toNatClampNeg) ht
  obtain ⟨hb, h0, h1, h2, h3, h4, h5, h6, h7, h8, h9⟩ := hb
  refine mj_ofB _ _ rfl rfl rfl ?_
  repeat' first
    | refine mj_auto4 [] 80 rfl ?_
    | refine mj_if rfl rfl (fun c1 => ?_) (fun c1 => ?_)
    | refine fm_gR (by with_reducible assumption) rfl rfl rfl ?_
    | refine fm_gI (by with_reducible assumption) rfl rfl rfl ?_
    | refine fm_ld (by with_reducible assumption) rfl (by with_reducible assumption) ?_
    | refine fm_st (by with_reducible assumption) rfl (by with_reducible assumption) ?_
    | refine fm_pI (by with_reducible assumption) rfl rfl rfl rfl ?_
    | refine mj_cvB (k1 ..) (fm_o (by with_reducible assumption)) rfl rfl rfl rfl rfl ⟨rfl, rfl⟩ rfl ?_
    | refine mj_cvB (k2 ..) (fm_o (by with_reducible assumption)) rfl rfl rfl rfl rfl ⟨rfl, rfl⟩ rfl ?_
    | refine mj_cvB (k3 ..) (fm_o (by with_reducible assumption)) rfl rfl rfl rfl rfl ⟨rfl, rfl⟩ rfl ?_
    | refine mj_rt rfl rfl rfl ⟨?_, by with_reducible rfl⟩
    | refine mj_rt rfl rfl rfl ⟨?_, ?_⟩
    | refine mj_rtl rfl rfl ⟨?_, by with_reducible rfl⟩
    | refine mj_rtl rfl rfl ⟨?_, ?_⟩
    | refine mj_rtv rfl rfl ⟨rfl, by with_reducible rfl⟩
    | refine mj_rtv rfl rfl ⟨rfl, ?_⟩
  all_goals simp [wd_mlf, *]
def wd_hv (M : Nat → Nat → Int32) (b : Nat) (s : Int32) : Nat → Int32
  | 0 => -1
  | k + 1 => if s >>> (nI k &&& 31) &&& 1 = 0 then wd_hv M b s k else if wd_hv M b s k = -1 then nI k else if M (b + 3) k ≤ M (b + 3) (wd_hv M b s k).toNatClampNeg then wd_hv M b s k else nI k
theorem wd_hv_in (M : Nat → Nat → Int32) (b : Nat) (s : Int32) : ∀ k, k ≤ 8 → wd_hv M b s k = -1 ∨ vp_in (wd_hv M b s k) 8 := by
  intro k
  induction k with
  | zero => intro _; exact Or.inl rfl
  | succ k ih =>
    intro hk
    have ih := ih (by omega)
    have e2 := nI8_in k (by omega)
    rw [wd_hv]
    split
    · exact ih
    · split
      · exact Or.inr e2
      · split
        · exact ih
        · exact Or.inr e2
set_option maxRecDepth 20000 in
theorem t_heaviestOf {b : Nat} (hb : fm_W b) (S : fm_S) (s : Int32) : mj_big 1 70 [.ref b, .int s] (fm_mk S) (some (.int (wd_hv S.1 b s 8))) (fm_mk S) := by
  obtain ⟨hb, h0, h1, h2, h3, h4, h5, h6, h7, h8, h9⟩ := hb
  refine mj_ofB _ _ rfl rfl rfl ?_
  obtain ⟨res, hres⟩ : ∃ z9, z9 = wd_hv S.1 b s 8 := ⟨_, rfl⟩
  rw [← hres]
  have lp : ∀ (n k : Nat) (u : Option Value), k + n = 8 → mj_Rn 0 (some .int) kX9_heaviestOf (fun v g => v = some (.int res) ∧ g = fm_mk S) (fm_mk S) 4 [some (.ref b), some (.int s), some (.int (wd_hv S.1 b s k)), some (.int (nI k)), u] [] := by
    intro n
    induction n with
    | zero =>
      intro k u hk
      obtain rfl : k = 8 := by omega
      refine mj_begin5 [4] 80 rfl ?_
      refine mj_if rfl rfl (fun c1 => ?_) (fun c1 => absurd (by decide) c1)
      repeat' first
        | refine mj_auto5 [4] 80 rfl ?_
        | refine mj_if rfl rfl (fun c1 => ?_) (fun c1 => ?_)
        | refine fm_gR (by with_reducible assumption) rfl rfl rfl ?_
        | refine fm_gI (by with_reducible assumption) rfl rfl rfl ?_
        | refine fm_ld (by with_reducible assumption) rfl ((by first | assumption | exact e4.resolve_left (by assumption))) ?_
        | refine fm_st (by with_reducible assumption) rfl ((by first | assumption | exact e4.resolve_left (by assumption))) ?_
        | refine fm_pI (by with_reducible assumption) rfl rfl rfl rfl ?_
        | refine mj_rt rfl rfl rfl ⟨?_, by with_reducible rfl⟩
        | refine mj_rt rfl rfl rfl ⟨?_, ?_⟩
        | refine mj_rtl rfl rfl ⟨?_, by with_reducible rfl⟩
        | refine mj_rtl rfl rfl ⟨?_, ?_⟩
        | refine mj_rtv rfl rfl ⟨rfl, by with_reducible rfl⟩
        | refine mj_rtv rfl rfl ⟨rfl, ?_⟩
      all_goals first | rfl | (rw [hres]; done) | (simp [wd_hv])
    | succ n ih =>
      intro k u hk
      clear hres
      have hk8 : k < 8 := by omega
      have e1 := nI8_lt k hk8
      have e2 := nI8_in k hk8
      have e3 := nI8_tn k hk8
      have e4 := wd_hv_in S.1 b s k (by omega)
      have ih := fun u => ih (k + 1) u (by omega)
      simp only [← nI_1] at ih
      refine mj_begin5 [4] 80 rfl ?_
      repeat' first
        | refine mj_auto5 [4] 80 rfl ?_
        | refine mj_if rfl rfl (fun c1 => ?_) (fun c1 => ?_)
        | refine fm_gR (by with_reducible assumption) rfl rfl rfl ?_
        | refine fm_gI (by with_reducible assumption) rfl rfl rfl ?_
        | refine fm_ld (by with_reducible assumption) rfl ((by first | assumption | exact e4.resolve_left (by assumption))) ?_
        | refine fm_st (by with_reducible assumption) rfl ((by first | assumption | exact e4.resolve_left (by assumption))) ?_
        | refine fm_pI (by with_reducible assumption) rfl rfl rfl rfl ?_
      all_goals first
        | exact absurd (by assumption) e1
        | (rw [e3] at *; simp only [wd_hv, if_pos, if_neg, *, not_false_eq_true] at ih; exact ih)
        | (rw [e3] at *; rw [wd_hv] at ih; (repeat' split at ih) <;> first | exact ih | contradiction)
        | (rw [wd_hv] at ih; (repeat' split at ih) <;> first | exact ih | contradiction)
        | (rw [e3] at *; have ih := ih (some (.int 0)); rw [wd_hv] at ih; (repeat' split at ih) <;> first | exact ih | contradiction)
        | (have ih := ih (some (.int 1)); rw [e3] at *; rw [wd_hv] at ih; (repeat' split at ih) <;> first | exact ih | contradiction)
  refine mj_auto5 [4] 50 rfl ?_
  exact lp 8 0 none rfl
