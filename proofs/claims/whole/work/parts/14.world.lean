section wdCopy
variable {d : Nat} {ty : Option FieldType} {cs : List mj_E} {Q : Option Value → mj_H → Prop} {S : fm_S} {pc : Nat} {L : mj_L} {ix nx a : Nat} {cv : Int32} {r : List Value}
theorem fm_cpy8 {a0 : Nat} (h0 : fm_sh a0 = .inl (0, 8)) (hs : fm_sh a = .inl (0, 8)) (h1 : mj_at cs pc = some (.invokestatic ix, nx, 9999, cv)) (hr : Nat.ble (r.map fun v => v.category).sum 8 = true) (kk : mj_Rn d ty cs Q (fm_mk (fm_row S.1 a (va_cpy (S.1 a0) (S.1 a) 0 0 8), S.2)) nx L r) : mj_Rn d ty cs Q (fm_mk S) pc L (.int 8 :: .int 0 :: .ref a :: .int 0 :: .ref a0 :: r) :=
  fm_cpy (k := 8) h0 hs (by decide) hr h1 kk
theorem fm_cpy5 {a0 : Nat} (h0 : fm_sh a0 = .inl (0, 5)) (hs : fm_sh a = .inl (0, 5)) (h1 : mj_at cs pc = some (.invokestatic ix, nx, 9999, cv)) (hr : Nat.ble (r.map fun v => v.category).sum 8 = true) (kk : mj_Rn d ty cs Q (fm_mk (fm_row S.1 a (va_cpy (S.1 a0) (S.1 a) 0 0 5), S.2)) nx L r) : mj_Rn d ty cs Q (fm_mk S) pc L (.int 5 :: .int 0 :: .ref a :: .int 0 :: .ref a0 :: r) :=
  fm_cpy (k := 5) h0 hs (by decide) hr h1 kk
end wdCopy
def wd_copy (M : Nat → Nat → Int32) (b o : Nat) : Nat → Nat → Int32 := fun a => if a = b then upd (upd (upd (M b) 10 (M o 10)) 11 (M o 11)) 12 (M o 12) else if b < a ∧ a ≤ b + 10 then va_cpy (M (o + (a - b))) (M a) 0 0 8 else M a
set_option maxRecDepth 20000 in
set_option maxHeartbeats 4000000 in
theorem t_copyFrom {b o : Nat} (hb : fm_W b) (ho : fm_W o) (hbo : b + 10 < o ∨ o + 10 < b) (S : fm_S) : mj_big 1 48 [.ref b, .ref o] (fm_mk S) none (fm_mk (wd_copy S.1 b o, S.2)) := by
  obtain ⟨hb, h0, h1, h2, h3, h4, h5, h6, h7, h8, h9⟩ := hb
  obtain ⟨ho, o0, o1, o2, o3, o4, o5, o6, o7, o8, o9⟩ := ho
  refine mj_ofB _ _ rfl rfl rfl ?_
  repeat' first
    | refine mj_auto [] 80 rfl ?_
    | refine fm_gR (by with_reducible assumption) rfl rfl rfl ?_
    | refine fm_gI (by with_reducible assumption) rfl rfl rfl ?_
    | refine fm_cpy8 (by with_reducible assumption) (by with_reducible assumption) rfl rfl ?_
    | refine fm_pI (by with_reducible assumption) rfl rfl rfl rfl ?_
    | refine mj_rtv rfl rfl ⟨rfl, ?_⟩
  refine congrArg fm_mk (Prod.ext ?_ rfl)
  funext a
  dsimp only [fm_u, fm_row, wd_copy]
  by_cases e0 : a = b
  · subst e0
    have q1 : ∀ j, 0 < j → ¬ a = a + j := fun j hj => by omega
    have q2 : ∀ j, 0 < j → j ≤ 10 → ¬ o = a + j := fun j _ _ => by omega
    have q3 : ¬ o = a := by omega
    simp [q1, q2, q3]
  · rw [if_neg e0, if_neg e0, if_neg e0, if_neg e0]
    by_cases e1 : b < a ∧ a ≤ b + 10
    · rw [if_pos e1]
      obtain ⟨j, hj⟩ : ∃ j, a = b + j := ⟨a - b, by omega⟩
      subst hj
      have hj : j = 1 ∨ j = 2 ∨ j = 3 ∨ j = 4 ∨ j = 5 ∨ j = 6 ∨ j = 7 ∨ j = 8 ∨ j = 9 ∨ j = 10 := by omega
      have q4 : ∀ i k, i ≤ 10 → k ≤ 10 → ¬ o + i = b + k := fun i k _ _ => by omega
      rcases hj with rfl | rfl | rfl | rfl | rfl | rfl | rfl | rfl | rfl | rfl <;> simp [q4]
    · have q5 : ∀ k, 0 < k → k ≤ 10 → ¬ a = b + k := fun k _ _ => by omega
      rw [if_neg e1]
      simp [q5]
/-- what lookAtNext lays for the TASK at t -/
def wd_look (M : Nat → Nat → Int32) (b t : Nat) : Nat → Nat → Int32 :=
  fm_u (fm_u (fm_u (fm_u M (b + 7) t (M (b + 4) t + pt_rel (M (b + 1) t) (M (b + 2) t) (M (b + 6) t + 1))) (b + 8) t (M (b + 4) t + pt_dl (M (b + 1) t) (M (b + 2) t) (M (b + 6) t + 1))) (b + 9) t (pt_ov (M (b + 1) t) (M (b + 2) t) (M (b + 6) t + 1))) (b + 10) t (wd_gof M b t (M (b + 6) t + 1))
theorem fm_u_off2 {M : Nat → Nat → Int32} {b i x y : Nat} {v : Int32} (h : ¬ y = x) : fm_u M (b + x) i v (b + y) = M (b + y) := fm_u_off (by omega)
set_option maxRecDepth 20000 in
set_option maxHeartbeats 4000000 in
theorem t_lookAtNext {b : Nat} (hb : fm_W b) (S : fm_S) (t : Int32) (ht : vp_in t 8) (he : 0 ≤ (S.1 (b + 1) t.toNatClampNeg).toInt) (hi : 0 ≤ (S.1 (b + 6) t.toNatClampNeg + 1).toInt) (hi2 : (S.1 (b + 6) t.toNatClampNeg + 1).toInt + (S.1 (b + 1) t.toNatClampNeg).toInt < 2 ^ 31) : mj_big 3 54 [.ref b, .int t] (fm_mk S) none (fm_mk (wd_look S.1 b t.toNatClampNeg, S.2)) := by
  obtain ⟨hb, h0, h1, h2, h3, h4, h5, h6, h7, h8, h9⟩ := hb
  have hg := fun h => t_group h (S.1 (b + 1) t.toNatClampNeg) (S.1 (b + 2) t.toNatClampNeg) (S.1 (b + 6) t.toNatClampNeg + 1) he hi hi2
  refine mj_ofB _ _ rfl rfl rfl ?_
  repeat' first
    | refine mj_auto [] 80 rfl ?_
    | refine mj_if rfl rfl (fun c1 => ?_) (fun c1 => ?_)
    | refine fm_gR (by with_reducible assumption) rfl rfl rfl ?_
    | refine fm_gI (by with_reducible assumption) rfl rfl rfl ?_
    | refine fm_ld (by with_reducible assumption) rfl (by with_reducible assumption) ?_
    | refine fm_st (by with_reducible assumption) rfl (by with_reducible assumption) ?_
    | refine fm_pI (by with_reducible assumption) rfl rfl rfl rfl ?_
    | refine mj_csB (hg ..) rfl rfl rfl rfl rfl rfl rfl ?_
    | refine mj_csB (t_release ..) rfl rfl rfl rfl rfl rfl rfl ?_
    | refine mj_csB (t_deadline ..) rfl rfl rfl rfl rfl rfl rfl ?_
    | refine mj_csB (t_overlap ..) rfl rfl rfl rfl rfl rfl rfl ?_
    | refine mj_rt rfl rfl rfl ⟨?_, rfl⟩
    | refine mj_rt rfl rfl rfl ⟨?_, ?_⟩
    | refine mj_rtl rfl rfl ⟨?_, rfl⟩
    | refine mj_rtl rfl rfl ⟨?_, ?_⟩
    | refine mj_rtv rfl rfl ⟨rfl, rfl⟩
    | refine mj_rtv rfl rfl ⟨rfl, ?_⟩
  all_goals
    refine congrArg fm_mk (Prod.ext ?_ rfl)
    simp [wd_look, wd_gof, fm_u_off2, *]
def wd_mlf (M : Nat → Nat → Int32) (b t : Nat) : Int32 := if ¬ M (b + 6) t = 0 then (if wd_gof M b t (M (b + 6) t) = 0 then M (b + 4) t + pt_dl (M (b + 1) t) (M (b + 2) t) (M (b + 6) t) + pt_ov (M (b + 1) t) (M (b + 2) t) (M (b + 6) t) else wd_gof M b t (M (b + 6) t)) else M b 11
set_option maxRecDepth 20000 in
theorem t_mayLeaveFrom {b : Nat} (hb : fm_W b) (S : fm_S) (t : Int32) (ht : vp_in t 8) (he : 0 ≤ (S.1 (b + 1) t.toNatClampNeg).toInt) (hi : 0 ≤ (S.1 (b + 6) t.toNatClampNeg).toInt) (hi2 : (S.1 (b + 6) t.toNatClampNeg).toInt + (S.1 (b + 1) t.toNatClampNeg).toInt < 2 ^ 31) : mj_big 4 67 [.ref b, .int t] (fm_mk S) (some (.int (wd_mlf S.1 b t.toNatClampNeg))) (fm_mk S) := by
  have k1 := t_groupOf hb S t (S.1 (b + 6) t.toNatClampNeg) ht he hi hi2
  have k2 := t_deadlineOf hb S t (S.1 (b + 6) t.toNatClampNeg) ht
  have k3 := t_overlapOf hb S t (S.1 (b + 6) t.toNatClampNeg) ht
  obtain ⟨hb, h0, h1, h2, h3, h4, h5, h6, h7, h8, h9⟩ := hb
  refine mj_ofB _ _ rfl rfl rfl ?_
  repeat' first
    | refine mj_auto [] 80 rfl ?_
    | refine mj_if rfl rfl (fun c1 => ?_) (fun c1 => ?_)
    | refine fm_gR (by with_reducible assumption) rfl rfl rfl ?_
    | refine fm_gI (by with_reducible assumption) rfl rfl rfl ?_
    | refine fm_ld (by with_reducible assumption) rfl (by with_reducible assumption) ?_
    | refine fm_st (by with_reducible assumption) rfl (by with_reducible assumption) ?_
    | refine fm_pI (by with_reducible assumption) rfl rfl rfl rfl ?_
    | refine mj_cvB (k1 ..) (fm_o (by with_reducible assumption)) rfl rfl rfl rfl rfl ⟨rfl, rfl⟩ rfl ?_
    | refine mj_cvB (k2 ..) (fm_o (by with_reducible assumption)) rfl rfl rfl rfl rfl ⟨rfl, rfl⟩ rfl ?_
    | refine mj_cvB (k3 ..) (fm_o (by with_reducible assumption)) rfl rfl rfl rfl rfl ⟨rfl, rfl⟩ rfl ?_
    | refine mj_rt rfl rfl rfl ⟨?_, rfl⟩
    | refine mj_rt rfl rfl rfl ⟨?_, ?_⟩
    | refine mj_rtl rfl rfl ⟨?_, rfl⟩
    | refine mj_rtl rfl rfl ⟨?_, ?_⟩
    | refine mj_rtv rfl rfl ⟨rfl, rfl⟩
    | refine mj_rtv rfl rfl ⟨rfl, ?_⟩
  all_goals simp [wd_mlf, *]
def wd_hv (M : Nat → Nat → Int32) (b : Nat) (s : Int32) : Nat → Int32
  | 0 => -1
  | k + 1 => if s >>> (nI k &&& 31) &&& 1 = 0 then wd_hv M b s k else if wd_hv M b s k = -1 then nI k else if M (b + 3) k ≤ M (b + 3) (wd_hv M b s k).toNatClampNeg then wd_hv M b s k else nI k
theorem wd_hv_in (M : Nat → Nat → Int32) (b : Nat) (s : Int32) : ∀ k, k ≤ 8 → wd_hv M b s k = -1 ∨ vp_in (wd_hv M b s k) 8 := by
  intro k
  induction k with
  | zero => intro _; exact Or.inl rfl
  | succ k ih =>
    intro hk
    have ih := ih (by omega)
    have e2 := nI8_in k (by omega)
    rw [wd_hv]
    split
    · exact ih
    · split
      · exact Or.inr e2
      · split
        · exact ih
        · exact Or.inr e2
set_option maxRecDepth 20000 in
theorem t_heaviestOf {b : Nat} (hb : fm_W b) (S : fm_S) (s : Int32) : mj_big 1 70 [.ref b, .int s] (fm_mk S) (some (.int (wd_hv S.1 b s 8))) (fm_mk S) := by
  obtain ⟨hb, h0, h1, h2, h3, h4, h5, h6, h7, h8, h9⟩ := hb
  refine mj_ofB _ _ rfl rfl rfl ?_
  obtain ⟨res, hres⟩ : ∃ x, x = wd_hv S.1 b s 8 := ⟨_, rfl⟩
  rw [← hres]
  have lp : ∀ (n k : Nat) (u : Option Value), k + n = 8 → mj_Rn 0 (some .int) kX9_heaviestOf (fun v g => v = some (.int res) ∧ g = fm_mk S) (fm_mk S) 4 [some (.ref b), some (.int s), some (.int (wd_hv S.1 b s k)), some (.int (nI k)), u] [] := by
    intro n
    induction n with
    | zero =>
      intro k u hk
      obtain rfl : k = 8 := by omega
      refine mj_begin [4] 80 rfl ?_
      refine mj_if rfl rfl (fun c1 => ?_) (fun c1 => absurd (by decide) c1)
      repeat' first
        | refine mj_auto [4] 80 rfl ?_
        | refine mj_if rfl rfl (fun c1 => ?_) (fun c1 => ?_)
        | refine fm_gR (by with_reducible assumption) rfl rfl rfl ?_
        | refine fm_gI (by with_reducible assumption) rfl rfl rfl ?_
        | refine fm_ld (by with_reducible assumption) rfl ((by first | assumption | exact e4.resolve_left (by assumption))) ?_
        | refine fm_st (by with_reducible assumption) rfl ((by first | assumption | exact e4.resolve_left (by assumption))) ?_
        | refine fm_pI (by with_reducible assumption) rfl rfl rfl rfl ?_
        | refine mj_rt rfl rfl rfl ⟨?_, rfl⟩
        | refine mj_rt rfl rfl rfl ⟨?_, ?_⟩
        | refine mj_rtl rfl rfl ⟨?_, rfl⟩
        | refine mj_rtl rfl rfl ⟨?_, ?_⟩
        | refine mj_rtv rfl rfl ⟨rfl, rfl⟩
        | refine mj_rtv rfl rfl ⟨rfl, ?_⟩
      all_goals first | rfl | (rw [hres]; done) | (simp [wd_hv])
    | succ n ih =>
      intro k u hk
      clear hres
      have hk8 : k < 8 := by omega
      have e1 := nI8_lt k hk8
      have e2 := nI8_in k hk8
      have e3 := nI8_tn k hk8
      have e4 := wd_hv_in S.1 b s k (by omega)
      have ih := fun u => ih (k + 1) u (by omega)
      simp only [← nI_1] at ih
      refine mj_begin [4] 80 rfl ?_
      repeat' first
        | refine mj_auto [4] 80 rfl ?_
        | refine mj_if rfl rfl (fun c1 => ?_) (fun c1 => ?_)
        | refine fm_gR (by with_reducible assumption) rfl rfl rfl ?_
        | refine fm_gI (by with_reducible assumption) rfl rfl rfl ?_
        | refine fm_ld (by with_reducible assumption) rfl ((by first | assumption | exact e4.resolve_left (by assumption))) ?_
        | refine fm_st (by with_reducible assumption) rfl ((by first | assumption | exact e4.resolve_left (by assumption))) ?_
        | refine fm_pI (by with_reducible assumption) rfl rfl rfl rfl ?_
      all_goals first
        | exact absurd (by assumption) e1
        | (rw [e3] at *; simp only [wd_hv, if_pos, if_neg, *, not_false_eq_true] at ih; exact ih)
        | (rw [e3] at *; rw [wd_hv] at ih; (repeat' split at ih) <;> first | exact ih | contradiction)
        | (rw [wd_hv] at ih; (repeat' split at ih) <;> first | exact ih | contradiction)
        | (rw [e3] at *; have ih := ih (some (.int 0)); rw [wd_hv] at ih; (repeat' split at ih) <;> first | exact ih | contradiction)
        | (have ih := ih (some (.int 1)); rw [e3] at *; rw [wd_hv] at ih; (repeat' split at ih) <;> first | exact ih | contradiction)
  refine mj_auto [4] 50 rfl ?_
  exact lp 8 0 none rfl
