def ti_val (c : Int32) : Bool := c == 100 || c == 98 || c == 103 || c == 119 || c == 114
def ti_dup (f : Nat → Int32) (c : Int32) : Nat → Nat → Bool
  | 0, _ => false
  | n + 1, k => if ¬ f k = c then ti_dup f c n (k + 1) else true
def ti_can (M : Nat → Nat → Int32) (t N : Nat) (c : Int32) : Bool := ti_val c && !ti_dup (M (t + 1)) c N 0 && decide (N < 5)
def ti_addA (M : Nat → Nat → Int32) (t N : Nat) (c : Int32) : Int32 := if ti_can M t N c = true then 1 else 0
def ti_addM (M : Nat → Nat → Int32) (t N : Nat) (c : Int32) : Nat → Nat → Int32 := if ti_can M t N c = true then fm_u (fm_u M (t + 1) N c) t 1 (nI (N + 1)) else M
set_option maxRecDepth 20000 in
theorem t_tadd {t : Nat} (ht : fm_T t) (S : fm_S) (N : Nat) (hN : N ≤ 5) (hsz : S.1 t 1 = nI N) (c : Int32) : mj_big 1 45 [.ref t, .int c] (fm_mk S) (some (.int (ti_addA S.1 t N c))) (fm_mk (ti_addM S.1 t N c, S.2)) := by
  obtain ⟨M, ML, R⟩ := S
  dsimp only at hsz ⊢
  obtain ⟨ht, h0⟩ := ht
  refine mj_ofB _ _ rfl rfl rfl ?_
  have lp : ti_val c = true → ∀ (n k : Nat), k + n = N → ti_dup (M (t + 1)) c n k = ti_dup (M (t + 1)) c N 0 → mj_Rn 0 (some .boolean) kX8_add (fun v g => v = some (.int (ti_addA M t N c)) ∧ g = fm_mk (ti_addM M t N c, ML, R)) (fm_mk (M, ML, R)) 34 [some (.ref t), some (.int c), some (.int (nI k))] [] := by
    intro hv n
    induction n with
    | zero =>
      intro k hk hdp
      obtain rfl : k = N := by omega
      refine mj_begin3 [34] 50 rfl ?_
      refine fn_gI ht rfl rfl rfl ?_
      rw [hsz]
      refine mj_if rfl rfl (fun c1 => ?_) (fun c1 => absurd (nI_le (Nat.le_refl k) (by omega)) c1)
      refine mj_auto3 [34] 50 rfl ?_
      refine fn_gI ht rfl rfl rfl ?_
      rw [hsz]
      refine mj_auto3 [34] 50 rfl ?_
      rw [ti_dup] at hdp
      refine mj_if rfl rfl (fun c2 => ?_) (fun c2 => ?_)
      · have h5 : k < 5 := (nI_ltI (b := 5) (by omega) (by omega)).mp c2
        have hcan : ti_can M t k c = true := by simp [ti_can, hv, ← hdp, h5]
        rw [ti_addA, ti_addM, if_pos hcan, if_pos hcan]
        refine mj_auto3 [34] 50 rfl ?_
        refine fn_gR ht rfl rfl rfl ?_
        refine mj_auto3 [34] 50 rfl ?_
        refine fn_gI ht rfl rfl rfl ?_
        rw [hsz]
        refine mj_auto3 [34] 50 rfl ?_
        refine fn_st h0 rfl (in_nI h5 (by omega)) ?_
        refine mj_auto3 [34] 50 rfl ?_
        refine fn_gI ht rfl rfl rfl ?_
        refine mj_auto3 [34] 50 rfl ?_
        refine fn_pI ht rfl rfl rfl rfl ?_
        refine mj_auto3 [34] 50 rfl ?_
        refine mj_rt rfl rfl rfl ⟨rfl, ?_⟩
        rw [nI_clamp (by omega), fm_u_off (by omega), hsz, nI_1]
      · have h5 : ¬ k < 5 := fun q => c2 ((nI_ltI (b := 5) (by omega) (by omega)).mpr q)
        have hcan : ¬ ti_can M t k c = true := by simp [ti_can, h5]
        rw [ti_addA, ti_addM, if_neg hcan, if_neg hcan]
        refine mj_auto3 [34] 50 rfl ?_
        exact mj_rt rfl rfl rfl ⟨rfl, rfl⟩
    | succ n ih =>
      intro k hk hdp
      have e1 : ¬ nI N ≤ nI k := nI_ge (by omega) (by omega)
      have e3 : (nI k).toNatClampNeg = k := nI_clamp (by omega)
      rw [ti_dup] at hdp
      refine mj_begin3 [34] 50 rfl ?_
      refine fn_gI ht rfl rfl rfl ?_
      rw [hsz]
      refine mj_if rfl rfl (fun c1 => absurd c1 e1) (fun c1 => ?_)
      refine mj_auto3 [34] 50 rfl ?_
      refine fn_gR ht rfl rfl rfl ?_
      refine mj_auto3 [34] 50 rfl ?_
      refine fn_ld h0 rfl (in_nI (by omega) (by omega)) ?_
      rw [e3]
      refine mj_auto3 [34] 50 rfl ?_
      refine mj_if rfl rfl (fun c2 => ?_) (fun c2 => ?_)
      · rw [if_pos c2] at hdp
        refine mj_auto3 [34] 50 rfl ?_
        have ih := ih (k + 1) (by omega) hdp
        rw [← nI_1] at ih
        exact ih
      · rw [if_neg c2] at hdp
        have hcan : ¬ ti_can M t N c = true := by simp [ti_can, ← hdp]
        rw [ti_addA, ti_addM, if_neg hcan, if_neg hcan]
        refine mj_auto3 [34] 50 rfl ?_
        exact mj_rt rfl rfl rfl ⟨rfl, rfl⟩
  repeat' first
    | refine mj_auto3 [32,34] 80 rfl ?_
    | refine mj_if rfl rfl (fun c1 => ?_) (fun c1 => ?_)
  all_goals first
    | (refine mj_begin3 [34] 50 rfl ?_; exact lp (by simp [ti_val, *]) N 0 (by omega) rfl)
    | skip
  have hcan : ¬ ti_can M t N c = true := by simp [ti_can, ti_val, *]
  rw [ti_addA, ti_addM, if_neg hcan, if_neg hcan]
  exact mj_rt rfl rfl rfl ⟨rfl, rfl⟩
/-- TIES that are read, from the p-th sign on: where the wrong one is, and the memory -/
def sc_rt (t : Nat) : Nat → Nat → Nat → (Nat → Nat → Int32) → Int32 × (Nat → Nat → Int32)
  | 0, _, _, M => (-1, M)
  | n + 1, p, N, M => if ti_can M t N (M 39 p) = true then sc_rt t n (p + 1) (N + 1) (ti_addM M t N (M 39 p)) else (nI p, M)
theorem ti_can_lt {M : Nat → Nat → Int32} {t N : Nat} {c : Int32} (h : ti_can M t N c = true) : N < 5 := by
  simp only [ti_can, Bool.and_eq_true, decide_eq_true_eq] at h
  exact h.2
set_option maxRecDepth 20000 in
theorem t_readTies {t : Nat} (ht : fm_T t) (ht2 : 39 < t) (S : fm_S) (n : Nat) (hn : n ≤ 80) (hs : S.1 38 1 = nI n) : mj_big 2 24 [.ref 38, .ref t] (fm_mk S) (some (.int (sc_rt t n 0 0 (fm_u S.1 t 1 0)).1)) (fm_mk ((sc_rt t n 0 0 (fm_u S.1 t 1 0)).2, S.2)) := by
  obtain ⟨M, ML, R⟩ := S
  dsimp only at hs ⊢
  have k0 := t_tclear ht (M, ML, R)
  have k1 := fun M' N hN hz => t_tadd ht (M', ML, R) N hN hz
  obtain ⟨ht, h0⟩ := ht
  refine mj_ofB _ _ rfl rfl rfl ?_
  obtain ⟨F, hF⟩ : ∃ x, x = sc_rt t n 0 0 (fm_u M t 1 0) := ⟨_, rfl⟩
  rw [← hF]
  have lp : ∀ (m p N : Nat) (M' : Nat → Nat → Int32), p + m = n → N ≤ 5 → M' t 1 = nI N → M' 38 1 = nI n → sc_rt t m p N M' = F → mj_Rn 1 (some .int) kX5_readTies (fun v g => v = some (.int F.1) ∧ g = fm_mk (F.2, ML, R)) (fm_mk (M', ML, R)) 6 [some (.ref 38), some (.ref t), some (.int (nI p))] [] := by
    intro m
    induction m with
    | zero =>
      intro p N M' hp hN hz h38 hfe
      obtain rfl : p = n := by omega
      rw [sc_rt] at hfe
      refine mj_begin3 [6] 50 rfl ?_
      refine fn_gI fm_s38 rfl rfl rfl ?_
      rw [h38]
      refine mj_if rfl rfl (fun c1 => ?_) (fun c1 => absurd (nI_le (Nat.le_refl p) (by omega)) c1)
      refine mj_auto3 [6] 50 rfl ?_
      exact mj_rt rfl rfl rfl ⟨by rw [← hfe], by rw [← hfe]⟩
    | succ m ih =>
      intro p N M' hp hN hz h38 hfe
      have e1 : ¬ nI n ≤ nI p := nI_ge (by omega) (by omega)
      rw [sc_rt] at hfe
      refine mj_begin3 [6] 50 rfl ?_
      refine fn_gI fm_s38 rfl rfl rfl ?_
      rw [h38]
      refine mj_if rfl rfl (fun c1 => absurd c1 e1) (fun c1 => ?_)
      refine mj_auto3 [6] 50 rfl ?_
      refine fn_gR fm_s38 rfl rfl rfl ?_
      refine mj_auto3 [6] 50 rfl ?_
      refine fn_ldc fm_s39 rfl (in_nI (by omega) (by omega)) ?_
      rw [nI_clamp (by omega)]
      refine mj_cvB (k1 M' N hN hz (M' 39 p)) (fm_o ht) rfl rfl rfl rfl rfl ⟨rfl, rfl⟩ rfl ?_
      by_cases hc : ti_can M' t N (M' 39 p) = true
      · rw [if_pos hc] at hfe
        rw [ti_addA, if_pos hc]
        refine mj_if rfl rfl (fun c2 => ?_) (fun c2 => absurd (by decide) c2)
        refine mj_auto3 [6] 50 rfl ?_
        have ih := ih (p + 1) (N + 1) (ti_addM M' t N (M' 39 p)) (by omega) (ti_can_lt hc) (by rw [ti_addM, if_pos hc, fm_u_at]) (by rw [ti_addM, if_pos hc, fm_u_off (by omega), fm_u_off (by omega)]; exact h38) hfe
        rw [← nI_1] at ih
        exact ih
      · rw [if_neg hc] at hfe
        rw [ti_addA, ti_addM, if_neg hc, if_neg hc]
        refine mj_if rfl rfl (fun c2 => absurd rfl c2) (fun c2 => ?_)
        refine mj_auto3 [6] 50 rfl ?_
        exact mj_rt rfl rfl rfl ⟨by rw [← hfe], by rw [← hfe]⟩
  refine mj_auto3 [6] 50 rfl ?_
  refine mj_cvB k0 (fm_o ht) rfl rfl rfl rfl rfl ⟨rfl, rfl⟩ rfl ?_
  refine mj_auto3 [6] 50 rfl ?_
  exact lp n 0 0 (fm_u M t 1 0) (by omega) (by omega) (by rw [fm_u_at]; rfl) (by rw [fm_u_off (by omega)]; exact hs) hF.symm
