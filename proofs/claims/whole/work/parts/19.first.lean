def ov (o : Option Nat) : Int32 := match o with
  | none => -1
  | some j => nI j
theorem ov_none {o : Option Nat} : ov o = -1 → (∀ j, o = some j → j < 8) → o = none := by
  intro h h8
  cases o with
  | none => rfl
  | some j =>
    have := h8 j rfl
    exfalso
    have h1 : ∀ j, j < 8 → ¬ nI j = -1 := by decide +kernel
    exact h1 j this h
def wd_fo (M : Nat → Nat → Int32) (b t N : Nat) (s : Int32) : Nat → Option Nat
  | 0 => none
  | k + 1 => if s >>> (nI k &&& 31) &&& 1 = 0 then wd_fo M b t N s k else match wd_fo M b t N s k with
    | none => some k
    | some j => if ti_ah M b t k j N 0 = 0 then some j else some k
theorem wd_fo_lt (M : Nat → Nat → Int32) (b t N : Nat) (s : Int32) : ∀ k j, wd_fo M b t N s k = some j → j < k := by
  intro k
  induction k with
  | zero => intro j h; cases h
  | succ k ih =>
    intro j h
    rw [wd_fo] at h
    split at h
    · have := ih j h; omega
    · split at h
      · cases h; omega
      · next i hi =>
        have := ih i hi
        split at h
        · cases h; omega
        · cases h; omega
set_option maxRecDepth 20000 in
theorem t_firstOf {b t : Nat} (hb : fm_W b) (ht : fm_T t) (S : fm_S) (N : Nat) (hN : N ≤ 5) (hsz : S.1 t 1 = nI N) (s : Int32) : mj_big 4 62 [.ref b, .int s, .ref t] (fm_mk S) (some (.int (ov (wd_fo S.1 b t N s 8)))) (fm_mk S) := by
  have ka := fun p q hp hq => t_isAhead hb ht S p q hp hq N hN hsz
  obtain ⟨ht, h0⟩ := ht
  refine mj_ofB _ _ rfl rfl rfl ?_
  obtain ⟨res, hres⟩ : ∃ x, x = wd_fo S.1 b t N s 8 := ⟨_, rfl⟩
  rw [← hres]
  have lp : ∀ (n k : Nat), k + n = 8 → mj_Rn 3 (some .int) kX9_firstOf (fun v g => v = some (.int (ov res)) ∧ g = fm_mk S) (fm_mk S) 5 [some (.ref b), some (.int s), some (.ref t), some (.int (ov (wd_fo S.1 b t N s k))), some (.int (nI k))] [] := by
    intro n
    induction n with
    | zero =>
      intro k hk
      obtain rfl : k = 8 := by omega
      refine mj_begin5 [5] 50 rfl ?_
      refine mj_if rfl rfl (fun c1 => ?_) (fun c1 => absurd (by decide) c1)
      refine mj_auto5 [5] 50 rfl ?_
      exact mj_rt rfl rfl rfl ⟨by rw [hres], rfl⟩
    | succ n ih =>
      intro k hk
      have hk8 : k < 8 := by omega
      have e1 := nI8_lt k hk8
      have ih := ih (k + 1) (by omega)
      rw [← nI_1, wd_fo] at ih
      refine mj_begin5 [5] 50 rfl ?_
      refine mj_if rfl rfl (fun c1 => absurd c1 e1) (fun c1 => ?_)
      refine mj_auto5 [5] 50 rfl ?_
      refine mj_if rfl rfl (fun c2 => ?_) (fun c2 => ?_)
      · refine mj_auto5 [5] 50 rfl ?_
        rw [if_pos c2] at ih
        exact ih
      · rw [if_neg c2] at ih
        cases hf : wd_fo S.1 b t N s k with
        | none =>
          rw [hf] at ih
          refine mj_auto5 [5] 50 rfl ?_
          refine mj_if rfl rfl (fun c3 => ?_) (fun c3 => absurd rfl c3)
          refine mj_auto5 [5] 50 rfl ?_
          exact ih
        | some j =>
          rw [hf] at ih
          have hj : j < 8 := by have := wd_fo_lt S.1 b t N s k j hf; omega
          refine mj_auto5 [5] 50 rfl ?_
          refine mj_if rfl rfl (fun c3 => absurd (ov_none c3 (fun i hi => by cases hi; exact hj)) (by simp)) (fun c3 => ?_)
          refine mj_auto5 [5] 50 rfl ?_
          refine mj_cvB (ka k j hk8 hj) (fm_o ht) rfl rfl rfl rfl rfl ⟨rfl, rfl⟩ rfl ?_
          refine mj_if rfl rfl (fun c4 => ?_) (fun c4 => ?_)
          · refine mj_auto5 [5] 50 rfl ?_
            dsimp only at ih
            rw [if_pos c4] at ih
            exact ih
          · refine mj_auto5 [5] 50 rfl ?_
            dsimp only at ih
            rw [if_neg c4] at ih
            exact ih
  refine mj_auto5 [5] 50 rfl ?_
  exact lp 8 0 rfl
theorem fm_u_at {M : Nat → Nat → Int32} {a i : Nat} {x : Int32} : fm_u M a i x a i = x := by simp [fm_u, upd]
theorem fm_u_ix {M : Nat → Nat → Int32} {a i j : Nat} {x : Int32} (h : ¬ j = i) : fm_u M a i x a j = M a j := by simp [fm_u, upd, h]
theorem fm_u_u {M : Nat → Nat → Int32} {a i : Nat} {x y : Int32} : fm_u (fm_u M a i x) a i y = fm_u M a i y := by
  funext c
  by_cases h : c = a
  · subst h
    funext j
    by_cases hj : j = i
    · subst hj; simp [fm_u, upd]
    · simp [fm_u, upd, hj]
  · simp [fm_u, h]
/-- what is said of the first ones hangs on these rows alone -/
def wd_eq (M M' : Nat → Nat → Int32) (b t : Nat) : Prop := M' (b + 3) = M (b + 3) ∧ M' (b + 7) = M (b + 7) ∧ M' (b + 8) = M (b + 8) ∧ M' (b + 9) = M (b + 9) ∧ M' (b + 10) = M (b + 10) ∧ M' (t + 1) = M (t + 1)
theorem ti_lead_cg {M M' : Nat → Nat → Int32} {b t : Nat} (h : wd_eq M M' b t) (c : Int32) (p q : Nat) : ti_lead M' b c p q = ti_lead M b c p q := by
  obtain ⟨h3, h7, h8, h9, h10, -⟩ := h
  simp only [ti_lead, h3, h7, h8, h9, h10]
theorem ti_ah_cg {M M' : Nat → Nat → Int32} {b t : Nat} (h : wd_eq M M' b t) (p q : Nat) : ∀ n k, ti_ah M' b t p q n k = ti_ah M b t p q n k := by
  intro n
  induction n with
  | zero => intro k; rfl
  | succ n ih =>
    intro k
    simp only [ti_ah, ti_lead_cg h, h.2.2.2.2.2, ih]
theorem wd_fo_cg {M M' : Nat → Nat → Int32} {b t : Nat} (h : wd_eq M M' b t) (N : Nat) (s : Int32) : ∀ k, wd_fo M' b t N s k = wd_fo M b t N s k := by
  intro k
  induction k with
  | zero => rfl
  | succ k ih =>
    rw [wd_fo, wd_fo, ih]
    split
    · rfl
    · cases wd_fo M b t N s k with
      | none => rfl
      | some j => simp only [ti_ah_cg h]
theorem wd_eq_u {M : Nat → Nat → Int32} {b t i : Nat} {x : Int32} (hd : t + 1 < b ∨ b + 10 < t) : wd_eq M (fm_u M b i x) b t :=
  ⟨fm_u_off (by omega), fm_u_off (by omega), fm_u_off (by omega), fm_u_off (by omega), fm_u_off (by omega), fm_u_off (by omega)⟩
theorem wd_eq_tr {M M' M'' : Nat → Nat → Int32} {b t : Nat} (h : wd_eq M M' b t) (h2 : wd_eq M' M'' b t) : wd_eq M M'' b t :=
  ⟨h2.1.trans h.1, h2.2.1.trans h.2.1, h2.2.2.1.trans h.2.2.1, h2.2.2.2.1.trans h.2.2.2.1, h2.2.2.2.2.1.trans h.2.2.2.2.1, h2.2.2.2.2.2.trans h.2.2.2.2.2⟩
/-- who is run of those that wait, n PROCESSORS being left -/
def wd_pick (M : Nat → Nat → Int32) (b t N : Nat) : Nat → Int32 → Int32 → Int32
  | 0, _, r => r
  | n + 1, w, r => if w = 0 then r else wd_pick M b t N n (w &&& (1 <<< (ov (wd_fo M b t N w 8) &&& 31) ^^^ -1)) (r ||| 1 <<< (ov (wd_fo M b t N w 8) &&& 31))
def wd_ga (M : Nat → Nat → Int32) (b k : Nat) : Nat → Nat → Int32 := if wd_run M b (nI k) = 0 then M else wd_look (fm_u M (b + 6) k (M (b + 6) k + 1)) b k
def wd_gb (M : Nat → Nat → Int32) (b k : Nat) : Nat → Nat → Int32 := if wd_there M b (nI k) = 0 then M else if ¬ M (b + 8) k = M b 11 + 1 then M else fm_u (fm_u M b 15 (M b 15 ||| 1 <<< (nI k &&& 31))) b 12 (M b 12 + 1)
/-- the TASKS from 0 to k, run or not, late or not -/
def wd_g2 (M : Nat → Nat → Int32) (b : Nat) : Nat → Nat → Nat → Int32
  | 0 => M
  | k + 1 => wd_gb (wd_ga (wd_g2 M b k) b k) b k
