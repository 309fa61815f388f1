/-- lines from p on: the answer, the memory -/
def rls (b bd n : Nat) : Nat → Int32 → Nat → (Nat → Nat → Int32) → Int32 × (Nat → Nat → Int32)
  | 0, _, p, M => (-1 - nI p, M)
  | m + 1, k, p, M =>
    let r := rl (M 39) bd p (wd_lf M b 8 0)
    let M1 := rl_M M b (wd_lf M b 8 0) r
    if r.1 = -1 then (if nI r.2.1 < nI bd then (if M 39 r.2.1 = 59 then rls b bd n m (k + 1) (r.2.1 + 1) (fm_u M1 38 2 (nI (r.2.1 + 1))) else (-1 - nI r.2.1, M1)) else if nI n ≤ nI bd then (k, M1) else (-1 - nI bd, M1)) else (-1 - r.1, M1)
theorem rl2_ge {f : Nat → Int32} {bd p pe : Nat} {e : Int32} (hp : pe ≤ bd) : (rl2 f bd p e pe).2.1 ≤ bd := by
  unfold rl2
  split
  · exact hp
  · split
    · exact hp
    · split
      · next h1 h2 h3 =>
        have hq := rn_ge f bd (pe + 1) (by omega)
        repeat' split
        all_goals (dsimp only; omega)
      · exact hp
theorem rl_ge {f : Nat → Int32} {bd p : Nat} {lf : Int32} (hp : p ≤ bd) : (rl f bd p lf).2.1 ≤ bd := by
  unfold rl
  split
  · exact rl2_ge (rn_ge f bd p hp).2
  · exact rl2_ge hp
theorem wd_entM_off {M : Nat → Nat → Int32} {b t a : Nat} {e p ea : Int32} (h : a ≤ b ∨ b + 10 < a) : wd_entM M b t e p ea a = M a := by
  unfold wd_entM
  rw [wd_look_off (by omega), fm_u_off (by omega), fm_u_off (by omega), fm_u_off (by omega), fm_u_off (by omega), fm_u_off (by omega), fm_u_off (by omega)]
theorem rl_M_off {M : Nat → Nat → Int32} {b a : Nat} {lf : Int32} {r : Int32 × Nat × Option (Int32 × Int32 × Int32)} (h : a ≤ b ∨ b + 10 < a) (h2 : ¬ a = 38) : rl_M M b lf r a = M a := by
  obtain ⟨x, q, o⟩ := r
  unfold rl_M
  cases o
  all_goals dsimp only
  · rw [fm_u_off h2]
  · rw [wd_entM_off h, fm_u_off h2]
theorem rl_M_38 {M : Nat → Nat → Int32} {b i : Nat} {lf : Int32} {r : Int32 × Nat × Option (Int32 × Int32 × Int32)} (h : b + 10 < 38) (h2 : ¬ i = 2) : rl_M M b lf r 38 i = M 38 i := by
  obtain ⟨x, q, o⟩ := r
  unfold rl_M
  cases o
  all_goals dsimp only
  · rw [fm_u_ix h2]
  · rw [wd_entM_off (by omega), fm_u_ix h2]
theorem rl_M_382 {M : Nat → Nat → Int32} {b : Nat} {lf : Int32} {r : Int32 × Nat × Option (Int32 × Int32 × Int32)} (h : b + 10 < 38) : rl_M M b lf r 38 2 = nI r.2.1 := by
  obtain ⟨x, q, o⟩ := r
  unfold rl_M
  cases o
  all_goals dsimp only
  · rw [fm_u_at]
  · rw [wd_entM_off (by omega), fm_u_at]
def rls0A (M : Nat → Nat → Int32) (b n : Nat) : Int32 := if ¬ M 38 1 = 0 then (rls b (min n 55) n 8 1 0 (fm_u (fm_u M 38 2 0) 38 3 (nI (min n 55)))).1 else 0
def rls0M (M : Nat → Nat → Int32) (b n : Nat) : Nat → Nat → Int32 := if ¬ M 38 1 = 0 then (rls b (min n 55) n 8 1 0 (fm_u (fm_u M 38 2 0) 38 3 (nI (min n 55)))).2 else M
theorem jd_min_nI {n : Nat} (hn : n ≤ 80) : jd_min (nI n) 55 = nI (min n 55) := by
  have : ∀ n, n < 81 → jd_min (nI n) 55 = nI (min n 55) := by decide +kernel
  exact this n (by omega)
set_option maxRecDepth 20000 in
set_option maxHeartbeats 1000000 in
theorem t_readLines {b : Nat} (hw : fm_W b) (hb38 : b + 10 < 38) (M : Nat → Nat → Int32) (ML : Nat → Nat → Int64) (R : Nat → Nat → Option Nat) (n : Nat) (hn : n ≤ 80) (hs : M 38 1 = nI n) :
    mj_big 6 25 [.ref 38, .ref b] (fm_mk (M, ML, R)) (some (.int (rls0A M b n))) (fm_mk (rls0M M b n, ML, R)) := by
  refine mj_ofB _ _ rfl rfl rfl ?_
  refine mj_auto4 [29] 50 rfl ?_
  refine fn_gI fm_s38 rfl rfl rfl ?_
  rw [rls0A, rls0M]
  refine mj_if rfl rfl (fun c1 => ?_) (fun c1 => ?_)
  rotate_left
  · rw [if_neg c1, if_neg c1]
    refine mj_auto4 [29] 50 rfl ?_
    exact mj_rt rfl rfl rfl ⟨rfl, rfl⟩
  rw [if_pos c1, if_pos c1]
  refine mj_auto4 [29] 50 rfl ?_
  refine fn_pI fm_s38 rfl rfl rfl rfl ?_
  refine mj_auto4 [29] 50 rfl ?_
  refine fn_gI fm_s38 rfl rfl rfl ?_
  refine mj_auto4 [29] 50 rfl ?_
  rw [fm_u_ix (show ¬ 1 = 2 by decide), hs]
  refine mj_csB (t_min _ _ _) rfl rfl rfl rfl rfl rfl rfl ?_
  rw [jd_min_nI hn]
  refine fn_pI fm_s38 rfl rfl rfl rfl ?_
  refine mj_auto4 [29] 50 rfl ?_
  obtain ⟨bd, hbd⟩ : ∃ x, x = min n 55 := ⟨_, rfl⟩
  rw [← hbd]
  have hbn : bd ≤ n := by omega
  obtain ⟨F, hF⟩ : ∃ x, x = rls b bd n 8 1 0 (fm_u (fm_u M 38 2 0) 38 3 (nI bd)) := ⟨_, rfl⟩
  rw [← hF]
  have lp : ∀ (m k p : Nat) (M' : Nat → Nat → Int32) (u : Option Value), k + m = 9 → p ≤ bd → M' 38 1 = nI n → M' 38 2 = nI p → M' 38 3 = nI bd → rls b bd n m (nI k) p M' = F → mj_Rn 5 (some .int) kX5_readLines (fun v g => v = some (.int F.1) ∧ g = fm_mk (F.2, ML, R)) (fm_mk (M', ML, R)) 29 [some (.ref 38), some (.ref b), some (.int (nI k)), u] [] := by
    intro m
    induction m with
    | zero =>
      intro k p M' u hk hp h1 h2 h3 hfe
      obtain rfl : k = 9 := by omega
      rw [rls] at hfe
      refine mj_begin4 [29] 50 rfl ?_
      refine mj_if rfl rfl (fun c2 => ?_) (fun c2 => absurd (by decide) c2)
      refine mj_auto4 [29] 50 rfl ?_
      refine fn_gI fm_s38 rfl rfl rfl ?_
      rw [h2]
      refine mj_auto4 [29] 50 rfl ?_
      exact mj_rt rfl rfl rfl ⟨by rw [← hfe], by rw [← hfe]⟩
    | succ m ih =>
      intro k p M' u hk hp h1 h2 h3 hfe
      have e1 : ¬ (8 : Int32) < nI k := nI_nlt (a := 8) (b := k) (by omega) (by omega)
      have kr := t_readLine hw hb38 M' ML R n p bd hn h1 h2 h3 hbn hp
      have hq := rl_ge (f := M' 39) (lf := wd_lf M' b 8 0) hp
      rw [rls] at hfe
      try dsimp only at hfe
      have r2 := rl_M_382 (M := M') (b := b) (lf := wd_lf M' b 8 0) (r := rl (M' 39) bd p (wd_lf M' b 8 0)) hb38
      have r1 := rl_M_38 (M := M') (b := b) (i := 1) (lf := wd_lf M' b 8 0) (r := rl (M' 39) bd p (wd_lf M' b 8 0)) hb38 (by decide)
      have r3 := rl_M_38 (M := M') (b := b) (i := 3) (lf := wd_lf M' b 8 0) (r := rl (M' 39) bd p (wd_lf M' b 8 0)) hb38 (by decide)
      have r39 := rl_M_off (M := M') (b := b) (a := 39) (lf := wd_lf M' b 8 0) (r := rl (M' 39) bd p (wd_lf M' b 8 0)) (by omega) (by decide)
      generalize rl_M M' b (wd_lf M' b 8 0) (rl (M' 39) bd p (wd_lf M' b 8 0)) = M1 at kr hfe r1 r2 r3 r39
      generalize rl (M' 39) bd p (wd_lf M' b 8 0) = r at kr hfe hq r2
      obtain ⟨x, q, o⟩ := r
      dsimp only at kr hfe hq r2
      rw [h1] at r1
      rw [h3] at r3
      refine mj_begin4 [29] 50 rfl ?_
      refine mj_if rfl rfl (fun c2 => absurd c2 e1) (fun c2 => ?_)
      refine mj_auto4 [29] 50 rfl ?_
      refine mj_cvB kr (fm_o fm_s38) rfl rfl rfl rfl rfl ⟨rfl, rfl⟩ rfl ?_
      refine mj_auto4 [29] 50 rfl ?_
      refine mj_if rfl rfl (fun c3 => ?_) (fun c3 => ?_)
      rotate_left
      · rw [if_neg c3] at hfe
        refine mj_auto4 [29] 50 rfl ?_
        exact mj_rt rfl rfl rfl ⟨by rw [← hfe], by rw [← hfe]⟩
      rw [if_pos c3] at hfe
      refine mj_auto4 [29] 50 rfl ?_
      refine fn_gI fm_s38 rfl rfl rfl ?_
      refine mj_auto4 [29] 50 rfl ?_
      refine fn_gI fm_s38 rfl rfl rfl ?_
      rw [r2, r3]
      refine mj_if rfl rfl (fun c4 => ?_) (fun c4 => ?_)
      · rw [if_pos c4] at hfe
        have hqb : q < bd := (nI_ltI (by omega) (by omega)).mp c4
        refine mj_auto4 [29] 50 rfl ?_
        refine fn_gR fm_s38 rfl rfl rfl ?_
        refine mj_auto4 [29] 50 rfl ?_
        refine fn_gI fm_s38 rfl rfl rfl ?_
        rw [r2]
        refine fn_ldc fm_s39 rfl (in_nI (by omega) (by omega)) ?_
        rw [nI_clamp (by omega), r39]
        refine mj_auto4 [29] 50 rfl ?_
        refine mj_if rfl rfl (fun c5 => ?_) (fun c5 => ?_)
        · rw [if_pos c5] at hfe
          refine mj_auto4 [29] 50 rfl ?_
          refine fn_gI fm_s38 rfl rfl rfl ?_
          rw [r2]
          refine mj_auto4 [29] 50 rfl ?_
          rw [nI_1]
          refine fn_pI fm_s38 rfl rfl rfl rfl ?_
          refine mj_auto4 [29] 50 rfl ?_
          rw [nI_1] at hfe ⊢
          exact ih (k + 1) (q + 1) (fm_u M1 38 2 (nI (q + 1))) _ (by omega) (by omega) (by rw [fm_u_ix (by decide)]; exact r1) fm_u_at (by rw [fm_u_ix (by decide)]; exact r3) hfe
        · rw [if_neg c5] at hfe
          refine mj_auto4 [29] 50 rfl ?_
          refine fn_gI fm_s38 rfl rfl rfl ?_
          rw [r2]
          refine mj_auto4 [29] 50 rfl ?_
          exact mj_rt rfl rfl rfl ⟨by rw [← hfe], by rw [← hfe]⟩
      · rw [if_neg c4] at hfe
        refine mj_auto4 [29] 50 rfl ?_
        refine fn_gI fm_s38 rfl rfl rfl ?_
        refine mj_auto4 [29] 50 rfl ?_
        refine fn_gI fm_s38 rfl rfl rfl ?_
        rw [r1, r3]
        refine mj_if rfl rfl (fun c5 => ?_) (fun c5 => ?_)
        · rw [if_pos c5] at hfe
          refine mj_auto4 [29] 50 rfl ?_
          exact mj_rt rfl rfl rfl ⟨by rw [← hfe], by rw [← hfe]⟩
        · rw [if_neg c5] at hfe
          refine mj_auto4 [29] 50 rfl ?_
          refine fn_gI fm_s38 rfl rfl rfl ?_
          rw [r3]
          refine mj_auto4 [29] 50 rfl ?_
          exact mj_rt rfl rfl rfl ⟨by rw [← hfe], by rw [← hfe]⟩
  exact lp 8 1 0 _ none rfl (by omega) (by rw [fm_u_ix (by decide), fm_u_ix (by decide)]; exact hs) (by rw [fm_u_ix (by decide), fm_u_at]; rfl) fm_u_at hF.symm
