theorem wd_look_off {M : Nat → Nat → Int32} {b k a : Nat} (h : a < b + 7 ∨ b + 10 < a) : wd_look M b k a = M a := by
  unfold wd_look
  rw [fm_u_off (by omega), fm_u_off (by omega), fm_u_off (by omega), fm_u_off (by omega)]
theorem wd_ga_row {M : Nat → Nat → Int32} {b k a : Nat} (h : a < b + 6 ∨ b + 10 < a) : wd_ga M b k a = M a := by
  unfold wd_ga
  split
  · rfl
  · rw [wd_look_off (by omega), fm_u_off (by omega)]
theorem wd_ga_6 {M : Nat → Nat → Int32} {b k j : Nat} (h : ¬ j = k) : wd_ga M b k (b + 6) j = M (b + 6) j := by
  unfold wd_ga
  split
  · rfl
  · rw [wd_look_off (by omega), fm_u_ix h]
theorem wd_gb_row {M : Nat → Nat → Int32} {b k a : Nat} (h : ¬ a = b) : wd_gb M b k a = M a := by
  unfold wd_gb
  split
  · rfl
  · split
    · rfl
    · rw [fm_u_off h, fm_u_off h]
theorem wd_gb_ix {M : Nat → Nat → Int32} {b k i : Nat} (h : ¬ i = 15) (h2 : ¬ i = 12) : wd_gb M b k b i = M b i := by
  unfold wd_gb
  split
  · rfl
  · split
    · rfl
    · rw [fm_u_ix h2, fm_u_ix h]
theorem wd_g2_row {M : Nat → Nat → Int32} {b a : Nat} (h : a < b ∨ (b < a ∧ a < b + 6) ∨ b + 10 < a) : ∀ k, wd_g2 M b k a = M a := by
  intro k
  induction k with
  | zero => rfl
  | succ k ih => rw [wd_g2, wd_gb_row (by omega), wd_ga_row (by omega), ih]
theorem wd_g2_6 {M : Nat → Nat → Int32} {b j : Nat} : ∀ k, k ≤ j → wd_g2 M b k (b + 6) j = M (b + 6) j := by
  intro k
  induction k with
  | zero => intro _; rfl
  | succ k ih => intro hk; rw [wd_g2, wd_gb_row (by omega), wd_ga_6 (by omega), ih (by omega)]
theorem wd_g2_ix {M : Nat → Nat → Int32} {b i : Nat} (h : ¬ i = 15) (h2 : ¬ i = 12) : ∀ k, wd_g2 M b k b i = M b i := by
  intro k
  induction k with
  | zero => rfl
  | succ k ih => rw [wd_g2, wd_gb_ix h h2, wd_ga_row (by omega), ih]
/-- a SLOT goes by -/
def wd_gob (M : Nat → Nat → Int32) (b t N P : Nat) (held : Int32) : Nat → Nat → Int32 :=
  let w := wd_rset M b held 8
  let M1 := fm_u (fm_u (fm_u M b 14 (jd_bc w)) b 13 (wd_pick M b t N P w 0)) b 15 0
  fm_u (wd_g2 M1 b 8) b 11 (wd_g2 M1 b 8 b 11 + 1)
/-- what lookAtNext and letGo need -/
def wd_bd (M : Nat → Nat → Int32) (b : Nat) : Prop := ∀ q, q < 8 → 0 ≤ (M (b + 1) q).toInt ∧ (M (b + 1) q).toInt ≤ 12 ∧ 0 ≤ (M (b + 6) q).toInt ∧ (M (b + 6) q).toInt < 2 ^ 30
theorem i32_inc {x : Int32} (h0 : 0 ≤ x.toInt) (h : x.toInt < 2 ^ 30) : (x + 1).toInt = x.toInt + 1 := by
  have h1 : (1 : Int32).toInt = 1 := rfl
  rw [Kit.i32_add (by omega) (by omega), h1]
set_option maxRecDepth 20000 in
set_option maxHeartbeats 2000000 in
theorem t_goBy_2 {b : Nat} (hb : fm_W b) (S : fm_S) (M : Nat → Nat → Int32) (hbd : wd_bd M b) (x1 x2 : Option Value) (z3 : Int32) (x5 : Option Value) (F : Nat → Nat → Int32) (hF : F = fm_u (wd_g2 M b 8) b 11 (wd_g2 M b 8 b 11 + 1)) : ∀ (n k : Nat), k + n = 8 → mj_Rn 4 none kX9_goBy (fun v g => v = none ∧ g = fm_mk (F, S.2)) (fm_mk (wd_g2 M b k, S.2)) 77 [some (.ref b), x1, x2, some (.int z3), some (.int (nI k)), x5] [] := by
  have k1 := fun M' => t_hasRun hb (M', S.2)
  have k2 := fun M' => t_isThere hb (M', S.2)
  have k3 := fun M' => t_lookAtNext hb (M', S.2)
  obtain ⟨hb, h0, h1, h2, h3, h4, h5, h6, h7, h8, h9⟩ := hb
  intro n
  induction n with
  | zero =>
    intro k hk
    obtain rfl : k = 8 := by omega
    refine mj_begin6 [77] 50 rfl ?_
    refine mj_if rfl rfl (fun c1 => ?_) (fun c1 => absurd (by decide) c1)
    repeat' first
      | refine mj_auto6 [77] 80 rfl ?_
      | refine mj_if rfl rfl (fun c1 => ?_) (fun c1 => ?_)
      | refine fm_gR (by with_reducible assumption) rfl rfl rfl ?_
      | refine fm_gI (by with_reducible assumption) rfl rfl rfl ?_
      | refine fm_ld (by with_reducible assumption) rfl (by with_reducible assumption) ?_
      | refine fm_st (by with_reducible assumption) rfl (by with_reducible assumption) ?_
      | refine fm_pI (by with_reducible assumption) rfl rfl rfl rfl ?_
      | refine mj_rt rfl rfl rfl ⟨?_, by with_reducible rfl⟩
      | refine mj_rt rfl rfl rfl ⟨?_, ?_⟩
      | refine mj_rtl rfl rfl ⟨?_, by with_reducible rfl⟩
      | refine mj_rtl rfl rfl ⟨?_, ?_⟩
      | refine mj_rtv rfl rfl ⟨rfl, by with_reducible rfl⟩
      | refine mj_rtv rfl rfl ⟨rfl, ?_⟩
    rw [hF]
  | succ n ih =>
    intro k hk
    clear hF
    have hk8 : k < 8 := by omega
    have e1 := nI8_lt k hk8
    have e2 := nI8_in k hk8
    have e3 := nI8_tn k hk8
    have ih := ih (k + 1) (by omega)
    rw [← nI_1, wd_g2] at ih
    refine mj_begin6 [77] 50 rfl ?_
    refine mj_if rfl rfl (fun c1 => absurd c1 e1) (fun c1 => ?_)
    refine mj_auto6 [77] 50 rfl ?_
    have rest : ∀ M' : Nat → Nat → Int32, mj_Rn 4 none kX9_goBy (fun v g => v = none ∧ g = fm_mk (F, S.2)) (fm_mk (wd_gb M' b k, S.2)) 77 [some (.ref b), x1, x2, some (.int z3), some (.int (nI k + 1)), x5] [] → mj_Rn 4 none kX9_goBy (fun v g => v = none ∧ g = fm_mk (F, S.2)) (fm_mk (M', S.2)) 110 [some (.ref b), x1, x2, some (.int z3), some (.int (nI k)), x5] [] := by
      intro M' hh
      repeat' first
        | refine mj_auto6 [77] 80 rfl ?_
        | refine mj_if rfl rfl (fun c1 => ?_) (fun c1 => ?_)
        | refine fm_gR (by with_reducible assumption) rfl rfl rfl ?_
        | refine fm_gI (by with_reducible assumption) rfl rfl rfl ?_
        | refine fm_ld (by with_reducible assumption) rfl (by with_reducible assumption) ?_
        | refine fm_st (by with_reducible assumption) rfl (by with_reducible assumption) ?_
        | refine fm_pI (by with_reducible assumption) rfl rfl rfl rfl ?_
        | refine mj_cvB (k2 ..) (fm_o (by with_reducible assumption)) rfl rfl rfl rfl rfl ⟨rfl, rfl⟩ rfl ?_
      · rw [wd_gb, if_pos (by assumption)] at hh
        exact hh
      · rw [e3] at *
        dsimp only at *
        rw [wd_gb, if_neg (by assumption), if_pos (by assumption)] at hh
        exact hh
      · rw [e3] at *
        dsimp only at *
        rw [wd_gb, if_neg (by assumption), if_neg (by assumption)] at hh
        rw [fm_u_ix (by decide)]
        exact hh
    refine mj_cvB (k1 _ _) (fm_o hb) rfl rfl rfl rfl rfl ⟨rfl, rfl⟩ rfl ?_
    refine mj_if rfl rfl (fun c2 => ?_) (fun c2 => ?_)
    · refine rest _ ?_
      dsimp only at c2
      rw [wd_ga, if_pos c2] at ih
      exact ih
    · dsimp only at c2
      rw [wd_ga, if_neg c2] at ih
      refine mj_auto6 [77] 50 rfl ?_
      refine fm_gR hb rfl rfl rfl ?_
      refine mj_auto6 [77] 50 rfl ?_
      refine fm_ld (by with_reducible assumption) rfl e2 ?_
      refine mj_auto6 [77] 50 rfl ?_
      refine fm_st (by with_reducible assumption) rfl e2 ?_
      refine mj_auto6 [77] 50 rfl ?_
      rw [e3]
      dsimp only
      have r6 : wd_g2 M b k (b + 6) k = M (b + 6) k := wd_g2_6 k (Nat.le_refl k)
      have r1 : wd_g2 M b k (b + 1) = M (b + 1) := wd_g2_row (by omega) k
      obtain ⟨q1, q2, q3, q4⟩ := hbd k hk8
      have q5 := i32_inc q3 q4
      have q6 : (M (b + 6) k + 1 + 1).toInt = (M (b + 6) k).toInt + 2 := by
        have h1 : (1 : Int32).toInt = 1 := rfl
        rw [Kit.i32_add (by omega) (by omega), q5, h1]
        omega
      have kk := k3 (fm_u (wd_g2 M b k) (b + 6) k (wd_g2 M b k (b + 6) k + 1)) (nI k) e2
        (by rw [e3]; dsimp only; rw [fm_u_off (by omega), r1]; exact q1)
        (by rw [e3]; dsimp only; rw [fm_u_at, r6]; omega)
        (by rw [e3]; dsimp only; rw [fm_u_at, r6, fm_u_off (by omega), r1]; omega)
      rw [e3] at kk
      refine mj_cvB kk (fm_o hb) rfl rfl rfl rfl rfl ⟨rfl, rfl⟩ rfl ?_
      exact rest _ ih
