set_option maxRecDepth 20000 in
set_option maxHeartbeats 2000000 in
theorem t_goBy {b t : Nat} (hb : fm_W b) (ht : fm_T t) (hd : t + 1 < b ∨ b + 10 < t) (S : fm_S) (N P : Nat) (hN : N ≤ 5) (hsz : S.1 t 1 = nI N) (hP : P < 2 ^ 31) (hp : S.1 b 10 = nI P) (hbd : wd_bd S.1 b) (held : Int32) : mj_big 5 63 [.ref b, .ref t, .int held] (fm_mk S) none (fm_mk (wd_gob S.1 b t N P held, S.2)) := by
  have k0 := t_readySet hb S held
  have k1 : ∀ (M' : Nat → Nat → Int32) (s : Int32), wd_eq S.1 M' b t → M' t 1 = nI N → mj_big 4 62 [.ref b, .int s, .ref t] (fm_mk (M', S.2)) (some (.int (ov (wd_fo S.1 b t N s 8)))) (fm_mk (M', S.2)) := by
    intro M' s he hs
    have := t_firstOf hb ht (M', S.2) N hN hs s
    dsimp only at this
    rwa [wd_fo_cg he] at this
  have k2 := t_goBy_2 hb S
  obtain ⟨hb, h0, h1, h2, h3, h4, h5, h6, h7, h8, h9⟩ := hb
  refine mj_ofB _ _ rfl rfl rfl ?_
  obtain ⟨F, hF⟩ : ∃ x, x = wd_gob S.1 b t N P held := ⟨_, rfl⟩
  rw [← hF]
  refine mj_auto6 [22, 77] 50 rfl ?_
  refine mj_cvB k0 (fm_o hb) rfl rfl rfl rfl rfl ⟨rfl, rfl⟩ rfl ?_
  refine mj_auto6 [22, 77] 50 rfl ?_
  refine mj_csB (t_bitCount _ _) rfl rfl rfl rfl rfl rfl rfl ?_
  refine fm_pI hb rfl rfl rfl rfl ?_
  refine mj_auto6 [22, 77] 50 rfl ?_
  refine fm_pI hb rfl rfl rfl rfl ?_
  refine mj_auto6 [22, 77] 50 rfl ?_
  dsimp only
  obtain ⟨M0, hM0⟩ : ∃ x, x = fm_u S.1 b 14 (jd_bc (wd_rset S.1 b held 8)) := ⟨_, rfl⟩
  rw [← hM0]
  have he0 : wd_eq S.1 M0 b t := by rw [hM0]; exact wd_eq_u hd
  have hp0 : M0 b 10 = nI P := by rw [hM0, fm_u_ix (by decide)]; exact hp
  have hs0 : M0 t 1 = nI N := by rw [hM0, fm_u_off (by omega)]; exact hsz
  obtain ⟨W0, hW0⟩ : ∃ x, x = wd_rset S.1 b held 8 := ⟨_, rfl⟩
  rw [← hW0]
  have lp : ∀ (n k : Nat) (w r : Int32) (x5 : Option Value), k + n = P → wd_pick S.1 b t N n w r = wd_pick S.1 b t N P W0 0 → mj_Rn 4 none kX9_goBy (fun v g => v = none ∧ g = fm_mk (F, S.2)) (fm_mk (fm_u M0 b 13 r, S.2)) 22 [some (.ref b), some (.ref t), some (.int held), some (.int w), some (.int (nI k)), x5] [] := by
    have fin : ∀ (k : Nat) (w : Int32) (x5 : Option Value), mj_Rn 4 none kX9_goBy (fun v g => v = none ∧ g = fm_mk (F, S.2)) (fm_mk (fm_u M0 b 13 (wd_pick S.1 b t N P W0 0), S.2)) 69 [some (.ref b), some (.ref t), some (.int held), some (.int w), some (.int (nI k)), x5] [] := by
      intro k w x5
      refine mj_auto6 [22, 77] 50 rfl ?_
      refine fm_pI hb rfl rfl rfl rfl ?_
      refine mj_auto6 [22, 77] 50 rfl ?_
      dsimp only
      refine k2 (fm_u (fm_u M0 b 13 (wd_pick S.1 b t N P W0 0)) b 15 0) ?_ _ _ _ _ F ?_ 8 0 rfl
      · intro q hq
        rw [fm_u_off (by omega), fm_u_off (by omega), fm_u_off (by omega), fm_u_off (by omega), hM0, fm_u_off (by omega), fm_u_off (by omega)]
        exact hbd q hq
      · rw [hF, wd_gob, hM0, hW0]
    intro n
    induction n with
    | zero =>
      intro k w r x5 hk hpk
      obtain rfl : k = P := by omega
      rw [wd_pick] at hpk
      rw [hpk]
      refine mj_begin6 [22, 77] 50 rfl ?_
      refine fm_gI hb rfl rfl rfl ?_
      dsimp only
      rw [fm_u_ix (by decide), hp0]
      refine mj_if rfl rfl (fun c1 => ?_) (fun c1 => absurd (nI_le (Nat.le_refl k) hP) c1)
      exact fin k w x5
    | succ n ih =>
      intro k w r x5 hk hpk
      have e1 : ¬ nI P ≤ nI k := nI_ge (by omega) hP
      rw [wd_pick] at hpk
      refine mj_begin6 [22, 77] 50 rfl ?_
      refine fm_gI hb rfl rfl rfl ?_
      dsimp only
      rw [fm_u_ix (by decide), hp0]
      refine mj_if rfl rfl (fun c1 => absurd c1 e1) (fun c1 => ?_)
      refine mj_auto6 [22, 77] 50 rfl ?_
      refine mj_if rfl rfl (fun c2 => ?_) (fun c2 => ?_)
      · rw [if_pos c2] at hpk
        rw [hpk]
        exact fin k w x5
      · rw [if_neg c2] at hpk
        have ih := ih (k + 1) _ _ (some (.int (1 <<< (ov (wd_fo S.1 b t N w 8) &&& 31)))) (by omega) hpk
        rw [← nI_1] at ih
        refine mj_auto6 [22, 77] 50 rfl ?_
        refine mj_cvB (k1 (fm_u M0 b 13 r) w (wd_eq_tr he0 (wd_eq_u hd)) (by rw [fm_u_off (by omega)]; exact hs0)) (fm_o hb) rfl rfl rfl rfl rfl ⟨rfl, rfl⟩ rfl ?_
        refine mj_auto6 [22, 77] 50 rfl ?_
        refine fm_gI hb rfl rfl rfl ?_
        refine mj_auto6 [22, 77] 50 rfl ?_
        refine fm_pI hb rfl rfl rfl rfl ?_
        refine mj_auto6 [22, 77] 50 rfl ?_
        dsimp only
        rw [fm_u_at, fm_u_u]
        exact ih
  exact lp P 0 W0 0 none (by omega) rfl
