theorem wd_g2_done {M : Nat → Nat → Int32} {b j : Nat} : ∀ k, wd_g2 M b k (b + 6) j = M (b + 6) j ∨ (j < k ∧ wd_g2 M b k (b + 6) j = M (b + 6) j + 1) := by
  intro k
  induction k with
  | zero => exact Or.inl rfl
  | succ k ih =>
    rw [wd_g2, wd_gb_row (by omega)]
    by_cases hj : j = k
    · subst hj
      have r6 : wd_g2 M b j (b + 6) j = M (b + 6) j := wd_g2_6 j (Nat.le_refl j)
      unfold wd_ga
      split
      · exact Or.inl r6
      · rw [wd_look_off (by omega), fm_u_at, r6]
        exact Or.inr ⟨by omega, rfl⟩
    · rw [wd_ga_6 hj]
      rcases ih with h | ⟨h1, h2⟩
      · exact Or.inl h
      · exact Or.inr ⟨by omega, h2⟩
theorem wd_gob_off {M : Nat → Nat → Int32} {b t N P a : Nat} {held : Int32} (h : a < b ∨ (b < a ∧ a < b + 6) ∨ b + 10 < a) : wd_gob M b t N P held a = M a := by
  unfold wd_gob
  try dsimp only
  rw [fm_u_off (by omega), wd_g2_row h, fm_u_off (by omega), fm_u_off (by omega), fm_u_off (by omega)]
theorem wd_gob_ix {M : Nat → Nat → Int32} {b t N P i : Nat} {held : Int32} (h1 : ¬ i = 11) (h2 : ¬ i = 12) (h3 : ¬ i = 13) (h4 : ¬ i = 14) (h5 : ¬ i = 15) : wd_gob M b t N P held b i = M b i := by
  unfold wd_gob
  try dsimp only
  rw [fm_u_ix h1, wd_g2_ix h5 h2, fm_u_ix h5, fm_u_ix h3, fm_u_ix h4]
theorem wd_gob_done {M : Nat → Nat → Int32} {b t N P : Nat} {held : Int32} (j : Nat) : wd_gob M b t N P held (b + 6) j = M (b + 6) j ∨ wd_gob M b t N P held (b + 6) j = M (b + 6) j + 1 := by
  unfold wd_gob
  try dsimp only
  rw [fm_u_off (by omega)]
  rcases wd_g2_done (M := fm_u (fm_u (fm_u M b 14 (jd_bc (wd_rset M b held 8))) b 13 (wd_pick M b t N P (wd_rset M b held 8) 0)) b 15 0) (b := b) (j := j) 8 with h | ⟨-, h⟩
  · rw [h, fm_u_off (by omega), fm_u_off (by omega), fm_u_off (by omega)]
    exact Or.inl rfl
  · rw [h, fm_u_off (by omega), fm_u_off (by omega), fm_u_off (by omega)]
    exact Or.inr rfl
/-- E and DONE are small -/
def wd_bn (M : Nat → Nat → Int32) (b B : Nat) : Prop := ∀ q, q < 8 → 0 ≤ (M (b + 1) q).toInt ∧ (M (b + 1) q).toInt ≤ 12 ∧ 0 ≤ (M (b + 6) q).toInt ∧ (M (b + 6) q).toInt ≤ B
theorem wd_bn.bd {M : Nat → Nat → Int32} {b B : Nat} (h : wd_bn M b B) (hB : B < 2 ^ 30) : wd_bd M b := fun q hq => by
  obtain ⟨h1, h2, h3, h4⟩ := h q hq
  exact ⟨h1, h2, h3, by omega⟩
theorem wd_bn.gob {M : Nat → Nat → Int32} {b B t N P : Nat} {held : Int32} (h : wd_bn M b B) (hB : B < 2 ^ 30) : wd_bn (wd_gob M b t N P held) b (B + 1) := fun q hq => by
  obtain ⟨h1, h2, h3, h4⟩ := h q hq
  rw [wd_gob_off (a := b + 1) (by omega)]
  refine ⟨h1, h2, ?_⟩
  rcases wd_gob_done (M := M) (b := b) (t := t) (N := N) (P := P) (held := held) q with e | e
  · rw [e]; omega
  · rw [e, i32_inc h3 (by omega)]; omega
theorem wd_bn.row {M M' : Nat → Nat → Int32} {b B : Nat} (h : wd_bn M b B) (h1 : M' (b + 1) = M (b + 1)) (h6 : M' (b + 6) = M (b + 6)) : wd_bn M' b B := fun q hq => by rw [h1, h6]; exact h q hq
/-- n SLOTS go by: the memory, and how many PARTS were run -/
def wd_gm (M : Nat → Nat → Int32) (b t N P : Nat) : Nat → (Nat → Nat → Int32) × Int32
  | 0 => (fm_u M b 16 0, 0)
  | k + 1 =>
    let M1 := wd_gob (wd_gm M b t N P k).1 b t N P (-1)
    (if M1 b 10 ≤ jd_bc (M1 b 13) then M1 else fm_u M1 b 16 (M1 b 16 + 1), (wd_gm M b t N P k).2 + jd_bc (M1 b 13))
theorem wd_gm_off {M : Nat → Nat → Int32} {b t N P a : Nat} (h : a < b ∨ (b < a ∧ a < b + 6) ∨ b + 10 < a) : ∀ k, (wd_gm M b t N P k).1 a = M a := by
  intro k
  induction k with
  | zero => simp only [wd_gm]; rw [fm_u_off (by omega)]
  | succ k ih =>
    simp only [wd_gm]
    split
    · rw [wd_gob_off h, ih]
    · rw [fm_u_off (by omega), wd_gob_off h, ih]
theorem wd_gm_10 {M : Nat → Nat → Int32} {b t N P : Nat} : ∀ k, (wd_gm M b t N P k).1 b 10 = M b 10 := by
  intro k
  induction k with
  | zero => simp only [wd_gm]; rw [fm_u_ix (by decide)]
  | succ k ih =>
    simp only [wd_gm]
    split
    · rw [wd_gob_ix (by decide) (by decide) (by decide) (by decide) (by decide), ih]
    · rw [fm_u_ix (by decide), wd_gob_ix (by decide) (by decide) (by decide) (by decide) (by decide), ih]
theorem wd_gm_bn {M : Nat → Nat → Int32} {b t N P B : Nat} (h : wd_bn M b B) : ∀ k, B + k < 2 ^ 30 → wd_bn (wd_gm M b t N P k).1 b (B + k) := by
  intro k
  induction k with
  | zero => intro _; exact h.row (fm_u_off (by omega)) (fm_u_off (by omega))
  | succ k ih =>
    intro hk
    have h1 := (ih (by omega)).gob (t := t) (N := N) (P := P) (held := -1) (by omega)
    simp only [wd_gm]
    split
    · exact h1
    · exact h1.row (fm_u_off (by omega)) (fm_u_off (by omega))
def wd_gmA (M : Nat → Nat → Int32) (b t N P : Nat) (n : Int32) : Int32 := if n < 0 then -1 else if n ≤ 60 then (wd_gm M b t N P n.toNatClampNeg).2 else -1
def wd_gmM (M : Nat → Nat → Int32) (b t N P : Nat) (n : Int32) : Nat → Nat → Int32 := if n < 0 then M else if n ≤ 60 then (wd_gm M b t N P n.toNatClampNeg).1 else M
set_option maxRecDepth 20000 in
set_option maxHeartbeats 2000000 in
theorem t_goByMany {b t : Nat} (hb : fm_W b) (ht : fm_T t) (hd : t + 1 < b ∨ b + 10 < t) (S : fm_S) (N P B : Nat) (hN : N ≤ 5) (hsz : S.1 t 1 = nI N) (hP : P < 2 ^ 31) (hp : S.1 b 10 = nI P) (hbn : wd_bn S.1 b B) (hB : B < 2 ^ 29) (n : Int32) : mj_big 6 64 [.ref b, .int n, .ref t] (fm_mk S) (some (.int (wd_gmA S.1 b t N P n))) (fm_mk (wd_gmM S.1 b t N P n, S.2)) := by
  have k0 : ∀ k, k ≤ 60 → mj_big 5 63 [.ref b, .ref t, .int (-1)] (fm_mk ((wd_gm S.1 b t N P k).1, S.2)) none (fm_mk (wd_gob (wd_gm S.1 b t N P k).1 b t N P (-1), S.2)) := by
    intro k hk
    exact t_goBy hb ht hd ((wd_gm S.1 b t N P k).1, S.2) N P hN (by dsimp only; rw [wd_gm_off (by omega)]; exact hsz) hP (by dsimp only; rw [wd_gm_10]; exact hp) ((wd_gm_bn hbn k (by omega)).bd (by omega)) (-1)
  obtain ⟨hb, h0, h1, h2, h3, h4, h5, h6, h7, h8, h9⟩ := hb
  refine mj_ofB _ _ rfl rfl rfl ?_
  refine mj_auto6 [22] 50 rfl ?_
  refine mj_if rfl rfl (fun c1 => ?_) (fun c1 => ?_)
  · refine mj_auto6 [22] 50 rfl ?_
    exact mj_rt rfl rfl rfl ⟨by rw [wd_gmA, if_pos c1], by rw [wd_gmM, if_pos c1]⟩
  refine mj_auto6 [22] 50 rfl ?_
  refine mj_if rfl rfl (fun c2 => ?_) (fun c2 => ?_)
  rotate_left
  · refine mj_auto6 [22] 50 rfl ?_
    exact mj_rt rfl rfl rfl ⟨by rw [wd_gmA, if_neg c1, if_neg c2], by rw [wd_gmM, if_neg c1, if_neg c2]⟩
  rw [wd_gmA, wd_gmM, if_neg c1, if_pos c2, if_neg c1, if_pos c2]
  obtain ⟨m, hm, rfl⟩ := nI_of2 (M := 60) (n := 60) rfl c1 c2
  rw [nI_clamp (by omega)]
  obtain ⟨F, hF⟩ : ∃ x, x = wd_gm S.1 b t N P m := ⟨_, rfl⟩
  rw [← hF]
  have lp : ∀ (n k : Nat) (x5 : Option Value), k + n = m → mj_Rn 5 (some .int) kX9_goByMany (fun v g => v = some (.int F.2) ∧ g = fm_mk (F.1, S.2)) (fm_mk ((wd_gm S.1 b t N P k).1, S.2)) 22 [some (.ref b), some (.int (nI m)), some (.ref t), some (.int (wd_gm S.1 b t N P k).2), some (.int (nI k)), x5] [] := by
    intro n
    induction n with
    | zero =>
      intro k x5 hk
      obtain rfl : k = m := by omega
      refine mj_begin6 [22] 50 rfl ?_
      refine mj_if rfl rfl (fun c3 => ?_) (fun c3 => absurd (nI_le (Nat.le_refl k) (by omega)) c3)
      refine mj_auto6 [22] 50 rfl ?_
      exact mj_rt rfl rfl rfl ⟨by rw [hF], by rw [hF]⟩
    | succ n ih =>
      intro k x5 hk
      clear hF
      have e1 : ¬ nI m ≤ nI k := nI_ge (by omega) (by omega)
      have ih := fun x5 => ih (k + 1) x5 (by omega)
      simp only [← nI_1, wd_gm] at ih
      refine mj_begin6 [22] 50 rfl ?_
      refine mj_if rfl rfl (fun c3 => absurd c3 e1) (fun c3 => ?_)
      refine mj_auto6 [22] 50 rfl ?_
      refine mj_cvB (k0 k (by omega)) (fm_o hb) rfl rfl rfl rfl rfl ⟨rfl, rfl⟩ rfl ?_
      refine mj_auto6 [22] 50 rfl ?_
      refine fm_gI hb rfl rfl rfl ?_
      refine mj_csB (t_bitCount _ _) rfl rfl rfl rfl rfl rfl rfl ?_
      refine mj_auto6 [22] 50 rfl ?_
      refine fm_gI hb rfl rfl rfl ?_
      refine mj_if rfl rfl (fun c4 => ?_) (fun c4 => ?_)
      · refine mj_auto6 [22] 50 rfl ?_
        dsimp only at c4 ⊢
        rw [if_pos c4] at ih
        exact ih _
      · refine mj_auto6 [22] 50 rfl ?_
        refine fm_gI hb rfl rfl rfl ?_
        refine mj_auto6 [22] 50 rfl ?_
        refine fm_pI hb rfl rfl rfl rfl ?_
        refine mj_auto6 [22] 50 rfl ?_
        dsimp only at c4 ⊢
        rw [if_neg c4] at ih
        exact ih _
  refine mj_auto6 [22] 50 rfl ?_
  refine fm_pI hb rfl rfl rfl rfl ?_
  refine mj_auto6 [22] 50 rfl ?_
  exact lp m 0 none (by omega)
