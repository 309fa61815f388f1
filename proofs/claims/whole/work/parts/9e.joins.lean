/-! joins of the class -/
def rdS (tx : List Nat) (bd : Nat) : Nat → Nat → gr → Nat → Sum Nat (Nat × gr)
  | 0, p, _, _ => .inl p
  | m + 1, p, gk, k => match g_lf gk 8 0 with
    | none => .inl p
    | some q => match (rdL tx bd p).2.2 with
      | none => .inl (rdL tx bd p).1
      | some t => if (rdL tx bd p).2.1 < bd then (if cp tx (rdL tx bd p).2.1 = 59 then rdS tx bd m ((rdL tx bd p).2.1 + 1) (g_en gk q t) (k + 1) else .inl (rdL tx bd p).2.1) else if tx.length ≤ bd then .inr (k, g_en gk q t) else .inl bd
section joins
variable {d B b r bd p n : Nat} {g gk g' u : gr} {ts tx tx' t' : List Nat} {rw rw' : List Int64} {un un' : List gr} {kp kp' : Nat → Option gr} {he sa : List (Nat × Nat)} {M0 M M1 : Nat → Nat → Int32} {L0 ML L1 : Nat → Nat → Int64} {R0 R R1 : Nat → Nat → Option Nat}
theorem rdL_le (hp : p ≤ bd) : (rdL tx bd p).1 ≤ bd ∧ (rdL tx bd p).2.1 ≤ bd := by
  obtain ⟨a1, a2, a3⟩ := rdN_le (tx := tx) hp
  unfold rdL
  unfold rdL2
  generalize (rdN tx bd p) = e at *
  split
  · dsimp only; omega
  next z =>
    split
    · dsimp only; omega
    next y =>
      obtain ⟨b1, b2, b3⟩ := rdN_le (tx := tx) (show e.2 + 1 ≤ bd by omega)
      generalize (rdN tx bd (e.2 + 1)) = q at *
      repeat' split
      all_goals (dsimp only; omega)
theorem rls_s {m : Nat} {k : Int32} : rls b bd n (m + 1) k p M = if (rl (M 39) bd p (wd_lf M b 8 0)).1 = -1 then (if nI (rl (M 39) bd p (wd_lf M b 8 0)).2.1 < nI bd then (if M 39 (rl (M 39) bd p (wd_lf M b 8 0)).2.1 = 59 then rls b bd n m (k + 1) ((rl (M 39) bd p (wd_lf M b 8 0)).2.1 + 1) (fm_u (rl_M M b (wd_lf M b 8 0) (rl (M 39) bd p (wd_lf M b 8 0))) 38 2 (nI ((rl (M 39) bd p (wd_lf M b 8 0)).2.1 + 1))) else (-1 - nI (rl (M 39) bd p (wd_lf M b 8 0)).2.1, rl_M M b (wd_lf M b 8 0) (rl (M 39) bd p (wd_lf M b 8 0)))) else if nI n ≤ nI bd then (k, rl_M M b (wd_lf M b 8 0) (rl (M 39) bd p (wd_lf M b 8 0))) else (-1 - nI bd, rl_M M b (wd_lf M b 8 0) (rl (M 39) bd p (wd_lf M b 8 0)))) else (-1 - (rl (M 39) bd p (wd_lf M b 8 0)).1, rl_M M b (wd_lf M b 8 0) (rl (M 39) bd p (wd_lf M b 8 0))) := rfl
abbrev LF (a i : Nat) : Prop := (23 ≤ a ∧ a ≤ 33) ∨ (a = 38 ∧ i = 2)
theorem c_rls (hx : tx.length ≤ 80) (hc : ∀ c ∈ tx, c < 256) (hb : bd ≤ tx.length) (hB : B < 2 ^ 22) : ∀ m p k (gk : gr) (M : Nat → Nat → Int32), p ≤ bd → 1 ≤ k → k + m ≤ 9 → cr M 23 gk → gpk gk B → (∀ k, k < tx.length → M 39 k = nI (cp tx k)) → fr LF M (rls 23 bd tx.length m (nI k) p M).2 ∧ (match rdS tx bd m p gk k with
    | .inl f => (rls 23 bd tx.length m (nI k) p M).1 = -1 - nI f ∧ f ≤ 80
    | .inr x => (rls 23 bd tx.length m (nI k) p M).1 = nI x.1 ∧ 1 ≤ x.1 ∧ x.1 ≤ 8 ∧ cr (rls 23 bd tx.length m (nI k) p M).2 23 x.2 ∧ gpk x.2 B) := by
  intro m
  induction m with
  | zero =>
    intro p k gk M hp hk1 hk cM gM fM
    exact ⟨fr.rfl, rfl, by omega⟩
  | succ m ih =>
    intro p k gk M hp hk1 hk cM gM fM
    rw [rls_s, rdS, c_lf2 cM gM 8 0 (by omega)]
    cases e : g_lf gk 8 0 with
    | none =>
      have er : rl (M 39) bd p (po none) = (nI p, p, none) := by
        rw [rl, if_neg (fun v => v rfl), rl2, if_pos rfl]
      rw [er]
      dsimp only
      rw [if_neg (nI_nm1 (by omega))]
      exact ⟨fr_u (by omega), rfl, by omega⟩
    | some q =>
      obtain ⟨q1, q2, q3⟩ := g_lf_some 8 0 q e
      have hl := rdN_le (tx := tx) hp
      have er : rl (M 39) bd p (po (some q)) = rlI (rdL tx bd p) := by
        rw [rl, if_pos (show ¬ po (some q) = -1 from nI_nm1 (by omega)), c_rn fM hc hb p]
        exact c_rl2 fM hc hb hl.2.2 hl.1
      have hle := rdL_le (tx := tx) hp
      rw [er]
      dsimp only
      unfold rlI
      cases e2 : (rdL tx bd p).2.2 with
      | none =>
        dsimp only
        rw [if_neg (nI_nm1 (by omega))]
        exact ⟨fr_u (by omega), rfl, by omega⟩
      | some t =>
        obtain ⟨ht, hlt⟩ := rdL_ok hp e2
        generalize (rdL tx bd p).2.1 = pe at *
        have e3 : rl_M M 23 (po (some q)) (-1, pe, some (tI t)) = wd_entM (fm_u M 38 2 (nI pe)) 23 q (nI t.1) (nI t.2.1) (nI t.2.2) := by
          show wd_entM (fm_u M 38 2 (nI pe)) 23 (nI q).toNatClampNeg _ _ _ = _
          rw [nI_clamp (by omega)]
          rfl
        dsimp only
        rw [e3, if_pos rfl]
        have f1 : fr LF M (fm_u M 38 2 (nI pe)) := fr_u (by omega)
        have c1 : cr (fm_u M 38 2 (nI pe)) 23 gk := cr_fr cM (fun a i y1 y2 _ => by rw [fm_u_off (by omega)])
        have c2 := cr_en c1 (by omega) ht (by have := gM.2.2.1; omega) (q := q)
        have g2 := gpk_en (q := q) gM (by omega) ht
        have f2 : fr LF M (wd_entM (fm_u M 38 2 (nI pe)) 23 q (nI t.1) (nI t.2.1) (nI t.2.2)) := fun a i z => by
          by_cases y : a ≤ 23 ∨ 33 < a
          · rw [wd_entM_off (by omega)]; exact f1 a i z
          · exact absurd (Or.inl (by omega)) z
        generalize wd_entM (fm_u M 38 2 (nI pe)) 23 q (nI t.1) (nI t.2.1) (nI t.2.2) = M2 at *
        by_cases z : pe < bd
        · rw [if_pos ((nI_ltI (by omega) (by omega)).mpr z), if_pos z, fM pe (by omega)]
          have hcl := cp_lt hc (show pe < tx.length by omega)
          by_cases y : cp tx pe = 59
          · rw [if_pos (show nI (cp tx pe) = 59 by rw [y]; rfl), if_pos y, nI_1]
            have f3 : fr LF M (fm_u M2 38 2 (nI (pe + 1))) := fr_u2 f2 (by omega)
            obtain ⟨i1, i2⟩ := ih (pe + 1) (k + 1) (g_en gk q t) (fm_u M2 38 2 (nI (pe + 1))) (by omega) (by omega) (by omega) (cr_fr c2 (fun a i y1 y2 _ => by rw [fm_u_off (by omega)])) g2 (fun j hj => by rw [f3 39 j (by omega)]; exact fM j hj)
            exact ⟨f3.tr i1, i2⟩
          · rw [if_neg (show ¬ nI (cp tx pe) = 59 from fun v => y ((nI_eq (b := 59) (by omega) (by decide)).mp v)), if_neg y]
            exact ⟨f2, rfl, by omega⟩
        · rw [if_neg (fun v => z ((nI_ltI (by omega) (by omega)).mp v)), if_neg z]
          by_cases y : tx.length ≤ bd
          · rw [if_pos ((nI_leI (by omega) (by omega)).mpr y), if_pos y]
            exact ⟨f2, rfl, hk1, by show k ≤ 8; omega, c2, g2⟩
          · rw [if_neg (fun v => y ((nI_leI (by omega) (by omega)).mp v)), if_neg y]
            exact ⟨f2, rfl, by omega⟩
end joins
