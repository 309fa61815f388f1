/-! the class gathers the PARTS -/
def GW (g : gr) (n k : Nat) (M : Nat → Nat → Int32) : Prop := ∀ i, i < 64 → (i < k → M 56 i = nI (ffz g n i) ∧ (fpr g n i = true → M 55 i = nI (ffa g i))) ∧ (k ≤ i → M 56 i = 0)
section gath
variable {d n B q : Nat} {g gk : gr} {ts : List Nat} {rw : List Int64} {M0 M M1 : Nat → Nat → Int32} {L0 ML L1 : Nat → Nat → Int64} {R0 R R1 : Nat → Nat → Option Nat}
theorem C_fill {K : wKv} {a n : Nat} (ha : fm_sh a = .inl (0, n)) (hn : n < 2 ^ 31) (hd : 1 ≤ d) (x : Int32) (hK : ∀ M1, (∀ i, i < n → M1 a i = x) → fr (fun c _ => c = a) M M1 → K M1 ML R) : wV d 242 [.ref a, .int x] M ML R K :=
  wV_of (t_fill ha hn (M, ML, R) x) hd (hK _ (fun i hi => by dsimp only; rw [fm_row_row, jd_fi, if_pos hi]) (fr_row (fun _ => rfl)))
theorem C_gOf1 {K : wK} {x4 x5 x6 : Int32} (hd : 2 ≤ d) (hn : n ≤ 8) (hg : gok g B) (hB : B < 2 ^ 20) (hq : q < 8) (h0 : 0 < g q) (hK : ∀ M1, BC g ts rw M0 L0 M1 ML → GW g n (8 * (q + 1)) M1 → K (nI ((fid g n (8 * (q + 1))).length - (fid g n (8 * q)).length)) M1 ML R) : ∀ j k, k + j = 8 → ∀ {M : Nat → Nat → Int32}, BC g ts rw M0 L0 M ML → GW g n (8 * q + k) M → (∀ k', k' < k → fpr g n (8 * q + k') = true) → (fid g n (8 * q + k)).length = (fid g n (8 * q)).length + k → H35_64 d (nI q) (nI n) x4 x5 x6 (nI (ff g q)) (nI k) M ML R K := by
  have hs := hg.2.2.1
  obtain ⟨f1, f2⟩ := ff_lt hg hB hq h0
  have fin : ∀ k, k ≤ 8 → (∀ k', k ≤ k' → k' < 8 → ¬ fpr g n (8 * q + k') = true) → ∀ {M : Nat → Nat → Int32}, BC g ts rw M0 L0 M ML → GW g n (8 * q + k) M → (fid g n (8 * q + k)).length = (fid g n (8 * q)).length + k → K (nI k) M ML R := fun k hk hnp {M} b hG hl => by
    have e := fid_j (n := n) hg hq hk hnp
    have hK1 := hK M b (fun i hi => ⟨fun hik => ?_, fun hik => (hG i hi).2 (by omega)⟩)
    · rw [e, hl, show (fid g n (8 * q)).length + k - (fid g n (8 * q)).length = k by omega] at hK1
      exact hK1
    · by_cases z : i < 8 * q + k
      · exact (hG i hi).1 z
      · have np := hnp (i - 8 * q) (by omega) (by omega)
        rw [show 8 * q + (i - 8 * q) = i by omega] at np
        refine ⟨?_, fun w => absurd w np⟩
        rw [(hG i hi).2 (by omega), ffz, if_neg np]
        rfl
  intro j
  induction j with
  | zero =>
    intro k hk M b hG hp hl
    have : k = 8 := by omega
    subst this
    exact h35_64 ⟨fun _ => fin 8 (by omega) (fun k' h1 h2 => by omega) b hG hl, fun y => absurd ((nI_leI (a := 8) (b := 8) (by decide) (by decide)).mpr (by omega)) y⟩
  | succ j ih =>
    intro k hk M b hG hp hl
    have gt := ff_gt hg hq h0 k
    have gl := g_dl_lt (i := ff g q + k) hg (by omega) hq (by omega)
    have rl := g_rel_lt (i := ff g q + k) hg (by omega) hq (by omega)
    refine h35_64 ⟨fun y => absurd ((nI_leI (a := 8) (by decide) (by omega)).mp y) (by omega), fun _ => ?_⟩
    rw [nI_add]
    refine C_dl fm_W1 (by omega) b.1 hg hq h0 (by omega) ?_
    rw [b.1.2.1, nI_sub (show g 41 ≤ g_dl g q (ff g q + k) by omega)]
    refine ⟨fun y => ?_, fun y => ?_⟩
    · have y2 : g_dl g q (ff g q + k) - g 41 ≤ n := (nI_leI (by omega) (by omega)).mp y
      have hpk : fpr g n (8 * q + k) = true := (fpr_8 hg hq (by omega)).mpr ⟨h0, by omega⟩
      have hpos : (8 * q + k) / 8 = q ∧ (8 * q + k) % 8 = k := ⟨by omega, by omega⟩
      have ez : ffz g n (8 * q + k) = g_dl g q (ff g q + k) - g 41 := by
        rw [ffz, if_pos hpk, fdl, hpos.1, hpos.2]
      have ix : nI q * 8 + nI k = nI (8 * q + k) := by
        rw [show nI q * 8 = nI (q * 8) from nI_mul q 8, nI_add, Nat.mul_comm]
      have c5 := ((b.1.2.2.2 q hq).2.2.2.2 h0).2.2.1
      have hea := (hg.p hq h0).2.2.2.1
      refine C_rel fm_W1 (by omega) b.1 hg hq h0 (by omega) (by omega) ⟨q, rfl, hq, ?_⟩
      have nxt : ∀ {M5 M6 : Nat → Nat → Int32}, M5 = fm_u M 55 (8 * q + k) (nI (ffa g (8 * q + k))) → M6 = fm_u M5 56 (8 * q + k) (nI (g_dl g q (ff g q + k) - g 41)) → H35_64 d (nI q) (nI n) x4 x5 x6 (nI (ff g q)) (nI k + 1) M6 ML R K := fun {M5 M6} e5 e6 => by
        rw [nI_1]
        refine ih (k + 1) (by omega) ?_ (fun i hi => ⟨fun hik => ?_, fun hik => ?_⟩) (fun k' hk' => ?_) ?_
        · subst e6 e5; exact (b.u (by omega)).u (by omega)
        · by_cases z : i = 8 * q + k
          · subst e6 e5
            rw [z, fm_u_at, ← ez]
            refine ⟨rfl, fun _ => ?_⟩
            rw [fm_u_off (by decide), fm_u_at]
          · subst e6 e5
            rw [fm_u_ix z, fm_u_off (by decide), fm_u_off (by decide), fm_u_ix z]
            exact (hG i hi).1 (by omega)
        · subst e6 e5
          rw [fm_u_ix (by omega), fm_u_off (by decide)]
          exact (hG i hi).2 (by omega)
        · by_cases z : k' = k
          · rw [z]; exact hpk
          · exact hp k' (by omega)
        · rw [show 8 * q + (k + 1) = 8 * q + k + 1 by omega, fid_s, if_pos hpk, List.length_append, List.length_singleton, hl]
          omega
      rw [show M 6 q = nI (g (24 + q)) from c5]
      by_cases z : g (24 + q) = 1
      · have ea : ffa g (8 * q + k) = 0 := by rw [ffa, hpos.1, if_pos z]
        rw [z]
        refine ⟨fun w => absurd w (by decide), fun _ => ⟨8 * q + k, ix, by omega, fun M7 e7 => ⟨8 * q + k, ix, by omega, fun M8 e8 => nxt (by rw [ea]; exact e7) e8⟩⟩⟩
      · have ea : ffa g (8 * q + k) = g_rel g q (ff g q + k) - g 41 := by rw [ffa, hpos.1, hpos.2, if_neg z]
        rw [show g (24 + q) = 0 by omega]
        refine ⟨fun _ => R_max (by omega) ⟨8 * q + k, ix, by omega, fun M5 e5 => ⟨8 * q + k, ix, by omega, fun M6 e6 => nxt ?_ e6⟩⟩, fun w => absurd rfl w⟩
        rw [ea, e5, b.1.2.1, (jd_mx (by omega) (by omega)).1]
    · have np : ¬ fpr g n (8 * q + k) = true := fun w => y ((nI_leI (by omega) (by omega)).mpr (by have := ((fpr_8 hg hq (by omega)).mp w).2; omega))
      exact fin k (by omega) (fun k' h1 h2 => fpr_up hg hq h1 h2 np) b hG hl
theorem C_gOf {K : wK} (hd : 3 ≤ d) (hn : n ≤ 8) (hg : gok g B) (hB : B < 2 ^ 20) (hq : q < 8) (h0 : 0 < g q) (b : BC g ts rw M0 L0 M ML) (hG : GW g n (8 * q) M) (hK : ∀ M1, BC g ts rw M0 L0 M1 ML → GW g n (8 * (q + 1)) M1 → K (nI ((fid g n (8 * (q + 1))).length - (fid g n (8 * q)).length)) M1 ML R) : wI d 35 [.ref 54, .ref 1, .int (nI q), .int (nI n)] M ML R K := by
  obtain ⟨d, rfl⟩ : ∃ e, d = e + 1 := ⟨d - 1, by omega⟩
  obtain ⟨a1, a2, a3, a4, a5⟩ := hg.p hq h0
  have hs := hg.2.2.1
  have c3 : M 3 q = nI (g (8 + q)) := (b.1.2.2.2 q hq).1
  obtain ⟨c2, c5, c6, c7, -⟩ := (b.1.2.2.2 q hq).2.2.2.2 h0
  have c2' : M 2 q = nI (g q) := c2
  have c5' : M 5 q = nI (g (16 + q)) := c5
  have c7' : M 7 q = nI (g (32 + q)) := c7
  have hm : (g 41 - g (16 + q)) * g q ≤ B * 12 := Nat.mul_le_mul (by omega) (by omega)
  have hdv := Nat.div_le_self ((g 41 - g (16 + q)) * g q) (g (8 + q))
  refine w35 ⟨q, rfl, hq, q, rfl, hq, q, rfl, hq, ?_⟩
  rw [c3, c2', c5', b.1.2.1, nI_sub (show g (16 + q) ≤ g 41 by omega), nI_mul]
  refine ⟨fun y => absurd y (nI_nle (by omega) (by omega)), fun _ => ⟨nI_ne0 (by omega) (by omega), q, rfl, hq, ?_⟩⟩
  rw [c7', nI_div (by omega) (by omega), nI_1, nI_1]
  refine R_max (by omega) ?_
  rw [jd_max_n (by omega) (by omega)]
  exact C_gOf1 (by omega) hn hg hB hq h0 hK 8 0 (by omega) b hG (fun k' hk' => absurd hk' (by omega)) rfl
theorem fid_le (q : Nat) : ∀ k, (fid g n q).length ≤ (fid g n (q + k)).length := by
  intro k
  induction k with
  | zero => exact Nat.le_refl _
  | succ k ih =>
    rw [show q + (k + 1) = q + k + 1 by omega, fid_s]
    split
    · rw [List.length_append]; omega
    · exact ih
theorem C_gath1 {K : wK} (hd : 3 ≤ d) (hn : n ≤ 8) (hg : gok g B) (hB : B < 2 ^ 20) (hK : ∀ M1, BC g ts rw M0 L0 M1 ML → GW g n 64 M1 → K (nI (fid g n 64).length) M1 ML R) : ∀ j q, q + j = 8 → ∀ {M : Nat → Nat → Int32}, BC g ts rw M0 L0 M ML → GW g n (8 * q) M → H34_13 d (nI n) (nI (fid g n (8 * q)).length) (nI q) M ML R K := by
  intro j
  induction j with
  | zero =>
    intro q hq M b hG
    have : q = 8 := by omega
    subst this
    exact h34_13 ⟨fun _ => hK M b hG, fun y => absurd (by decide) y⟩
  | succ j ih =>
    intro q hq M b hG
    have hq8 : q < 8 := by omega
    refine h34_13 ⟨fun y => absurd ((nI_leI (a := 8) (by decide) (by omega)).mp y) (by omega), fun _ => ?_⟩
    rw [nI_1]
    refine C_th fm_W1 (by omega) b.1 hg (nI q) (fun q' hq' e h0 => ?_) (fun hno => ?_)
    · have e := nI_inj8 hq8 hq' e
      subst e
      refine ⟨fun w => absurd w (by decide), fun _ => C_gOf hd hn hg hB hq8 h0 b hG (fun M1 b1 hG1 => ?_)⟩
      have hle : (fid g n (8 * q)).length ≤ (fid g n (8 * (q + 1))).length := fid_le (8 * q) 8
      rw [nI_add, show (fid g n (8 * q)).length + ((fid g n (8 * (q + 1))).length - (fid g n (8 * q)).length) = (fid g n (8 * (q + 1))).length by omega]
      exact ih (q + 1) (by omega) b1 hG1
    · have h0 : ¬ 0 < g q := fun w => hno ((th_nI hq8).mpr w)
      refine ⟨fun _ => ?_, fun w => absurd rfl w⟩
      have np : ∀ k', 0 ≤ k' → k' < 8 → ¬ fpr g n (8 * q + k') = true := fun k' _ hk' w => h0 ((fpr_8 hg hq8 hk').mp w).1
      have e := fid_j (n := n) (k := 0) hg hq8 (by omega) np
      have hi := ih (q + 1) (by omega) b (fun i hi => ⟨fun hik => ?_, fun hik => (hG i hi).2 (by omega)⟩)
      · rw [e] at hi; exact hi
      · by_cases z : i < 8 * q
        · exact (hG i hi).1 z
        · have np := np (i - 8 * q) (by omega) (by omega)
          rw [show 8 * q + (i - 8 * q) = i by omega] at np
          refine ⟨?_, fun w => absurd w np⟩
          rw [(hG i hi).2 (by omega), ffz, if_neg np]
          rfl
theorem C_gath {K : wK} (hd : 4 ≤ d) (hn : n ≤ 8) (hg : gok g B) (hB : B < 2 ^ 20) (b : BC g ts rw M0 L0 M ML) (hK : ∀ M1, BC g ts rw M0 L0 M1 ML → GW g n 64 M1 → K (nI (fid g n 64).length) M1 ML R) : wI d 34 [.ref 54, .ref 1, .int (nI n)] M ML R K := by
  obtain ⟨d, rfl⟩ : ∃ e, d = e + 1 := ⟨d - 1, by omega⟩
  refine w34 (C_fill fm_s56 (by decide) (by omega) 0 (fun M1 z1 f1 => ?_))
  exact C_gath1 (by omega) hn hg hB hK 8 0 (by omega) (b.f (f1.mono (fun a i z => by omega))) (fun i hi => ⟨fun w => absurd w (by omega), fun _ => z1 i hi⟩)
end gath
