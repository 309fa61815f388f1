/-! flow of the reference -/
section rflow
variable {d n B q x : Nat} {g gk : gr} {ts : List Nat} {rw : List Int64} {M0 M M1 : Nat → Nat → Int32} {L0 ML L1 : Nat → Nat → Int64} {R0 R R1 : Nat → Nat → Option Nat}
theorem FD_fr {fa fz : Nat → Nat} {ids : List Nat} (h : FD fa fz ids M) (f : ∀ a i, a = 230 ∨ (a = 219 ∧ i = 28) → M1 a i = M a i) : FD fa fz ids M1 := ⟨fun x hx => by rw [f _ _ (by omega), f _ _ (by omega), f _ _ (by omega)]; exact h.1 x hx, by rw [f _ _ (by omega)]; exact h.2⟩
theorem FD_add {fa fz : Nat → Nat} {ids : List Nat} {i : Nat} (h : FD fa fz ids M) : FD fa fz (ids ++ [i]) (fm_u (fm_u (fm_u (fm_u M 230 (3 * ids.length) (nI (i / 8))) 230 (3 * ids.length + 1) (nI (fa i))) 230 (3 * ids.length + 2) (nI (fz i))) 219 28 (nI (ids.length + 1))) := by
  refine ⟨fun x hx => ?_, by rw [fm_u_at, List.length_append, List.length_singleton]⟩
  rw [List.length_append, List.length_singleton] at hx
  rw [fm_u_off (by decide)]
  by_cases z : x = ids.length
  · rw [z, gd_last]
    refine ⟨?_, ?_, ?_⟩
    · rw [fm_u_ix (by omega), fm_u_ix (by omega), fm_u_at]
    · rw [fm_u_ix (by omega), fm_u_at]
    · rw [fm_u_at]
  · rw [gd_app (by omega)]
    refine ⟨?_, ?_, ?_⟩
    · rw [fm_u_ix (by omega), fm_u_ix (by omega), fm_u_ix (by omega)]; exact (h.1 x (by omega)).1
    · rw [fm_u_ix (by omega), fm_u_ix (by omega), fm_u_ix (by omega)]; exact (h.1 x (by omega)).2.1
    · rw [fm_u_ix (by omega), fm_u_ix (by omega), fm_u_ix (by omega)]; exact (h.1 x (by omega)).2.2
/-- layDue, the PARTS of a TASK -/
theorem R_due2 {K : wKv} (hd : 1 ≤ d) (hn : n ≤ 8) (hg : gok g B) (hB : B < 2 ^ 20) (hq : q < 8) (h0 : 0 < g q) (hK : ∀ M1, BR g ts rw M0 L0 R0 M1 ML R → FD (ffa g) (ffz g n) (fid g n (8 * (q + 1))) M1 → H200_7 d (nI n) (nI (q + 1)) M1 ML R K) : ∀ j k M, k + j = 8 → BR g ts rw M0 L0 R0 M ML R → FD (ffa g) (ffz g n) (fid g n (8 * q + k)) M → H200_25 d (nI n) (nI q) (nI (ff g q + k)) M ML R K := by
  have hs := hg.2.2.1
  obtain ⟨f1, f2⟩ := ff_lt hg hB hq h0
  have stop : ∀ k M, k ≤ 8 → (∀ k', k ≤ k' → k' < 8 → ¬ fpr g n (8 * q + k') = true) → g 41 + n < g_dl g q (ff g q + k) → BR g ts rw M0 L0 R0 M ML R → FD (ffa g) (ffz g n) (fid g n (8 * q + k)) M → H200_25 d (nI n) (nI q) (nI (ff g q + k)) M ML R K := fun k M hk hnp hdl b hD => by
    have gl := g_dl_lt (i := ff g q + k) hg (by omega) hq (by omega)
    refine h200_25 (R_th fm_N220 hd b.1 hg hq ?_)
    rw [if_pos h0]
    refine ⟨fun w => absurd w (by decide), fun _ => R_dl fm_N220 hd b.1 hg (by omega) hq h0 (by omega) ?_⟩
    rw [b.1 41 (by omega), nI_add, nI_1]
    refine ⟨fun _ => hK M b (by rw [fid_j hg hq hk hnp]; exact hD), fun w => absurd ((nI_ltI (by omega) (by omega)).mpr hdl) w⟩
  intro j
  induction j with
  | zero =>
    intro k M hk b hD
    have := ff_gt hg hq h0 k
    exact stop k M (by omega) (fun k' h1 h2 => by omega) (by omega) b hD
  | succ j ih =>
    intro k M hk b hD
    have gt := ff_gt hg hq h0 k
    by_cases z : g 41 + n < g_dl g q (ff g q + k)
    · exact stop k M (by omega) (fun k' h1 h2 => fpr_up hg hq h1 h2 (fun w => by have := ((fpr_8 hg hq (by omega)).mp w).2; omega)) z b hD
    · have hpk : fpr g n (8 * q + k) = true := (fpr_8 hg hq (by omega)).mpr ⟨h0, by omega⟩
      have hpos : (8 * q + k) / 8 = q ∧ (8 * q + k) % 8 = k := ⟨by omega, by omega⟩
      have ez : ffz g n (8 * q + k) = g_dl g q (ff g q + k) - g 41 := by
        rw [ffz, if_pos hpk, fdl, hpos.1, hpos.2]
      have hea := (hg.p hq h0).2.2.2.1
      have gl := g_dl_lt (i := ff g q + k) hg (by omega) hq (by omega)
      have rl := g_rel_lt (i := ff g q + k) hg (by omega) hq (by omega)
      have hL : (fid g n (8 * q + k)).length ≤ 63 := Nat.le_trans (fid_len _) (by omega)
      have e3 : (3 : Int32) * nI (fid g n (8 * q + k)).length = nI (3 * (fid g n (8 * q + k)).length) := nI_mul 3 _
      have e31 : (3 : Int32) * nI (fid g n (8 * q + k)).length + 1 = nI (3 * (fid g n (8 * q + k)).length + 1) := by rw [e3]; exact nI_1 _
      have e32 : (3 : Int32) * nI (fid g n (8 * q + k)).length + 2 = nI (3 * (fid g n (8 * q + k)).length + 2) := by rw [e3]; exact nI_add _ 2
      have es : fid g n (8 * q + (k + 1)) = fid g n (8 * q + k) ++ [8 * q + k] := by
        rw [show 8 * q + (k + 1) = 8 * q + k + 1 by omega, fid_s, if_pos hpk]
      refine h200_25 (R_th fm_N220 hd b.1 hg hq ?_)
      rw [if_pos h0]
      refine ⟨fun w => absurd w (by decide), fun _ => R_dl fm_N220 hd b.1 hg (by omega) hq h0 (by omega) ?_⟩
      rw [b.1 41 (by omega), nI_add]
      refine ⟨fun w => absurd ((nI_ltI (by omega) (by omega)).mp w) z, fun _ => R_dl fm_N220 hd b.1 hg (by omega) hq h0 (by omega) ?_⟩
      refine ⟨fun _ => ?_, fun w => absurd (by rw [b.1 41 (by omega)]; exact (nI_ltI (by omega) (by omega)).mpr (by omega)) w⟩
      rw [hD.2]
      -- the PART is laid
      generalize hLd : (fid g n (8 * q + k)).length = L at *
      refine ⟨3 * L, e3, by omega, fun M4 e4 => ⟨24 + q, ix24 q, by omega, ?_⟩⟩
      have b4 : BR g ts rw M0 L0 R0 M4 ML R := by subst e4; exact b.u (by omega)
      have d4 : M4 219 28 = nI L := by subst e4; rw [fm_u_off (by decide)]; rw [← hLd]; exact hD.2
      have lst : ∀ {M8 M10 M11 : Nat → Nat → Int32}, M8 = fm_u M4 230 (3 * L + 1) (nI (ffa g (8 * q + k))) → M10 = fm_u M8 230 (3 * L + 2) (nI (g_dl g q (ff g q + k) - g 41)) → M11 = fm_u M10 219 28 (M10 219 28 + 1) → H200_25 d (nI n) (nI q) (nI (ff g q + k) + 1) M11 ML R K := fun {M8 M10 M11} e8 e10 e11 => by
        have d10 : M10 219 28 = nI L := by rw [e10, e8, fm_u_off (by decide), fm_u_off (by decide)]; exact d4
        rw [d10, nI_1] at e11
        rw [nI_1]
        refine ih (k + 1) M11 (by omega) ?_ ?_
        · subst e11 e10 e8; exact ((b4.u (by omega)).u (by omega)).u (by omega)
        · rw [es]
          have := FD_add (i := 8 * q + k) hD
          rw [hLd, hpos.1, ez] at this
          rw [e11, e10, e8, e4]
          exact this
      rw [b4.1 (24 + q) (by omega), d4]
      by_cases y : g (24 + q) = 1
      · have ea : ffa g (8 * q + k) = 0 := by rw [ffa, hpos.1, if_pos y]
        rw [y]
        refine ⟨fun w => absurd rfl w, fun _ => ⟨3 * L + 1, e31, by omega, fun M12 e12 => ?_⟩⟩
        have b12 : BR g ts rw M0 L0 R0 M12 ML R := by subst e12; exact b4.u (by omega)
        have d12 : M12 219 28 = nI L := by subst e12; rw [fm_u_off (by decide)]; exact d4
        refine R_dl fm_N220 hd b12.1 hg (by omega) hq h0 (by omega) ?_
        rw [d12, b12.1 41 (by omega), nI_sub (show g 41 ≤ g_dl g q (ff g q + k) by omega)]
        exact ⟨3 * L + 2, e32, by omega, fun M14 e14 M15 e15 => lst (by rw [ea]; exact e12) e14 e15⟩
      · have ea : ffa g (8 * q + k) = g_rel g q (ff g q + k) - g 41 := by rw [ffa, hpos.1, hpos.2, if_neg y]
        rw [show g (24 + q) = 0 by omega]
        refine ⟨fun _ => R_rel fm_N220 hd b4.1 hg (by omega) hq h0 (by omega) (by omega) ?_, fun w => absurd w (by decide)⟩
        rw [b4.1 41 (by omega)]
        refine R_max hd ⟨3 * L + 1, e31, by omega, fun M8 e8 => ?_⟩
        rw [(jd_mx (by omega) (by omega)).2, ← ea] at e8
        have b8 : BR g ts rw M0 L0 R0 M8 ML R := by subst e8; exact b4.u (by omega)
        have d8 : M8 219 28 = nI L := by subst e8; rw [fm_u_off (by decide)]; exact d4
        refine R_dl fm_N220 hd b8.1 hg (by omega) hq h0 (by omega) ?_
        rw [d8, b8.1 41 (by omega), nI_sub (show g 41 ≤ g_dl g q (ff g q + k) by omega)]
        exact ⟨3 * L + 2, e32, by omega, fun M10 e10 M11 e11 => lst e8 e10 e11⟩
/-- layDue, PARTS that were due -/
theorem R_due1 {K : wKv} (hd : 1 ≤ d) (hn : n ≤ 8) (hg : gok g B) (hB : B < 2 ^ 20) (hq : q < 8) (h0 : 0 < g q) (hK : ∀ M1, BR g ts rw M0 L0 R0 M1 ML R → FD (ffa g) (ffz g n) (fid g n (8 * (q + 1))) M1 → H200_7 d (nI n) (nI (q + 1)) M1 ML R K) (b : BR g ts rw M0 L0 R0 M ML R) (hD : FD (ffa g) (ffz g n) (fid g n (8 * q)) M) : ∀ j i, g (32 + q) + 1 ≤ i → i + j = ff g q → H200_25 d (nI n) (nI q) (nI i) M ML R K := by
  have hs := hg.2.2.1
  obtain ⟨f1, f2⟩ := ff_lt hg hB hq h0
  intro j
  induction j with
  | zero =>
    intro i h1 h2
    have := R_due2 hd hn hg hB hq h0 hK 8 0 M (by omega) b hD
    rw [show ff g q + 0 = i by omega] at this
    exact this
  | succ j ih =>
    intro i h1 h2
    have hle : g_dl g q i ≤ g 41 := Nat.le_of_not_lt (fun w => by
      have := (fdl_gt hg hq h0 i).mp w
      unfold ff at h2
      omega)
    refine h200_25 (R_th fm_N220 hd b.1 hg hq ?_)
    rw [if_pos h0]
    refine ⟨fun w => absurd w (by decide), fun _ => R_dl fm_N220 hd b.1 hg (by omega) hq h0 (by omega) ?_⟩
    rw [b.1 41 (by omega), nI_add]
    refine ⟨fun w => absurd ((nI_ltI (by omega) (by omega)).mp w) (by omega), fun _ => R_dl fm_N220 hd b.1 hg (by omega) hq h0 (by omega) ?_⟩
    rw [b.1 41 (by omega), nI_1]
    exact ⟨fun w => absurd ((nI_ltI (by omega) (by omega)).mp w) (by omega), fun _ => ih (i + 1) (by omega) (by omega)⟩
theorem R_due0 {K : wKv} (hd : 1 ≤ d) (hn : n ≤ 8) (hg : gok g B) (hB : B < 2 ^ 20) (hK : ∀ M1, BR g ts rw M0 L0 R0 M1 ML R → FD (ffa g) (ffz g n) (fid g n 64) M1 → K M1 ML R) : ∀ j q M, q + j = 8 → BR g ts rw M0 L0 R0 M ML R → FD (ffa g) (ffz g n) (fid g n (8 * q)) M → H200_7 d (nI n) (nI q) M ML R K := by
  intro j
  induction j with
  | zero =>
    intro q M hq b hD
    have : q = 8 := by omega
    subst this
    exact h200_7 ⟨fun _ => hK M b hD, fun y => absurd (by decide) y⟩
  | succ j ih =>
    intro q M hq b hD
    have hq8 : q < 8 := by omega
    refine h200_7 ⟨fun y => absurd ((nI_leI (a := 8) (by decide) (by omega)).mp y) (by omega), fun _ => ⟨32 + q, ix32 q, by omega, ?_⟩⟩
    rw [b.1 (32 + q) (by omega), nI_1]
    by_cases h0 : 0 < g q
    · exact R_due1 hd hn hg hB hq8 h0 (fun M1 b1 hD1 => ih (q + 1) M1 (by omega) b1 hD1) b hD (ff g q - (g (32 + q) + 1)) (g (32 + q) + 1) (Nat.le_refl _) (by unfold ff; omega)
    · refine h200_25 (R_th fm_N220 hd b.1 hg hq8 ?_)
      rw [if_neg h0, nI_1]
      refine ⟨fun _ => ?_, fun w => absurd rfl w⟩
      have np : ∀ k', 0 ≤ k' → k' < 8 → ¬ fpr g n (8 * q + k') = true := fun k' _ hk' w => h0 ((fpr_8 hg hq8 hk').mp w).1
      have e := fid_j (n := n) (k := 0) hg hq8 (by omega) np
      exact ih (q + 1) M (by omega) b (by rw [e]; exact hD)
theorem R_due {K : wKv} (hd : 2 ≤ d) (hn : n ≤ 8) (hg : gok g B) (hB : B < 2 ^ 20) (b : BR g ts rw M0 L0 R0 M ML R) (hK : ∀ M1, BR g ts rw M0 L0 R0 M1 ML R → FD (ffa g) (ffz g n) (fid g n 64) M1 → K M1 ML R) : wV d 200 [.ref 219, .int (nI n)] M ML R K := by
  obtain ⟨d, rfl⟩ : ∃ e, d = e + 1 := ⟨d - 1, by omega⟩
  refine w200 (fun M1 e1 => ?_)
  subst e1
  exact R_due0 (by omega) hn hg hB hK 8 0 _ (by omega) (b.u (by omega)) ⟨fun x hx => absurd hx (by simp [fid]), by rw [fm_u_at]; rfl⟩
end rflow
