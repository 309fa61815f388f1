section slot
variable {d B b : Nat} {g g' u : gr} {ts tx : List Nat} {rw rw' : List Int64} {un un' : List gr} {kp kp' : Nat → Option gr} {he sa : List (Nat × Nat)} {M0 M M1 : Nat → Nat → Int32} {L0 ML L1 : Nat → Nat → Int64} {R0 R R1 : Nat → Nat → Option Nat}
theorem IC.p (h : IC g un kp tx ts rw he sa M ML R) : IP M un kp := h.2.2.1
theorem IC.ul (h : IC g un kp tx ts rw he sa M ML R) : un.length ≤ 12 := by
  obtain ⟨⟨o, h1, h2, -⟩, -⟩ := h.p
  exact h2
/-- where the class's now, its past or its scratch alone has changed, but not its ROW -/
theorem IC.w0 (h : IC g un kp tx ts rw he sa M ML R) (f : fr CW M M1) (f44 : ∀ i, M1 44 i = M 44 i) (c : cr M1 1 g') (p : IP M1 un' kp') : IC g' un' kp' tx ts rw he sa M1 ML R := h.w f c p (IW_fr h.2.2.2.2.2.1 f44 (fun _ => rfl))
theorem IC.qk {A : Int32} {g : gr} {un : List gr} {kp : Nat → Option gr} (h : IC g un kp tx ts rw he sa M ML R) : CK A g un kp tx ts rw he sa M ML R A M ML R := ⟨rfl, h, fr.rfl, fr.rfl, rfl⟩
/-! slot -/
def q_slW (g : gr) (ts : List Nat) : List Int64 := [(nI (g_go g ts (-1) 42) - nI (g 42)).toInt64, nL (bc (g_w g (-1)))]
theorem C_slot (hd : 5 ≤ d) (h : IC g un kp tx ts rw he sa M ML R) (hs : SO g un kp ts B) (hB : B < 2 ^ 20) : wI (d + 1) 82 [.ref 0] M ML R (CK (nI (g_rn g ts (-1))) (g_go g ts (-1)) (push un g) kp tx ts (q_slW g ts) he sa M ML R) := by
  have hc := h.2.1
  refine w82 (C_rem (by omega) fm_W1 (by omega) h.1 h.p hc (fun M1 p1 f1 => ?_))
  have c1 : cr M1 1 g := cr_fr hc (fun a i y1 y2 _ => f1 a i (by omega))
  refine C_go fm_W1 fm_T40 (by omega) hd c1 hs.1 (by omega) (tr_fr h.2.2.2.2.1 (fun a i y => f1 a i (by omega))) hs.2.2.2 (-1) (fun M2 c2 k13 k14 _ _ g2 => ?_)
  have f2 : fr (fun a _ => 1 ≤ a ∧ a ≤ 11) M1 M2 := fun a i z => by rw [g2 a (by omega)]
  refine C_clear (by omega) (fun M3 w3 f3 => ?_)
  refine C_add (by omega) w3 (by decide) _ (fun M4 L4 w4 f4 l4 => ?_)
  refine C_add (by omega) w4 (by simp) _ (fun M5 L5 w5 f5 l5 => ?_)
  have F : fr (fun a _ => (1 ≤ a ∧ a ≤ 11) ∨ a = 34 ∨ a = 44 ∨ (65 ≤ a ∧ a ≤ 196)) M M5 := ((((f1.mono (fun a i z => by omega)).tr (f2.mono (fun a i z => by omega))).tr (f3.mono (fun a i z => by omega))).tr (f4.mono (fun a i z => by omega))).tr (f5.mono (fun a i z => by omega))
  have F25 : fr (fun a _ => a = 44) M2 M5 := (f3.tr f4).tr f5
  rw [F25 1 13 (by decide), k13]
  refine ⟨rfl, h.w (F.mono (fun a i z => by omega)) (cr_fr c2 (fun a i y1 y2 _ => F25 a i (by omega))) (IP_fr p1 (fun a i y => ((f2.mono (T := fun a _ => (1 ≤ a ∧ a ≤ 11) ∨ a = 44) (fun a i z => by omega)).tr (F25.mono (fun a i z => by omega))) a i (by omega))) ?_, F.mono (fun a i z => by omega), (l4.tr l5).mono (fun a i z => by omega), rfl⟩
  rw [f3 1 12 (by decide), c2.2.2.1, hc.2.2.1, f4 1 14 (by decide), f3 1 14 (by decide), k14] at w5
  exact w5
theorem IR.p (h : IR g un kp tx ts rw he sa M ML R) : JP M un kp := h.2.1
theorem R_slot (hd : 7 ≤ d) (hul : un.length ≤ 12) (h : IR g un kp tx ts rw he sa M ML R) (hs : SO g un kp ts B) (hB : B < 2 ^ 20) : wI (d + 1) 173 [.ref 219] M ML R (RK (nI (g_rn g ts (-1))) (g_go g ts (-1)) (push un g) kp tx ts (q_slW g ts) he sa M ML R) := by
  refine w173 (fun M1 e1 => ?_)
  subst e1
  have f0 : fr (fun a i => a = 219 ∧ i = 5) M (fm_u M 219 5 0) := fr_u ⟨rfl, rfl⟩
  refine R_rem fm_N220 (by decide) (by omega) hul (JP_fr h.p (fun a i y => f0 a i (by omega))) (rr_fr h.1 (fun i => f0 _ i (by omega))) (fun M2 p2 f2 => ?_)
  have F2 : fr (fun a i => (a = 219 ∧ (i = 5 ∨ i = 19)) ∨ a = 225) M M2 := (f0.mono (fun a i z => by omega)).tr (f2.mono (fun a i z => by omega))
  refine R_go fm_N220 (by omega) (by omega) (JT_fr h.2.2.2.1 (fun a i y => F2 a i (by omega)) rfl rfl) hs.2.2.2 (rr_fr h.1 (fun i => F2 _ i (by omega))) hs.1 (by omega) (-1) (fun M3 f3 k22 k23 r3 M4 e4 => ?_)
  subst e4
  have f4 : fr (fun a i => a = 219 ∧ i = 4) M3 (fm_u M3 219 4 0) := fr_u ⟨rfl, rfl⟩
  rw [f4 219 23 (by omega), k23]
  refine R_bc (by omega) (g_ms_lt _) ?_
  refine R_tell (by omega) (JW_0 fm_u_at) (by decide) _ (fun M6 L6 w6 f6 l6 => ?_)
  refine R_tell (by omega) w6 (by simp) _ (fun M7 L7 w7 f7 l7 => ?_)
  have F37 : fr (fun a i => a = 219 ∧ i = 4) M3 M7 := (f4.tr f6).tr f7
  have F : fr (fun a i => (a = 219 ∧ ¬ i = 2 ∧ ¬ i = 8 ∧ ¬ i = 36 ∧ ¬ i = 39) ∨ a = 220 ∨ a = 223 ∨ a = 225) M M7 := ((F2.mono (fun a i z => by omega)).tr (f3.mono (fun a i z => by omega))).tr (F37.mono (fun a i z => by omega))
  refine ⟨rfl, h.w (F.mono (fun a i z => by omega)) (rr_fr r3 (fun i => F37 _ i (by omega))) (JP_fr p2 (fun a i y => by rw [F37 a i (by omega), f3 a i (by omega)])) ?_, F.mono (fun a i z => by omega), (l6.tr l7).mono (fun a i z => by omega), fr.rfl⟩
  rw [f6 219 22 (by omega), f4 219 22 (by omega), k22] at w7
  have e42 : nI (g_go g ts (-1) 42) - nI (g 42) = nI (bc (g_ms (g_d2 g (g_rn g ts (-1))) 8)) := by
    rw [g_go_42, nI_sub (by omega)]
    congr 1
    omega
  rw [q_slW, e42]
  exact w7
/-! goByMany -/
theorem c_gm {t : Nat} (hbt : t + 1 < b ∨ b + 10 < t) (hc : cr M b g) (hg : gok g B) (hB : B < 2 ^ 20) (htr : tr M t ts) (hts : tsok ts) : ∀ k, k ≤ 60 → cr (wd_gm M b t ts.length (g 40) k).1 b (g_it g ts k) ∧ (wd_gm M b t ts.length (g 40) k).2 = nI (q_rn g ts k) ∧ (wd_gm M b t ts.length (g 40) k).1 b 16 = nI (q_id g ts k) ∧ ∀ a, ¬ (b ≤ a ∧ a ≤ b + 10) → (wd_gm M b t ts.length (g 40) k).1 a = M a := by
  intro k
  induction k with
  | zero =>
    intro _
    refine ⟨cr_fr hc (fun a i y1 y2 y3 => ?_), rfl, fm_u_at, fun a ha => wd_gm_off (by omega) 0⟩
    by_cases e : a = b
    · subst e
      exact fm_u_ix (by omega)
    · exact congrFun (fm_u_off e) i
  | succ k ih =>
    intro hk
    obtain ⟨i1, i2, i3, i4⟩ := ih (by omega)
    have htk : tr (wd_gm M b t ts.length (g 40) k).1 t ts := tr_fr htr (fun a i y => by rw [i4 a (by omega)])
    have e40 : g_it g ts k 40 = g 40 := g_it_lo (by omega) k
    obtain ⟨k1, k2, k3, k4⟩ := c_gob i1 (g_it_ok hg ts k) (by omega) htk hts (-1)
    rw [e40] at k1 k2 k3 k4
    have hP := hg.2.1
    have hbc := bc_le (g_rn (g_it g ts k) ts (-1))
    have k16 : wd_gob (wd_gm M b t ts.length (g 40) k).1 b t ts.length (g 40) (-1) b 16 = nI (q_id g ts k) := by rw [wd_gob_ix (by decide) (by decide) (by decide) (by decide) (by decide)]; exact i3
    have k10 : wd_gob (wd_gm M b t ts.length (g 40) k).1 b t ts.length (g 40) (-1) b 10 = nI (g 40) := by rw [k1.1, g_go_lo (by omega), e40]
    have off : ∀ a, ¬ (b ≤ a ∧ a ≤ b + 10) → wd_gob (wd_gm M b t ts.length (g 40) k).1 b t ts.length (g 40) (-1) a = M a := fun a ha => by rw [wd_gob_off (by omega), i4 a ha]
    unfold wd_gm
    dsimp only
    rw [i2, k2, bt_bc _ (g_rn_lt _ _ _), k10, nI_add]
    generalize wd_gob (wd_gm M b t ts.length (g 40) k).1 b t ts.length (g 40) (-1) = M1 at *
    by_cases z : g 40 ≤ bc (g_rn (g_it g ts k) ts (-1))
    · rw [if_pos ((nI_leI (by omega) (by omega)).mpr z)]
      refine ⟨k1, rfl, ?_, off⟩
      rw [k16, q_id, if_neg (by omega)]
      rfl
    · rw [if_neg (fun y => z ((nI_leI (by omega) (by omega)).mp y))]
      refine ⟨cr_fr k1 (fun a i y1 y2 y3 => ?_), rfl, ?_, fun a ha => by rw [fm_u_off (by omega), off a ha]⟩
      · by_cases e : a = b
        · subst e
          exact fm_u_ix (by omega)
        · exact congrFun (fm_u_off e) i
      · rw [fm_u_at, k16, nI_1, q_id, if_pos (by omega)]
theorem C_gbm {K : wK} {t n : Nat} (hb : fm_W b) (ht : fm_T t) (hbt : t + 1 < b ∨ b + 10 < t) (hd : 6 ≤ d) (hc : cr M b g) (hg : gok g B) (hB : B < 2 ^ 20) (htr : tr M t ts) (hts : tsok ts) (hn : n ≤ 60) (hK : ∀ M1, cr M1 b (g_it g ts n) → M1 b 16 = nI (q_id g ts n) → (∀ a, ¬ (b ≤ a ∧ a ≤ b + 10) → M1 a = M a) → K (nI (q_rn g ts n)) M1 ML R) : wI d 64 [.ref b, .int (nI n), .ref t] M ML R K := by
  have t1 := t_goByMany hb ht hbt (M, ML, R) ts.length (g 40) B hts.1 htr.1 (by have := hg.2.1; omega) hc.1 (cr_bn hc hg (by omega)) (by omega) (nI n)
  obtain ⟨k1, k2, k3, k4⟩ := c_gm hbt hc hg hB htr hts n hn
  have n0 : ¬ nI n < 0 := Int32.not_lt.mpr ((nI_leI (a := 0) (by decide) (by omega)).mpr (by omega))
  have n60 : nI n ≤ 60 := (nI_leI (b := 60) (by omega) (by decide)).mpr hn
  have eA : wd_gmA M b t ts.length (g 40) (nI n) = nI (q_rn g ts n) := by rw [wd_gmA, if_neg n0, if_pos n60, nI_clamp (by omega)]; exact k2
  have eM : wd_gmM M b t ts.length (g 40) (nI n) = (wd_gm M b t ts.length (g 40) n).1 := by rw [wd_gmM, if_neg n0, if_pos n60, nI_clamp (by omega)]
  dsimp only at t1
  rw [eA, eM] at t1
  exact wI_of t1 hd (hK _ k1 k3 k4)
theorem C_gbmN {K : wK} {t : Nat} {v : Int32} (hb : fm_W b) (ht : fm_T t) (hbt : t + 1 < b ∨ b + 10 < t) (hd : 6 ≤ d) (hc : cr M b g) (hg : gok g B) (hB : B < 2 ^ 20) (htr : tr M t ts) (hts : tsok ts) (hn : v < 0 ∨ 60 < v) (hK : K (-1) M ML R) : wI d 64 [.ref b, .int v, .ref t] M ML R K := by
  have t1 := t_goByMany hb ht hbt (M, ML, R) ts.length (g 40) B hts.1 htr.1 (by have := hg.2.1; omega) hc.1 (cr_bn hc hg (by omega)) (by omega) v
  have eA : wd_gmA M b t ts.length (g 40) v = -1 := by
    rw [wd_gmA]
    by_cases z : v < 0
    · rw [if_pos z]
    · rw [if_neg z, if_neg (Int32.not_le.mpr (hn.resolve_left z))]
  have eM : wd_gmM M b t ts.length (g 40) v = M := by
    rw [wd_gmM]
    by_cases z : v < 0
    · rw [if_pos z]
    · rw [if_neg z, if_neg (Int32.not_le.mpr (hn.resolve_left z))]
  dsimp only at t1
  rw [eA, eM] at t1
  exact wI_of t1 hd hK
/-! slots -/
def q_ssW (g : gr) (ts : List Nat) (n : Nat) : List Int64 := [(nI (g_it g ts n 42) - nI (g 42)).toInt64, nL (q_id g ts n)]
theorem q_rn_le : ∀ n, q_rn g ts n ≤ 8 * n := by
  intro n
  induction n with
  | zero => exact Nat.le_refl _
  | succ n ih =>
    have := bc_le (g_rn (g_it g ts n) ts (-1))
    rw [q_rn]
    omega
theorem C_slots (hd : 6 ≤ d) (h : IC g un kp tx ts rw he sa M ML R) (hs : SO g un kp ts B) (hB : B < 2 ^ 20) (v : Int32) : (∀ n, n ≤ 60 → v = nI n → wI (d + 1) 83 [.ref 0, .int v] M ML R (CK (nI (q_rn g ts n)) (g_it g ts n) (push un g) kp tx ts (q_ssW g ts n) he sa M ML R)) ∧ (v < 0 ∨ 60 < v → wI (d + 1) 83 [.ref 0, .int v] M ML R (CK (-1) g un kp tx ts rw he sa M ML R)) := by
  have hc := h.2.1
  constructor
  · rintro n hn rfl
    have hrl := q_rn_le (g := g) (ts := ts) n
    refine w83 (C_copy fm_W12 fm_W1 (by omega) (by omega) hc (fun M1 c1 g1 _ => ?_))
    have f1 : fr (fun a _ => 12 ≤ a ∧ a ≤ 22) M M1 := fun a i z => by rw [g1 a (by omega)]
    refine C_gbm fm_W1 fm_T40 (by omega) hd (cr_fr hc (fun a i y1 y2 _ => f1 a i (by omega))) hs.1 hB (tr_fr h.2.2.2.2.1 (fun a i y => f1 a i (by omega))) hs.2.2.2 hn (fun M2 c2 k16 g2 => ?_)
    have f2 : fr (fun a _ => 1 ≤ a ∧ a ≤ 11) M1 M2 := fun a i z => by rw [g2 a (by omega)]
    have F2 : fr (fun a _ => 1 ≤ a ∧ a ≤ 22) M M2 := (f1.mono (fun a i z => by omega)).tr (f2.mono (fun a i z => by omega))
    refine ⟨fun _ => ?_, fun z => absurd ((nI_leI (a := 0) (by decide) (by omega)).mpr (by omega)) z⟩
    refine C_rem (by omega) fm_W12 (by omega) h.1 (IP_fr h.p (fun a i y => F2 a i (by omega))) (cr_fr c1 (fun a i y1 y2 _ => f2 a i (by omega))) (fun M3 p3 f3 => ?_)
    refine C_clear (by omega) (fun M4 w4 f4 => ?_)
    refine C_add (by omega) w4 (by decide) _ (fun M5 L5 w5 f5 l5 => ?_)
    refine C_add (by omega) w5 (by simp) _ (fun M6 L6 w6 f6 l6 => ?_)
    have F36 : fr (fun a _ => a = 44) M3 M6 := (f4.tr f5).tr f6
    have F26 : fr (fun a _ => a = 34 ∨ a = 44 ∨ (65 ≤ a ∧ a ≤ 196)) M2 M6 := (f3.mono (fun a i z => by omega)).tr (F36.mono (fun a i z => by omega))
    have F : fr (fun a _ => (1 ≤ a ∧ a ≤ 22) ∨ a = 34 ∨ a = 44 ∨ (65 ≤ a ∧ a ≤ 196)) M M6 := (F2.mono (fun a i z => by omega)).tr (F26.mono (fun a i z => by omega))
    refine ⟨rfl, h.w (F.mono (fun a i z => by omega)) (cr_fr c2 (fun a i y1 y2 _ => F26 a i (by omega))) (IP_fr p3 (fun a i y => F36 a i (by omega))) ?_, F.mono (fun a i z => by omega), (l5.tr l6).mono (fun a i z => by omega), rfl⟩
    rw [f4 1 12 (by decide), f3 1 12 (by omega), c2.2.2.1, hc.2.2.1, f5 1 16 (by decide), f4 1 16 (by decide), f3 1 16 (by omega), k16] at w6
    exact w6
  · intro z
    refine w83 (C_copy fm_W12 fm_W1 (by omega) (by omega) hc (fun M1 c1 g1 _ => ?_))
    have f1 : fr (fun a _ => 12 ≤ a ∧ a ≤ 22) M M1 := fun a i z => by rw [g1 a (by omega)]
    refine C_gbmN fm_W1 fm_T40 (by omega) hd (cr_fr hc (fun a i y1 y2 _ => f1 a i (by omega))) hs.1 hB (tr_fr h.2.2.2.2.1 (fun a i y => f1 a i (by omega))) hs.2.2.2 z ?_
    refine ⟨fun y => absurd y (by decide), fun _ => ⟨rfl, ?_, f1.mono (fun a i z => by omega), fr.rfl, rfl⟩⟩
    exact h.w0 (f1.mono (fun a i z => by omega)) (fun i => f1 _ i (by omega)) (cr_fr hc (fun a i y1 y2 _ => f1 a i (by omega))) (IP_fr h.p (fun a i y => f1 a i (by omega)))
theorem R_slots (hd : 8 ≤ d) (hul : un.length ≤ 12) (h : IR g un kp tx ts rw he sa M ML R) (hs : SO g un kp ts B) (hB : B < 2 ^ 20) (v : Int32) : (∀ n, n ≤ 60 → v = nI n → wI (d + 1) 175 [.ref 219, .int v] M ML R (RK (nI (q_rn g ts n)) (g_it g ts n) (push un g) kp tx ts (q_ssW g ts n) he sa M ML R)) ∧ (v < 0 ∨ 60 < v → wI (d + 1) 175 [.ref 219, .int v] M ML R (RK (-1) g un kp tx ts rw he sa M ML R)) := by
  obtain ⟨d, rfl⟩ : ∃ e, d = e + 1 := ⟨d - 1, by omega⟩
  have f0 : fr (fun a i => a = 219 ∧ i = 5) M (fm_u M 219 5 0) := fr_u ⟨rfl, rfl⟩
  constructor
  · rintro n hn rfl
    refine w175 (fun M1 e1 => ?_)
    subst e1
    refine R_in (by omega) ?_
    rw [show md_in (nI n) 0 60 = 1 from in_y (lo := 0) (hi := 60) (by decide) (by omega) hn]
    refine ⟨fun _ => ?_, fun z => absurd z (by decide)⟩
    refine R_rem fm_N220 (by decide) (by omega) hul (JP_fr h.p (fun a i y => f0 a i (by omega))) (rr_fr h.1 (fun i => f0 _ i (by omega))) (fun M2 p2 f2 => ?_)
    have F2 : fr (fun a i => (a = 219 ∧ (i = 5 ∨ i = 19)) ∨ a = 225) M M2 := (f0.mono (fun a i z => by omega)).tr (f2.mono (fun a i z => by omega))
    have r2 : rr (M2 220) g := rr_fr h.1 (fun i => F2 _ i (by omega))
    refine R_goSlots fm_N220 (by omega) (by omega) (JT_fr h.2.2.2.1 (fun a i y => F2 a i (by omega)) rfl rfl) hs.2.2.2 r2 hs.1 (by omega) (by omega) (fun M3 f3 r3 k24 M4 e4 => ?_)
    subst e4
    have f4 : fr (fun a i => a = 219 ∧ i = 4) M3 (fm_u M3 219 4 0) := fr_u ⟨rfl, rfl⟩
    refine R_tell (by omega) (JW_0 fm_u_at) (by decide) _ (fun M6 L6 w6 f6 l6 => ?_)
    refine R_tell (by omega) w6 (by simp) _ (fun M7 L7 w7 f7 l7 => ?_)
    have F37 : fr (fun a i => a = 219 ∧ i = 4) M3 M7 := (f4.tr f6).tr f7
    have F : fr (fun a i => (a = 219 ∧ ¬ i = 2 ∧ ¬ i = 8 ∧ ¬ i = 36 ∧ ¬ i = 39) ∨ a = 220 ∨ a = 223 ∨ a = 225) M M7 := ((F2.mono (fun a i z => by omega)).tr (f3.mono (fun a i z => by omega))).tr (F37.mono (fun a i z => by omega))
    refine ⟨rfl, h.w (F.mono (fun a i z => by omega)) (rr_fr r3 (fun i => F37 _ i (by omega))) (JP_fr p2 (fun a i y => by rw [F37 a i (by omega), f3 a i (by omega)])) ?_, F.mono (fun a i z => by omega), (l6.tr l7).mono (fun a i z => by omega), fr.rfl⟩
    rw [f4 220 42 (by omega), r3 42 (by omega), r2 42 (by omega), f6 219 24 (by omega), f4 219 24 (by omega), k24] at w7
    exact w7
  · intro z
    refine w175 (fun M1 e1 => ?_)
    subst e1
    refine R_in (by omega) ?_
    rw [in_n z]
    refine ⟨fun y => absurd rfl y, fun _ => ⟨rfl, ?_, f0.mono (fun a i z => by omega), fr.rfl, fr.rfl⟩⟩
    exact h.w (f0.mono (fun a i z => by omega)) (rr_fr h.1 (fun i => f0 _ i (by omega))) (JP_fr h.p (fun a i y => f0 a i (by omega))) (JW_fr h.2.2.2.2.1 (f0 _ _ (by omega)) (fun _ => rfl))
end slot
