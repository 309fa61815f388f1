/-! fewest -/
def g_hv (g : gr) (S : Nat) : Nat → Option Nat
  | 0 => none
  | k + 1 => if S.testBit k = true then (match g_hv g S k with
    | none => some k
    | some j => if g_wt g k ≤ g_wt g j then some j else some k) else g_hv g S k
def f_w (g : gr) (need : Nat) : Nat → Nat → Nat → Nat → Nat
  | 0, _, _, t => t
  | n + 1, S, s, t => if S = 0 then t else if (need - 1) * 27720 < s then t else (match g_hv g S 8 with
    | none => t
    | some j => f_w g need n (S &&& (255 - 1 <<< j)) (s + g_wt g j) (t + 1))
def s_S (g : gr) (S : Nat) : Nat → Nat
  | 0 => 0
  | k + 1 => s_S g S k + if S.testBit k = true then g_wt g k else 0
theorem s_S_out {g : gr} {S j : Nat} (hS : S < 256) (hj : j < 8) (hb : S.testBit j = true) : ∀ k, k ≤ 8 → s_S g (S &&& (255 - 1 <<< j)) k + (if j < k then g_wt g j else 0) = s_S g S k := by
  intro k
  induction k with
  | zero => intro _; rfl
  | succ k ih =>
    intro hk
    have ih := ih (by omega)
    rw [s_S, s_S, Nat.testBit_and, bt_tb j hj k (by omega)]
    by_cases e : k = j
    · subst e
      rw [if_neg (show ¬ k < k by omega)] at ih
      rw [if_pos (show k < k + 1 by omega), if_pos hb]
      simp
      omega
    · have e1 : decide (¬ k = j) = true := by simp [e]
      rw [e1, Bool.and_true]
      by_cases y : j < k
      · rw [if_pos y] at ih
        rw [if_pos (show j < k + 1 by omega)]
        omega
      · rw [if_neg y] at ih
        rw [if_neg (show ¬ j < k + 1 by omega)]
        omega
theorem g_hv_some {g : gr} {S : Nat} : ∀ k j, g_hv g S k = some j → j < k ∧ S.testBit j = true := by
  intro k
  induction k with
  | zero => intro j h; cases h
  | succ k ih =>
    intro j h
    rw [g_hv] at h
    split at h
    next hb =>
      split at h
      · cases h; exact ⟨by omega, hb⟩
      next i hi =>
        have := ih i hi
        split at h
        · cases h; exact ⟨by omega, this.2⟩
        · cases h; exact ⟨by omega, hb⟩
    next => have := ih j h; exact ⟨by omega, this.2⟩
theorem g_hv_none {g : gr} {S : Nat} : ∀ k, g_hv g S k = none → ∀ j, j < k → S.testBit j = false := by
  intro k
  induction k with
  | zero => intro _ j h; omega
  | succ k ih =>
    intro h j hj
    rw [g_hv] at h
    split at h
    next hb =>
      split at h
      · cases h
      · split at h <;> cases h
    next hb =>
      by_cases e : j = k
      · subst e; simpa using hb
      · exact ih h j (by omega)
theorem u_step {g : gr} {B k s : Nat} (hg : gok g B) (hk8 : k < 8) (h0 : 0 < g k) (hs : s ≤ 8 * (12 * 27720)) : (uU s * g (8 + k) + g k * uL s) / Nat.gcd (uU s * g (8 + k) + g k * uL s) (uL s * g (8 + k)) = uU (s + g_wt g k) ∧ uL s * g (8 + k) / Nat.gcd (uU s * g (8 + k) + g k * uL s) (uL s * g (8 + k)) = uL (s + g_wt g k) ∧ uU s * g (8 + k) + g k * uL s < 2 ^ 40 ∧ uL s * g (8 + k) < 2 ^ 40 ∧ 0 < uL s * g (8 + k) := by
  have hlo := hg.lo hk8
  have hee := hg.e hk8
  have hl0 := (hg.lo0 hk8).mpr h0
  obtain ⟨u1, u2, u3, u4⟩ := uL_bd s
  have h27 := wt_27720 hg hk8 h0
  have bu : uU s * g (8 + k) ≤ 8 * (12 * 27720) * 12 := Nat.mul_le_mul (by omega) hlo
  have be : g k * uL s ≤ 12 * 27720 := Nat.mul_le_mul hee u2
  have bl : uL s * g (8 + k) ≤ 27720 * 12 := Nat.mul_le_mul u2 hlo
  have pl : 0 < uL s * g (8 + k) := Nat.mul_pos u1 hl0
  have key := fr_uniq (a := uU s * g (8 + k) + g k * uL s) (b := s + g_wt g k) (c := uL s * g (8 + k)) (d := 27720) pl (by decide) (by
    rw [g_wt]
    calc (uU s * g (8 + k) + g k * uL s) * 27720 = uU s * 27720 * g (8 + k) + g k * uL s * 27720 := by rw [Nat.add_mul, Nat.mul_right_comm]
      _ = s * uL s * g (8 + k) + g k * uL s * (27720 / g (8 + k) * g (8 + k)) := by rw [u4, h27]
      _ = s * (uL s * g (8 + k)) + g k * (27720 / g (8 + k)) * (uL s * g (8 + k)) := by
        rw [Nat.mul_assoc, Nat.mul_mul_mul_comm]
      _ = (s + g k * (27720 / g (8 + k))) * (uL s * g (8 + k)) := by rw [Nat.add_mul])
  exact ⟨key.1, key.2, by omega, by omega, pl⟩
section few
variable {d B b r : Nat} {g gk g' u : gr} {ts tx tx' t' : List Nat} {rw rw' : List Int64} {un un' : List gr} {kp kp' : Nat → Option gr} {he sa : List (Nat × Nat)} {M0 M M1 : Nat → Nat → Int32} {L0 ML L1 : Nat → Nat → Int64} {R0 R R1 : Nat → Nat → Option Nat}
theorem c_hv (hc : cr M 1 g) (hg : gok g B) {S : Nat} (hS : S < 256) : ∀ k, k ≤ 8 → wd_hv M 1 (nI S) k = po (g_hv g S k) := by
  intro k
  induction k with
  | zero => intro _; rfl
  | succ k ih =>
    intro hk
    have hwk := hg.wt (q := k) (by omega)
    have a3 : M (1 + 3) k = nI (g_wt g k) := (hc.2.2.2 k (by omega)).2.1
    rw [wd_hv, g_hv, bt_get S hS k (by omega), ih (by omega)]
    by_cases h : S.testBit k = true
    · rw [if_pos h, if_neg (by decide), if_pos h]
      cases hz : g_hv g S k with
      | none => rfl
      | some j =>
        have hj := g_hv_some k j hz
        have hwj := hg.wt (q := j) (by omega)
        have b3 : M (1 + 3) j = nI (g_wt g j) := (hc.2.2.2 j (by omega)).2.1
        show (if nI j = -1 then nI k else if M (1 + 3) k ≤ M (1 + 3) (nI j).toNatClampNeg then nI j else nI k) = po (if g_wt g k ≤ g_wt g j then some j else some k)
        rw [if_neg (nI_nm1 (by omega)), nI_clamp (by omega), a3, b3]
        by_cases y : g_wt g k ≤ g_wt g j
        · rw [if_pos y, if_pos ((nI_leI (by omega) (by omega)).mpr y)]; rfl
        · rw [if_neg y, if_neg (fun w => y ((nI_leI (by omega) (by omega)).mp w))]; rfl
    · rw [if_neg h, if_pos rfl, if_neg h]
theorem wt_p (hg : gok g B) {q : Nat} (hq : q < 8) (h0 : 0 < g q) : 0 < g_wt g q := by
  have h1 := hg.p hq h0
  unfold g_wt
  exact Nat.mul_pos h0 (d27 (g (8 + q)) (by have := h1.2.2.1; omega) (by have := h1.1; have := h1.2.1; omega)).2.1
def nd (g : gr) : Nat := (g_ws g 8 + 27719) / 27720
theorem C_few1 {x1 : Int32} (hd : 1 ≤ d) (hg : gok g B) (hn : nd g ≤ 1000) (h : BC g ts rw M0 L0 M ML) : ∀ n t, t + n = 8 → ∀ {S s : Nat}, S < 256 → bc S ≤ n → s + s_S g S 8 = g_ws g 8 → (S = 0 ∨ 1 ≤ nd g) → H108_43 d x1 ((nI (nd g) - 1) * 27720) (nI S) (nI s) (nI t) (nI t) M ML R (CQ x1 [nL (f_w g (nd g) n S s t)] M0 L0 R) := by
  have hws := ws_lt hg 8 (by omega)
  have fin : ∀ t, wV d 15 [.ref 44] M ML R (fun M1 L1 R1 => (wV d 16 [.ref 44, .long ((nI t).toInt64)] M1 L1 R1 (fun M2 L2 R2 => CQ x1 [nL t] M0 L0 R x1 M2 L2 R2))) := fun t => by
    refine B_clear hd h (fun M1 h1 _ => ?_)
    refine B_add hd h1 (by decide) _ (fun M2 L2 h2 _ _ => ?_)
    exact h2.q
  intro n
  induction n with
  | zero =>
    intro t ht S s hS hb hsum hn1
    exact h108_43 ⟨fun _ => fin t, fun z => absurd ((nI_leI (a := 8) (by decide) (by omega)).mpr (by omega)) z⟩
  | succ n ih =>
    intro t ht S s hS hb hsum hn1
    rw [f_w]
    refine h108_43 ⟨fun z => absurd ((nI_leI (a := 8) (by decide) (by omega)).mp z) (by omega), fun _ => ⟨fun z => ?_, fun z => ?_⟩⟩
    · have : S = 0 := by
        rcases Nat.eq_zero_or_pos S with y | y
        · exact y
        · exact absurd z (nI_ne0 y (by omega))
      rw [if_pos this]
      exact fin t
    · have hS0 : ¬ S = 0 := fun y => z (by rw [y]; rfl)
      have hn1 : 1 ≤ nd g := hn1.resolve_left hS0
      have hbd : (nd g - 1) * 27720 ≤ 1000 * 27720 := Nat.mul_le_mul_right _ (by omega)
      have eb : (nI (nd g) - 1) * 27720 = nI ((nd g - 1) * 27720) := by rw [show nI (nd g) - 1 = nI (nd g - 1) from nI_sub (b := 1) hn1, n27, nI_mul]
      rw [if_neg hS0]
      refine ⟨fun y => ?_, fun y => ?_⟩
      · rw [eb] at y
        rw [if_pos ((nI_ltI (by omega) (by omega)).mp y)]
        exact fin t
      · have y2 : ¬ (nd g - 1) * 27720 < s := fun w => y (by rw [eb]; exact (nI_ltI (by omega) (by omega)).mpr w)
        rw [if_neg y2]
        refine wI_of (t_heaviestOf fm_W1 (M, ML, R) (nI S)) hd ?_
        dsimp only
        rw [c_hv h.1 hg hS 8 (by omega)]
        cases e : g_hv g S 8 with
        | none => exact absurd ((bt_z hS).mpr (g_hv_none 8 e)) hS0
        | some j =>
          obtain ⟨hj, hbj⟩ := g_hv_some 8 j e
          refine ⟨fun w => absurd (show nI j = -1 from w) (nI_nm1 (by omega)), fun _ => ⟨j, rfl, hj, ?_⟩⟩
          show H108_43 d x1 ((nI (nd g) - 1) * 27720) (nI S &&& ((1 : Int32) <<< (nI j &&& 31) ^^^ (-1 : Int32))) (nI s + M 4 j) (nI t + 1) (nI t + 1) M ML R _
          rw [bt_out S hS j hj, show M 4 j = nI (g_wt g j) from (h.1.2.2.2 j hj).2.1, nI_add, nI_1]
          have ho := s_S_out (g := g) hS hj hbj 8 (by omega)
          rw [if_pos hj] at ho
          have hbo := bc_out S hS j hj hbj
          exact ih (t + 1) (by omega) (bt_al hS) (by omega) (by omega) (Or.inr hn1)
theorem ws_S (hg : gok g B) : ∀ k, k ≤ 8 → s_S g (g_ts g) k = g_ws g k := by
  intro k
  induction k with
  | zero => intro _; rfl
  | succ k ih =>
    intro hk
    rw [s_S, g_ws, ih (by omega), g_ts, bm_8 _ (by omega)]
    by_cases h : 0 < g k
    · rw [if_pos (by simp [h])]
    · rw [if_neg (by simp [h]), g_wt, show g k = 0 by omega, Nat.zero_mul]
theorem nd_bd (hg : gok g B) : nd g ≤ 1000 ∧ (nd g - 1) * 27720 ≤ g_ws g 8 ∧ g_ws g 8 ≤ nd g * 27720 ∧ (0 < g_ws g 8 → 1 ≤ nd g ∧ (nd g - 1) * 27720 < g_ws g 8) := by
  have hws := ws_lt hg 8 (by omega)
  unfold nd
  omega
theorem S0_ws (hg : gok g B) : g_ts g = 0 ∨ 1 ≤ nd g := by
  by_cases z : g_ts g = 0
  · exact Or.inl z
  · obtain ⟨p, hp, h0⟩ := ts_ne z
    right
    have hb : (g_ts g).testBit p = true := by rw [g_ts, bm_8 _ hp]; simp [h0]
    have ho := s_S_out (g := g) (g_ts_lt g) hp hb 8 (by omega)
    rw [if_pos hp, ws_S hg 8 (by omega)] at ho
    have := wt_p hg hp h0
    exact ((nd_bd hg).2.2.2 (by omega)).1
theorem C_fewest (hd : 1 ≤ d) (h : IC g un kp tx ts rw he sa M ML R) (hs : SO g un kp ts B) : wI (d + 1) 108 [.ref 0] M ML R (CQ (nI (nd g)) [nL (f_w g (nd g) 8 (g_ts g) 0 0)] M ML R) := by
  have hws := ws_lt hs.1 8 (by omega)
  refine w108 (C_ws fm_W1 hd h.2.1 (C_tset fm_W1 hd h.2.1 hs.1 ?_))
  have e : (nI (g_ws g 8) + 27720 - 1) / 27720 = nI (nd g) := by
    rw [n27, nI_add, show nI (g_ws g 8 + 27720) - 1 = nI (g_ws g 8 + 27720 - 1) from nI_sub (b := 1) (by omega), nI_div (by omega) (by decide)]
    unfold nd
    congr 1
  rw [e]
  exact C_few1 hd hs.1 (nd_bd hs.1).1 h.b 8 0 (by omega) (S := g_ts g) (s := 0) (g_ts_lt g) (bc_le _) (by rw [ws_S hs.1 8 (by omega)]; omega) (S0_ws hs.1)
/-! the reference -/
def tkn (g : gr) (S q : Nat) : Int32 := if 0 < g q ∧ ¬ S.testBit q = true then 1 else 0
theorem R_few3 {K : wK} {S j : Nat} {x1 : Int32} {x2 x4 : Int64} {x6 : Int32} (hd : 1 ≤ d) (ha : rr (M 220) g) (hg : gok g B) (hS : S < 256) (hp : ∀ q, q < 8 → S.testBit q = true → 0 < g q) (h235 : ∀ q, q < 8 → M 235 q = tkn g S q) (hF : g_hv g S 8 = some j) (hK : H206_82 d x1 x2 x4 x6 (nI j) 8 M ML R K) : ∀ n k, k + n = 8 → H206_82 d x1 x2 x4 x6 (po (g_hv g S k)) (nI k) M ML R K := by
  intro n
  induction n with
  | zero =>
    intro k hk
    have : k = 8 := by omega
    subst this
    rw [hF]
    exact hK
  | succ n ih =>
    intro k hk
    have hk8 : k < 8 := by omega
    have i2 := ih (k + 1) (by omega)
    rw [g_hv] at i2
    refine h206_82 ⟨fun z => absurd ((nI_leI (a := 8) (by decide) (by omega)).mp z) (by omega), fun _ => ?_⟩
    refine R_th fm_N220 hd ha hg hk8 ?_
    rw [nI_1]
    by_cases h0 : 0 < g k
    · rw [if_pos h0]
      refine ⟨fun y => absurd y (by decide), fun _ => ⟨k, rfl, hk8, ?_⟩⟩
      rw [h235 k hk8, tkn]
      by_cases hb : S.testBit k = true
      · rw [if_neg (show ¬ (0 < g k ∧ ¬ S.testBit k = true) from fun y => y.2 hb)]
        rw [if_pos hb] at i2
        refine ⟨fun _ => ?_, fun y => absurd rfl y⟩
        cases hz : g_hv g S k with
        | none =>
          rw [hz] at i2
          exact ⟨fun _ => i2, fun y => absurd rfl y⟩
        | some i =>
          rw [hz] at i2
          obtain ⟨hi, hbi⟩ := g_hv_some k i hz
          have hi0 := hp i (by omega) hbi
          dsimp only at i2
          refine ⟨fun y => absurd (show nI i = -1 from y) (nI_nm1 (by omega)), fun _ => ⟨k, rfl, by omega, 8 + i, ix8 i, by omega, i, rfl, by omega, 8 + k, ix8 k, by omega, ?_⟩⟩
          have l1 := hg.e hk8
          have l2 := hg.lo hk8
          have l3 := hg.e (q := i) (by omega)
          have l4 := hg.lo (q := i) (by omega)
          have m1 : g k * g (8 + i) ≤ 12 * 12 := Nat.mul_le_mul l1 l4
          have m2 : g i * g (8 + k) ≤ 12 * 12 := Nat.mul_le_mul l3 l2
          rw [ha k (by omega), ha (8 + i) (by omega), ha i (by omega), ha (8 + k) (by omega), nI_mul, nI_mul]
          have hw := wt_lt hg (p := i) (q := k) (by omega) hk8 hi0 h0
          by_cases y : g_wt g k ≤ g_wt g i
          · rw [if_pos y] at i2
            exact ⟨fun _ => i2, fun w => absurd ((nI_leI (by omega) (by omega)).mpr (Nat.le_of_not_lt (fun v => absurd (hw.mpr v) (by omega)))) w⟩
          · rw [if_neg y] at i2
            refine ⟨fun w => ?_, fun _ => i2⟩
            have := (nI_leI (by omega) (by omega)).mp w
            have := hw.mp (by omega)
            omega
      · rw [if_pos (show 0 < g k ∧ ¬ S.testBit k = true from ⟨h0, hb⟩)]
        rw [if_neg hb] at i2
        exact ⟨fun y => absurd y (by decide), fun _ => i2⟩
    · rw [if_neg h0]
      rw [if_neg (fun y => h0 (hp k hk8 y))] at i2
      exact ⟨fun _ => i2, fun y => absurd rfl y⟩
theorem R_few2 (hd : 100 ≤ d) (hg : gok g B) : ∀ n t, t + n = 8 → ∀ {S s : Nat} {M : Nat → Nat → Int32}, S < 256 → bc S ≤ n → s + s_S g S 8 = g_ws g 8 → (∀ q, q < 8 → S.testBit q = true → 0 < g q) → (S = 0 ∨ 1 ≤ nd g) → BR g ts rw M0 L0 R0 M ML R → (∀ q, q < 8 → M 235 q = tkn g S q) → H206_60 d (nI (nd g)) (zN (uU s)) (zN (uL s)) (nI t) M ML R (RQ (nI (nd g)) [nL (f_w g (nd g) n S s t)] M0 L0 R0) := by
  have hws := ws_lt hg 8 (by omega)
  obtain ⟨n1, n2, n3, n4⟩ := nd_bd hg
  intro n
  induction n with
  | zero =>
    intro t ht S s M hS hb hsum hp hn1 h h235
    have hS0 := bc_0 S hS (by omega)
    subst hS0
    have hz : ∀ k, s_S g 0 k = 0 := fun k => by
      induction k with
      | zero => rfl
      | succ k ih => rw [s_S, ih]; simp
    rw [hz] at hsum
    obtain ⟨u1, u2, u3, u4⟩ := uL_bd s
    have fin : ∀ M1, M1 = fm_u M 219 4 0 → wV d 135 [.ref 219, .long ((nI t).toInt64)] M1 ML R (fun M2 L2 R2 => RQ (nI (nd g)) [nL (f_w g (nd g) 0 0 s t)] M0 L0 R0 (nI (nd g)) M2 L2 R2) := fun M1 e1 => by
      subst e1
      refine B_tell (by omega) h.z (by decide) _ (fun M2 L2 h2 _ _ => ?_)
      exact h2.q
    refine h206_60 ⟨fun _ => fin, fun z => ⟨fun _ => fin, fun y => ?_⟩⟩
    exfalso
    have hnd : 1 ≤ nd g := by
      rcases Nat.eq_zero_or_pos (nd g) with w | w
      · exact absurd (by rw [w]; decide) z
      · exact w
    have hb1 : (nd g - 1) * uL s ≤ 1000 * 27720 := Nat.mul_le_mul (by omega) u2
    apply y
    rw [show nI (nd g) - 1 = nI (nd g - 1) from nI_sub (b := 1) hnd, nL_z (by omega), zN_mul, lg_lt, Int64.lt_iff_toInt_lt, zN_toInt (by omega), zN_toInt (by omega)]
    have hpos : 0 < g_ws g 8 := by
      rcases Nat.eq_zero_or_pos (g_ws g 8) with w | w
      · unfold nd at hnd; rw [w] at hnd; simp at hnd
      · exact w
    have h3 := (n4 hpos).2
    have h4 : (nd g - 1) * uL s * 27720 < uU s * 27720 := by
      rw [u4, Nat.mul_right_comm, show s = g_ws g 8 by omega]
      exact Nat.mul_lt_mul_of_pos_right h3 (by rw [show g_ws g 8 = s by omega]; exact u1)
    have := Nat.lt_of_mul_lt_mul_right h4
    omega
  | succ n ih =>
    intro t ht S s M hS hb hsum hp hn1 h h235
    obtain ⟨u1, u2, u3, u4⟩ := uL_bd s
    have fin : ∀ v, v = t → ∀ M1, M1 = fm_u M 219 4 0 → wV d 135 [.ref 219, .long ((nI t).toInt64)] M1 ML R (fun M2 L2 R2 => RQ (nI (nd g)) [nL v] M0 L0 R0 (nI (nd g)) M2 L2 R2) := fun v ev M1 e1 => by
      subst e1 ev
      refine B_tell (by omega) h.z (by decide) _ (fun M2 L2 h2 _ _ => ?_)
      exact h2.q
    refine h206_60 ⟨fun z => fin _ ?_, fun z => ?_⟩
    · have h0 : nd g = 0 := by
        have := (nI_leI (b := 0) (by omega) (by decide)).mp z
        omega
      rw [f_w, if_pos (hn1.resolve_right (by omega))]
    · have hnd : 1 ≤ nd g := by
        rcases Nat.eq_zero_or_pos (nd g) with w | w
        · exact absurd (by rw [w]; decide) z
        · exact w
      have hb1 : (nd g - 1) * uL s ≤ 1000 * 27720 := Nat.mul_le_mul (by omega) u2
      have cmp : 0 < lg_cmp (zN (uU s)) ((nI (nd g) - 1).toInt64 * zN (uL s)) ↔ (nd g - 1) * 27720 < s := by
        rw [show nI (nd g) - 1 = nI (nd g - 1) from nI_sub (b := 1) hnd, nL_z (by omega), zN_mul, lg_lt, Int64.lt_iff_toInt_lt, zN_toInt (by omega), zN_toInt (by omega)]
        have a1 : (nd g - 1) * uL s < uU s ↔ (nd g - 1) * uL s * 27720 < uU s * 27720 := (Nat.mul_lt_mul_right (by decide)).symm
        rw [u4, Nat.mul_right_comm] at a1
        have a2 : (nd g - 1) * 27720 * uL s < s * uL s ↔ (nd g - 1) * 27720 < s := Nat.mul_lt_mul_right u1
        rw [a2] at a1
        constructor
        · intro y; exact a1.mp (by omega)
        · intro y; have := a1.mpr y; omega
      have hpos : 0 < g_ws g 8 := by
        rcases Nat.eq_zero_or_pos (g_ws g 8) with w | w
        · unfold nd at hnd; rw [w] at hnd; simp at hnd
        · exact w
      refine ⟨fun y => fin _ ?_, fun y => ?_⟩
      · rw [f_w]
        split
        · rfl
        · rw [if_pos (cmp.mp y)]
      · have y2 : ¬ (nd g - 1) * 27720 < s := fun w => y (cmp.mpr w)
        have hS0 : ¬ S = 0 := fun w => by
          subst w
          have hz : ∀ k, s_S g 0 k = 0 := fun k => by
            induction k with
            | zero => rfl
            | succ k ih => rw [s_S, ih]; simp
          rw [hz] at hsum
          have := (n4 hpos).2
          omega
        rw [f_w, if_neg hS0, if_neg y2]
        cases e : g_hv g S 8 with
        | none => exact absurd ((bt_z hS).mpr (g_hv_none 8 e)) hS0
        | some j =>
          obtain ⟨hj, hbj⟩ := g_hv_some 8 j e
          have hj0 := hp j hj hbj
          have ho := s_S_out (g := g) hS hj hbj 8 (by omega)
          rw [if_pos hj] at ho
          have hbo := bc_out S hS j hj hbj
          dsimp only
          refine R_few3 (j := j) (by omega) h.1 hg hS hp h235 e ?_ 8 0 (by omega)
          refine h206_82 ⟨fun _ => ⟨j, rfl, hj, fun M1 e1 => ⟨8 + j, ix8 j, by omega, j, rfl, by omega, 8 + j, ix8 j, by omega, ?_⟩⟩, fun w => absurd (by decide) w⟩
          have f1 : fr (fun a i => a = 235 ∧ i = j) M M1 := by subst e1; exact fr_u ⟨rfl, rfl⟩
          have k1 : M1 235 j = 1 := by subst e1; exact fm_u_at
          have b1 : BR g ts rw M0 L0 R0 M1 ML R := h.f (f1.mono (fun a i z => by omega))
          have hlo := hg.lo hj
          have hee := hg.e hj
          obtain ⟨s1, s2, s3, s4, s5⟩ := u_step hg hj hj0 (show s ≤ 8 * (12 * 27720) by omega)
          rw [b1.1 (8 + j) (by omega), b1.1 j (by omega), nL_z (by omega), nL_z (by omega), zN_mul, zN_mul, zN_mul, zN_add]
          refine R_common 48 d _ _ (by rw [zN_toInt (by omega)]; omega) (by rw [zN_toInt (by omega)]; omega) (by rw [zN_toInt (by omega)]; omega) (by omega) ?_
          rw [zg_n (by omega) (by omega)]
          have gp : 0 < Nat.gcd (uU s * g (8 + j) + g j * uL s) (uL s * g (8 + j)) := Nat.gcd_pos_of_pos_right _ s5
          have gl : Nat.gcd (uU s * g (8 + j) + g j * uL s) (uL s * g (8 + j)) ≤ uL s * g (8 + j) := Nat.gcd_le_right _ s5
          refine ⟨zN_ne gp (by omega), zN_ne gp (by omega), ?_⟩
          rw [zN_div (by omega) (by omega), zN_div (by omega) (by omega), s1, s2, nI_1]
          refine ih (t + 1) (by omega) (bt_al hS) (by omega) (by omega) (fun q hq hb => hp q hq (by rw [Nat.testBit_and] at hb; simp at hb; exact hb.1)) (Or.inr hnd) b1 (fun q hq => ?_)
          unfold tkn
          rw [Nat.testBit_and, bt_tb j hj q hq]
          by_cases w : q = j
          · subst w
            rw [k1, if_pos ⟨hj0, by simp⟩]
          · rw [f1 235 q (fun v => w v.2), h235 q hq, tkn, show decide (¬ q = j) = true by simp [w], Bool.and_true]
theorem R_few1 (hd : 100 ≤ d) (hg : gok g B) : ∀ n k, k + n = 8 → ∀ {M : Nat → Nat → Int32}, BR g ts rw M0 L0 R0 M ML R → (∀ q, q < k → M 235 q = 0) → H206_33 d (nI (nd g)) (nI k) M ML R (RQ (nI (nd g)) [nL (f_w g (nd g) 8 (g_ts g) 0 0)] M0 L0 R0) := by
  intro n
  induction n with
  | zero =>
    intro k hk M h hj
    have : k = 8 := by omega
    subst this
    refine h206_33 ⟨fun _ => ?_, fun z => absurd (by decide) z⟩
    have := R_few2 (S := g_ts g) (s := 0) hd hg 8 0 (by omega) (g_ts_lt g) (bc_le _) (by rw [ws_S hg 8 (by omega)]; omega) (fun q hq hb => by rw [g_ts, bm_8 _ hq] at hb; simpa using hb) (S0_ws hg) h (fun q hq => by
      rw [hj q hq, tkn, if_neg]
      rintro ⟨a, b⟩
      exact b (by rw [g_ts, bm_8 _ hq]; simp [a]))
    rw [u_0.1, u_0.2] at this
    exact this
  | succ n ih =>
    intro k hk M h hj
    refine h206_33 ⟨fun z => absurd ((nI_leI (a := 8) (by decide) (by omega)).mp z) (by omega), fun _ => ⟨k, rfl, by omega, fun M1 e1 => ?_⟩⟩
    subst e1
    rw [nI_1]
    refine ih (k + 1) (by omega) (h.u (by omega)) (fun q y => ?_)
    by_cases e : q = k
    · subst e; exact fm_u_at
    · rw [fm_u_ix e]; exact hj q (by omega)
theorem R_fewest (hd : 101 ≤ d) (h : IR g un kp tx ts rw he sa M ML R) (hs : SO g un kp ts B) : wI (d + 1) 206 [.ref 219] M ML R (RQ (nI (nd g)) [nL (f_w g (nd g) 8 (g_ts g) 0 0)] M ML R) := by
  have hb := h.b.u (a := 219) (i := 5) (x := 0) (by omega)
  have hws := ws_lt hs.1 8 (by omega)
  obtain ⟨u1, u2, u3, u4⟩ := uL_bd (g_ws g 8)
  refine w206 (fun M1 e1 => ?_)
  subst e1
  refine R_layUse fm_N220 hd hb.1 hs.1 (fun L2 f2 k9 k10 => ⟨by rw [k10]; exact zN_ne u1 (by omega), ?_⟩)
  have e : ((L2 219 9 + L2 219 10 - 1) / L2 219 10).toInt32 = nI (nd g) := by
    have hq : (uU (g_ws g 8) + uL (g_ws g 8) - 1) / uL (g_ws g 8) = nd g := by
      unfold nd
      have hle := Nat.div_mul_le_self (g_ws g 8 + 27719) 27720
      have hlt := Nat.lt_div_mul_add (a := g_ws g 8 + 27719) (b := 27720) (by decide)
      generalize hq : (g_ws g 8 + 27719) / 27720 = q at hle hlt
      apply Nat.div_eq_of_lt_le
      · -- q * low ≤ up + low - 1
        have : q * uL (g_ws g 8) * 27720 < (uU (g_ws g 8) + uL (g_ws g 8)) * 27720 := by
          have h5 : q * 27720 < g_ws g 8 + 27720 := by omega
          rw [Nat.add_mul, u4, Nat.mul_right_comm, Nat.mul_comm (uL (g_ws g 8)) 27720, ← Nat.add_mul]
          exact Nat.mul_lt_mul_of_pos_right h5 u1
        have := Nat.lt_of_mul_lt_mul_right this
        omega
      · have : (uU (g_ws g 8)) * 27720 ≤ q * uL (g_ws g 8) * 27720 := by
          have h5 : g_ws g 8 ≤ q * 27720 := by
            clear hle hq
            revert hlt
            generalize q * 27720 = z
            intro hlt
            omega
          rw [u4, Nat.mul_right_comm]
          exact Nat.mul_le_mul_right _ h5
        have := Nat.le_of_mul_le_mul_right this (by decide)
        rw [Nat.succ_mul]
        omega
    have hn := (nd_bd hs.1).1
    rw [k9, k10, zN_add, show zN (uU (g_ws g 8) + uL (g_ws g 8)) - 1 = zN (uU (g_ws g 8) + uL (g_ws g 8) - 1) from zN_sub (b := 1) (by omega), zN_div (by omega) (by omega), hq]
    apply Int32.toInt_inj.mp
    rw [nI_toInt (by omega), Int64.toInt_toInt32, zN_toInt (by omega)]
    exact Int.bmod_eq_of_le (by omega) (by omega)
  rw [e]
  exact R_few1 (by omega) hs.1 8 0 (by omega) (hb.frl f2) (fun q y => absurd y (by omega))
end few
