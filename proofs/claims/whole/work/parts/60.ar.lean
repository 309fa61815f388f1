/-! numbers that don't wrap around -/
theorem nI_mul (a b : Nat) : nI a * nI b = nI (a * b) := (Int32.ofNat_mul a b).symm
theorem nI_sub {a b : Nat} (h : b ≤ a) : nI a - nI b = nI (a - b) := by
  have e : nI a = nI (a - b) + nI b := by rw [nI_add, Nat.sub_add_cancel h]
  rw [e, Int32.add_sub_cancel]
theorem nI_div {a b : Nat} (ha : a < 2 ^ 31) (hb : b < 2 ^ 31) : nI a / nI b = nI (a / b) := by
  apply Int32.toInt_inj.mp
  rw [Kit.i32_div (by rw [nI_toInt ha]; omega), nI_toInt ha, nI_toInt hb, nI_toInt (Nat.lt_of_le_of_lt (Nat.div_le_self a b) ha)]
  rfl
theorem nI_rem {a b : Nat} (ha : a < 2 ^ 31) (hb : b < 2 ^ 31) : i_rem (nI a) (nI b) = nI (a % b) := by
  rw [i_rem, nI_div ha hb, nI_mul, nI_sub (Nat.div_mul_le_self a b)]
  have := Nat.div_add_mod a b
  rw [Nat.mul_comm] at this
  congr 1
  omega
theorem nI_pos1 {n : Nat} (h0 : 0 < n) (h : n < 2 ^ 31) : 0 < nI n := (nI_ltI (a := 0) (by decide) h).mpr h0
/-! a TASK's PARTS, of one that joined in SLOT 0 -/
def p_rel (e p i : Nat) : Nat := (i - 1) * p / e
def p_dl (e p i : Nat) : Nat := (i * p + e - 1) / e
def p_ov (e p i : Nat) : Nat := if i * p % e = 0 then 0 else 1
def p_gl (e p least : Nat) : Nat → Nat → Nat
  | 0, _ => least
  | n + 1, k => if least < p_dl e p k ∧ p_dl e p k = p_rel e p k + 3 then p_dl e p k - 1 else if p_ov e p k = 0 then p_dl e p k else p_gl e p least n (k + 1)
def p_gp (e p i : Nat) : Nat := if 2 * e < p then 0 else p_gl e p (p_dl e p i) e i
theorem p_rel_dl {e p i : Nat} : p_rel e p i ≤ p_dl e p i := by
  unfold p_rel p_dl
  rcases Nat.eq_zero_or_pos e with rfl | he
  · simp
  · refine Nat.div_le_div_right ?_
    have : (i - 1) * p ≤ i * p := Nat.mul_le_mul_right _ (by omega)
    omega
theorem p_mul {i p : Nat} (hi : i < 2 ^ 24) (hp : p ≤ 12) : i * p < 2 ^ 28 := by
  have : i * p ≤ i * 12 := Nat.mul_le_mul_left _ hp
  omega
theorem p_rel_lt {e p i : Nat} (hi : i < 2 ^ 24) (hp : p ≤ 12) : p_rel e p i < 2 ^ 28 := by
  unfold p_rel
  have h1 : (i - 1) * p ≤ i * p := Nat.mul_le_mul_right _ (by omega)
  have h2 := p_mul hi hp
  have h3 := Nat.div_le_self ((i - 1) * p) e
  omega
theorem p_dl_lt {e p i : Nat} (hi : i < 2 ^ 24) (hp : p ≤ 12) (he : e ≤ 12) : p_dl e p i < 2 ^ 28 + 12 := by
  unfold p_dl
  have h2 := p_mul hi hp
  have h3 := Nat.div_le_self (i * p + e - 1) e
  omega
theorem p_dl_pos {e p i : Nat} (he : 0 < e) (hp : 0 < p) (hi : 0 < i) : 0 < p_dl e p i := by
  unfold p_dl
  have : 1 ≤ i * p := Nat.mul_pos hi hp
  exact Nat.div_pos (by omega) he
theorem n_rel {e p i : Nat} (he : 0 < e) (he2 : e ≤ 12) (hp : p ≤ 12) (hi : 0 < i) (hi2 : i < 2 ^ 24) : pt_rel (nI e) (nI p) (nI i) = nI (p_rel e p i) := by
  have h1 : (i - 1) * p ≤ i * p := Nat.mul_le_mul_right _ (by omega)
  have h2 := p_mul hi2 hp
  rw [pt_rel, if_neg (nI_nle he (by omega)), show nI i - 1 = nI (i - 1) from nI_sub (b := 1) hi, nI_mul, nI_div (by omega) (by omega)]
  rfl
theorem n_dl {e p i : Nat} (he : 0 < e) (he2 : e ≤ 12) (hp : p ≤ 12) (hi2 : i < 2 ^ 24) : pt_dl (nI e) (nI p) (nI i) = nI (p_dl e p i) := by
  have h2 := p_mul hi2 hp
  rw [pt_dl, if_neg (nI_nle he (by omega)), nI_mul, nI_add, show nI (i * p + e) - 1 = nI (i * p + e - 1) from nI_sub (b := 1) (by omega), nI_div (by omega) (by omega)]
  rfl
theorem n_ov {e p i : Nat} (he : 0 < e) (he2 : e ≤ 12) (hp : p ≤ 12) (hi2 : i < 2 ^ 24) : pt_ov (nI e) (nI p) (nI i) = nI (p_ov e p i) := by
  have h2 := p_mul hi2 hp
  have h3 := Nat.mod_le (i * p) e
  rw [pt_ov, if_neg (nI_nle he (by omega)), nI_mul, nI_rem (by omega) (by omega), p_ov]
  by_cases h : i * p % e = 0
  · rw [h, if_pos nI_0, if_pos rfl]
    rfl
  · rw [if_neg h, if_neg (nI_ne0 (by omega) (by omega))]
    rfl
theorem n_gl {e p : Nat} (he : 0 < e) (he2 : e ≤ 12) (hp : p ≤ 12) (x : Int32) {least : Nat} (hl : least < 2 ^ 29) : ∀ n k, 0 < k → k + n < 2 ^ 24 → pt_gl (nI e) (nI p) x (nI least) n (nI k) = nI (p_gl e p least n k) := by
  intro n
  induction n with
  | zero => intro k _ _; rfl
  | succ n ih =>
    intro k hk hkn
    have ih := ih (k + 1) (by omega) (by omega)
    have hd := p_dl_lt (e := e) (p := p) (i := k) (by omega) hp he2
    have hr := p_rel_lt (e := e) (p := p) (i := k) (by omega) hp
    have hrd := p_rel_dl (e := e) (p := p) (i := k)
    have ho : p_ov e p k < 2 := by unfold p_ov; split <;> omega
    rw [← nI_1] at ih
    rw [pt_gl, p_gl, n_dl he he2 hp (by omega), n_rel he he2 hp hk (by omega), n_ov he he2 hp (by omega), ih, nI_sub hrd]
    have hov : ∀ x y : Int32, (if nI (p_ov e p k) = 0 then x else y) = if p_ov e p k = 0 then x else y := fun x y => by
      by_cases c2 : p_ov e p k = 0
      · rw [if_pos c2, c2, if_pos nI_0]
      · rw [if_neg c2, if_neg (nI_ne0 (by omega) (by omega))]
    have hov2 : nI (if p_ov e p k = 0 then p_dl e p k else p_gl e p least n (k + 1)) = if p_ov e p k = 0 then nI (p_dl e p k) else nI (p_gl e p least n (k + 1)) := by split <;> rfl
    rw [hov]
    by_cases c1 : p_dl e p k ≤ least
    · rw [if_pos ((nI_leI (by omega) (by omega)).mpr c1), if_neg (show ¬ (least < p_dl e p k ∧ p_dl e p k = p_rel e p k + 3) from fun q => absurd q.1 (by omega)), hov2]
    · rw [if_neg (fun q => c1 ((nI_leI (by omega) (by omega)).mp q))]
      by_cases c3 : p_dl e p k = p_rel e p k + 3
      · rw [if_pos (show least < p_dl e p k ∧ p_dl e p k = p_rel e p k + 3 from ⟨by omega, c3⟩), if_pos (show nI (p_dl e p k - p_rel e p k) = 3 by rw [show p_dl e p k - p_rel e p k = 3 by omega]; rfl)]
        exact nI_sub (b := 1) (by omega)
      · rw [if_neg (show ¬ (least < p_dl e p k ∧ p_dl e p k = p_rel e p k + 3) from fun q => c3 q.2), if_neg (show ¬ nI (p_dl e p k - p_rel e p k) = 3 from fun q => c3 (by have := (nI_eq (a := p_dl e p k - p_rel e p k) (b := 3) (by omega) (by omega)).mp q; omega)), hov2]
theorem n_gp {e p i : Nat} (he : 0 < e) (he2 : e ≤ 12) (hp : p ≤ 12) (hi : 0 < i) (hi2 : i < 2 ^ 23) : pt_gp (nI e) (nI p) (nI i) = nI (p_gp e p i) := by
  have hd := p_dl_lt (e := e) (p := p) (i := i) (by omega) hp he2
  rw [pt_gp, p_gp, n_dl he he2 hp (by omega), show (2 : Int32) * nI e = nI (2 * e) from nI_mul 2 e, nI_clamp (by omega)]
  by_cases c : 2 * e < p
  · rw [if_pos c, if_neg (fun q => absurd ((nI_leI (by omega) (by omega)).mp q) (by omega))]
    rfl
  · rw [if_neg c, if_pos ((nI_leI (by omega) (by omega)).mpr (by omega)), n_gl he he2 hp _ (by omega) e i hi (by omega)]
/-- one of any e PARTS has no OVERLAP -/
theorem p_end {e p : Nat} (he : 0 < e) (k : Nat) : ∃ t, t < e ∧ p_ov e p (k + t) = 0 := by
  refine ⟨(e - k % e) % e, Nat.mod_lt _ he, ?_⟩
  have h1 : (k + (e - k % e) % e) % e = 0 := by
    rw [Nat.add_mod_mod, Nat.add_mod]
    have h2 := Nat.mod_lt k he
    rcases Nat.eq_zero_or_pos (k % e) with h3 | h3
    · rw [h3, Nat.sub_zero, Nat.mod_self]; simp
    · rw [Nat.mod_eq_of_lt (a := e - k % e) (by omega), show k % e + (e - k % e) = e by omega, Nat.mod_self]
  rw [p_ov, Nat.mul_mod, h1]
  simp
theorem p_gl_pos {e p least : Nat} (he : 0 < e) (hp : 0 < p) (hl : 0 < least) : ∀ n k, 0 < k → 0 < p_gl e p least n k := by
  intro n
  induction n with
  | zero => intro k _; exact hl
  | succ n ih =>
    intro k hk
    have h1 := p_dl_pos (e := e) (p := p) (i := k) he hp hk
    rw [p_gl]
    split
    · omega
    · split
      · exact h1
      · exact ih (k + 1) (by omega)
theorem p_gl_lt {e p least B : Nat} (he : e ≤ 12) (hp : p ≤ 12) (hl : least < 2 ^ 29) : ∀ n k, k + n < 2 ^ 24 → p_gl e p least n k < 2 ^ 29 := by
  intro n
  induction n with
  | zero => intro k _; exact hl
  | succ n ih =>
    intro k hk
    have h1 := p_dl_lt (e := e) (p := p) (i := k) (by omega) hp he
    rw [p_gl]
    split
    · omega
    · split
      · omega
      · exact ih (k + 1) (by omega)
theorem p_gp_lt {e p i : Nat} (he : e ≤ 12) (hp : p ≤ 12) (hi : i < 2 ^ 23) : p_gp e p i < 2 ^ 29 := by
  have hd := p_dl_lt (e := e) (p := p) (i := i) (by omega) hp he
  unfold p_gp
  split
  · decide
  · exact p_gl_lt (B := 0) he hp (by omega) e i (by omega)
theorem p_gp_pos {e p i : Nat} (he : 0 < e) (hp : 0 < p) (hi : 0 < i) (h : ¬ 2 * e < p) : 0 < p_gp e p i := by
  rw [p_gp, if_neg h]
  exact p_gl_pos he hp (p_dl_pos he hp hi) e i hi
