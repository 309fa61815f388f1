theorem ts_neg {a b : Nat} (ha : a < 2 ^ 30) (hb : b < 2 ^ 30) : (nI a - nI b).toInt = (a : Int) - b := by
  rw [Kit.i32_sub (by rw [nI_toInt (by omega), nI_toInt (by omega)]; omega) (by rw [nI_toInt (by omega), nI_toInt (by omega)]; omega), nI_toInt (by omega), nI_toInt (by omega)]
def lgZ (g : gr) (q : Nat) : Int := (((g 41 - g (16 + q)) * g q : Nat) : Int) - ((g (32 + q) * g (8 + q) : Nat) : Int)
theorem g_or_in {g : gr} {ts : List Nat} {q : Nat} (hq : q < 8) : ∀ c w, w < 256 → bc w = c → w.testBit q = true → q ∈ g_or g ts c w := by
  intro c
  induction c with
  | zero =>
    intro w hw h ht
    have := bc_0 w hw h
    subst this
    simp at ht
  | succ c ih =>
    intro w hw h ht
    obtain ⟨j, e, hj, hb⟩ := g_pk_ne (g := g) (ts := ts) hw (fun z => by subst z; simp at ht)
    have h2 := bc_out w hw j hj hb
    rw [g_or, e]
    dsimp only
    by_cases z : q = j
    · subst z; exact List.mem_cons_self
    · refine List.mem_cons_of_mem _ (ih _ (bt_al hw) (by omega) ?_)
      rw [Nat.testBit_and, bt_tb j hj q hq, ht]
      simp [z]
section order
variable {d B : Nat} {g gk : gr} {ts tx : List Nat} {rw : List Int64} {un : List gr} {kp : Nat → Option gr} {he sa : List (Nat × Nat)} {M0 M : Nat → Nat → Int32} {L0 ML : Nat → Nat → Int64} {R0 R : Nat → Nat → Option Nat}
theorem lgI_Z (hg : gok g B) (hB : B < 2 ^ 22) {q : Nat} (hq : q < 8) : (lgI g q).toInt = lgZ g q ∧ (lgZ g q).natAbs < 2 ^ 26 := by
  have h1 := hg.dn hq
  have h2 := hg.2.2.1
  have h3 := hg.e hq
  have h4 := hg.lo hq
  have b1 : (g 41 - g (16 + q)) * g q ≤ 2 ^ 22 * 12 := Nat.mul_le_mul (by omega) h3
  have b2 : g (32 + q) * g (8 + q) ≤ 2 ^ 22 * 12 := Nat.mul_le_mul (by omega) h4
  refine ⟨?_, ?_⟩
  · rw [lgI, nI_sub (by omega), nI_mul, nI_mul, ts_neg (by omega) (by omega)]
    rfl
  · unfold lgZ
    omega
/-! lag -/
theorem C_lagM (hd : 2 ≤ d) (h : IC g un kp tx ts rw he sa M ML R) (hs : SO g un kp ts B) (t : Int32) : (∀ q, q < 8 → t = nI q → 0 < g q → wI (d + 1) 91 [.ref 0, .int t] M ML R (CQ 0 (fW (lgI g q).toInt64 (nL (g (8 + q)))) M ML R)) ∧ (¬ th g t → wI (d + 1) 91 [.ref 0, .int t] M ML R (CQ (-1) rw M ML R)) := by
  constructor
  · rintro q hq rfl h0
    refine w91 (C_th fm_W1 (by omega) h.2.1 hs.1 _ (fun q' hq' e h0' => ⟨fun _ => ?_, fun z => absurd z (by decide)⟩) (fun z => absurd ((th_nI hq).mpr h0) z))
    refine B_clear (by omega) h.b (fun M1 h1 f1 => ?_)
    refine C_lag fm_W1 (by omega) h1.1 hq h0 ⟨q, rfl, hq, ?_⟩
    have e3 : M1 3 q = nI (g (8 + q)) := (h1.1.2.2.2 q hq).1
    have hl := hs.1.lo hq
    have hl0 := (hs.1.lo0 hq).mpr h0
    rw [e3]
    refine B_frac hd h1 (by decide) (by rw [Int32.toInt_toInt64]; have := (lgI g q).toInt_lt; have := (lgI g q).le_toInt; omega) (by rw [Int32.toInt_toInt64, nI_toInt (by omega)]; omega) (by rw [Int32.toInt_toInt64, nI_toInt (by omega)]; omega) (fun M2 L2 h2 _ _ => ?_)
    exact h2.q
  · intro z
    exact w91 (C_th fm_W1 (by omega) h.2.1 hs.1 _ (fun q' hq' e h0' => absurd ⟨q', hq', e, h0'⟩ z) (fun _ => ⟨fun y => absurd rfl y, fun _ => h.b.q⟩))
theorem R_lagM (hd : 100 ≤ d) (h : IR g un kp tx ts rw he sa M ML R) (hs : SO g un kp ts B) (t : Int32) : (∀ q, q < 8 → t = nI q → 0 < g q → wI (d + 1) 187 [.ref 219, .int t] M ML R (RQ 0 (fW (lgI g q).toInt64 (nL (g (8 + q)))) M ML R)) ∧ (¬ th g t → wI (d + 1) 187 [.ref 219, .int t] M ML R (RQ (-1) rw M ML R)) := by
  have hb := h.b.u (a := 219) (i := 5) (x := 0) (by omega)
  constructor
  · rintro q hq rfl h0
    refine w187 (fun M1 e1 => ?_)
    subst e1
    refine R_task (by omega) hb.1 hs.1 _ (fun q' hq' e h0' => ⟨fun _ M3 e3 => ?_, fun z => absurd z (by decide)⟩) (fun z => absurd ((th_nI hq).mpr h0) z)
    subst e3
    have h1 := hb.z
    refine R_lag fm_N220 (by omega) h1.1 hq ⟨8 + q, ix8 q, by omega, ?_⟩
    have hl := hs.1.lo hq
    have hl0 := (hs.1.lo0 hq).mpr h0
    rw [h1.1 (8 + q) (by omega)]
    refine B_tellPart hd h1 (by decide) (by rw [Int32.toInt_toInt64]; have := (lgI g q).toInt_lt; have := (lgI g q).le_toInt; omega) (by rw [Int32.toInt_toInt64, nI_toInt (by omega)]; omega) (by rw [Int32.toInt_toInt64, nI_toInt (by omega)]; omega) (fun M2 L2 h2 _ _ => ?_)
    exact h2.q
  · intro z
    refine w187 (fun M1 e1 => ?_)
    subst e1
    exact R_task (by omega) hb.1 hs.1 _ (fun q' hq' e h0' => absurd ⟨q', hq', e, h0'⟩ z) (fun _ => ⟨fun y => absurd rfl y, fun _ => hb.q⟩)
/-! behind -/
def q_b1 (g : gr) (k : Nat) (x : Option Nat) : Option Nat := if 0 < g k then (match x with
  | none => some k
  | some j => if lgZ g k * g (8 + j) ≤ lgZ g j * g (8 + k) then some j else some k) else x
def q_bh (g : gr) : Nat → Nat → Option Nat → Option Nat
  | 0, _, x => x
  | n + 1, k, x => q_bh g n (k + 1) (q_b1 g k x)
theorem cl_le (hc : cr M 1 g) (hg : gok g B) (hB : B < 2 ^ 22) {p q : Nat} (hp : p < 8) (hq : q < 8) (p0 : 0 < g p) (q0 : 0 < g q) : wd_cl M 1 p q ≤ 0 ↔ lgZ g p * g (8 + q) ≤ lgZ g q * g (8 + p) := by
  have hlp := hg.lo hp
  have hlq := hg.lo hq
  obtain ⟨e1, b1⟩ := lgI_Z hg hB hp
  obtain ⟨e2, b2⟩ := lgI_Z hg hB hq
  have m1 : (lgZ g p * (g (8 + q) : Int)).natAbs < 2 ^ 30 := by
    rw [Int.natAbs_mul]
    have := Nat.mul_le_mul (show (lgZ g p).natAbs ≤ 2 ^ 26 by omega) (show (g (8 + q) : Int).natAbs ≤ 12 by omega)
    omega
  have m2 : (lgZ g q * (g (8 + p) : Int)).natAbs < 2 ^ 30 := by
    rw [Int.natAbs_mul]
    have := Nat.mul_le_mul (show (lgZ g q).natAbs ≤ 2 ^ 26 by omega) (show (g (8 + p) : Int).natAbs ≤ 12 by omega)
    omega
  have c1 : ((lgI g p).toInt64 * (nI (g (8 + q))).toInt64).toInt = lgZ g p * g (8 + q) := by
    rw [l_mul] <;> rw [Int32.toInt_toInt64, Int32.toInt_toInt64, e1, nI_toInt (by omega)]
    omega
  have c2 : ((lgI g q).toInt64 * (nI (g (8 + p))).toInt64).toInt = lgZ g q * g (8 + p) := by
    rw [l_mul] <;> rw [Int32.toInt_toInt64, Int32.toInt_toInt64, e2, nI_toInt (by omega)]
    omega
  have k1 : M (1 + 2) q = nI (g (8 + q)) := (hc.2.2.2 q hq).1
  have k2 : M (1 + 2) p = nI (g (8 + p)) := (hc.2.2.2 p hp).1
  rw [wd_cl, c_lag hc hp p0, c_lag hc hq q0, k1, k2, ← c1, ← c2, ← Int64.le_iff_toInt_le, ← lg_le]
  unfold jd_lcmp
  generalize lg_cmp ((lgI g p).toInt64 * (nI (g (8 + q))).toInt64) ((lgI g q).toInt64 * (nI (g (8 + p))).toInt64) = v
  by_cases h : 0 ≤ v
  · rw [if_pos h]
    by_cases h2 : v = 0
    · subst h2; simp
    · rw [if_pos h2]
      refine ⟨fun y => absurd y (by decide), fun y => ?_⟩
      exact absurd (Int32.le_antisymm y h) h2
  · rw [if_neg h]
    exact ⟨fun _ => Int32.le_of_lt (Int32.not_le.mp h), fun _ => by decide⟩
def q_bhA (x : Option Nat) : Int32 := match x with
  | none => -2
  | some q => nI q
def q_bhW (g : gr) (rw : List Int64) (x : Option Nat) : List Int64 := match x with
  | none => rw
  | some q => fW (lgI g q).toInt64 (nL (g (8 + q)))
theorem C_behind1 (hd : 2 ≤ d) (hg : gok g B) (hB : B < 2 ^ 20) : ∀ n k, k + n = 8 → ∀ x, (∀ j, x = some j → j < 8 ∧ 0 < g j) → BC g ts rw M0 L0 M ML → H94_4 d (po x) (nI k) M ML R (CQ (q_bhA (q_bh g n k x)) (q_bhW g rw (q_bh g n k x)) M0 L0 R) := by
  intro n
  induction n with
  | zero =>
    intro k hk x hx h
    rw [q_bh]
    refine h94_4 ⟨fun _ => ?_, fun z => absurd ((nI_leI (a := 8) (by decide) (by omega)).mpr (by omega)) z⟩
    cases x with
    | none => exact ⟨fun y => absurd rfl y, fun _ => h.q⟩
    | some q =>
      obtain ⟨hq, h0⟩ := hx q rfl
      refine ⟨fun _ => ?_, fun y => absurd (show nI q = -1 from y) (nI_nm1 (by omega))⟩
      refine B_clear (by omega) h (fun M1 h1 f1 => ?_)
      refine C_lag fm_W1 (by omega) h1.1 hq h0 ⟨q, rfl, hq, ?_⟩
      have e3 : M1 3 q = nI (g (8 + q)) := (h1.1.2.2.2 q hq).1
      have hl := hg.lo hq
      have hl0 := (hg.lo0 hq).mpr h0
      rw [e3]
      refine B_frac hd h1 (by decide) (by rw [Int32.toInt_toInt64]; have := (lgI g q).toInt_lt; have := (lgI g q).le_toInt; omega) (by rw [Int32.toInt_toInt64, nI_toInt (by omega)]; omega) (by rw [Int32.toInt_toInt64, nI_toInt (by omega)]; omega) (fun M2 L2 h2 _ _ => ?_)
      exact h2.q
  | succ n ih =>
    intro k hk x hx h
    rw [q_bh]
    refine h94_4 ⟨fun z => absurd ((nI_leI (a := 8) (by decide) (by omega)).mp z) (by omega), fun _ => ?_⟩
    rw [nI_1]
    unfold q_b1
    refine C_th fm_W1 (by omega) h.1 hg _ (fun q' hq' e z1 => ?_) (fun z1 => ?_)
    · have := nI_inj8 (by omega) hq' e
      subst this
      rw [if_pos z1]
      refine ⟨fun y => absurd y (by decide), fun _ => ?_⟩
      cases x with
      | none => exact ⟨fun _ => ih (k + 1) (by omega) (some k) (fun j y => by cases y; exact ⟨hq', z1⟩) h, fun y => absurd rfl y⟩
      | some j =>
        obtain ⟨hj, j0⟩ := hx j rfl
        refine ⟨fun y => absurd (show nI j = -1 from y) (nI_nm1 (by omega)), fun _ => ?_⟩
        refine wI_of (t_compareLags fm_W1 (M, ML, R) (nI k) (nI j) (in_nI hq' (by decide)) (in_nI hj (by decide))) hd ?_
        dsimp only
        rw [nI_clamp (by omega), nI_clamp (by omega)]
        have hcl := cl_le h.1 hg (by omega) hq' hj z1 j0
        by_cases z : lgZ g k * g (8 + j) ≤ lgZ g j * g (8 + k)
        · rw [if_pos z]
          exact ⟨fun _ => ih (k + 1) (by omega) (some j) hx h, fun y => absurd (hcl.mpr z) y⟩
        · rw [if_neg z]
          exact ⟨fun y => absurd (hcl.mp y) z, fun _ => ih (k + 1) (by omega) (some k) (fun j y => by cases y; exact ⟨hq', z1⟩) h⟩
    · rw [if_neg (fun y => z1 ((th_nI (by omega)).mpr y))]
      exact ⟨fun _ => ih (k + 1) (by omega) x hx h, fun y => absurd rfl y⟩
theorem C_behind (hd : 2 ≤ d) (h : IC g un kp tx ts rw he sa M ML R) (hs : SO g un kp ts B) (hB : B < 2 ^ 20) : wI (d + 1) 94 [.ref 0] M ML R (CQ (q_bhA (q_bh g 8 0 none)) (q_bhW g rw (q_bh g 8 0 none)) M ML R) :=
  w94 (C_behind1 hd hs.1 hB 8 0 (by omega) none (fun j y => by cases y) h.b)
theorem ml_le (hg : gok g B) (hB : B < 2 ^ 22) {p q : Nat} (hp : p < 8) (hq : q < 8) : lgI g p * nI (g (8 + q)) ≤ lgI g q * nI (g (8 + p)) ↔ lgZ g p * g (8 + q) ≤ lgZ g q * g (8 + p) := by
  have hlp := hg.lo hp
  have hlq := hg.lo hq
  obtain ⟨e1, b1⟩ := lgI_Z hg hB hp
  obtain ⟨e2, b2⟩ := lgI_Z hg hB hq
  have m1 : (lgZ g p * (g (8 + q) : Int)).natAbs < 2 ^ 30 := by
    rw [Int.natAbs_mul]
    have := Nat.mul_le_mul (show (lgZ g p).natAbs ≤ 2 ^ 26 by omega) (show (g (8 + q) : Int).natAbs ≤ 12 by omega)
    omega
  have m2 : (lgZ g q * (g (8 + p) : Int)).natAbs < 2 ^ 30 := by
    rw [Int.natAbs_mul]
    have := Nat.mul_le_mul (show (lgZ g q).natAbs ≤ 2 ^ 26 by omega) (show (g (8 + p) : Int).natAbs ≤ 12 by omega)
    omega
  have c1 : (lgI g p * nI (g (8 + q))).toInt = lgZ g p * g (8 + q) := by
    rw [Kit.i32_mul] <;> rw [e1, nI_toInt (by omega)] <;> omega
  have c2 : (lgI g q * nI (g (8 + p))).toInt = lgZ g q * g (8 + p) := by
    rw [Kit.i32_mul] <;> rw [e2, nI_toInt (by omega)] <;> omega
  rw [Int32.le_iff_toInt_le, c1, c2]
theorem R_gl1 {K : wK} (hd : 1 ≤ d) (hg : gok g B) (hB : B < 2 ^ 20) (ha : rr (M 220) g) (F : Option Nat) (hK : K (po F) M ML R) : ∀ n k, k + n = 8 → ∀ x, (∀ j, x = some j → j < 8 ∧ 0 < g j) → q_bh g n k x = F → H190_4 d 220 (po x) (nI k) M ML R K := by
  intro n
  induction n with
  | zero =>
    intro k hk x hx e
    have e : x = F := e
    subst e
    exact h190_4 fm_s220 ⟨fun _ => hK, fun z => absurd ((nI_leI (a := 8) (by decide) (by omega)).mpr (by omega)) z⟩
  | succ n ih =>
    intro k hk x hx e
    rw [q_bh] at e
    refine h190_4 fm_s220 ⟨fun z => absurd ((nI_leI (a := 8) (by decide) (by omega)).mp z) (by omega), fun _ => ?_⟩
    rw [nI_1]
    unfold q_b1 at e
    have hk8 : k < 8 := by omega
    refine R_th fm_N220 (by omega) ha hg hk8 ?_
    by_cases z1 : 0 < g k
    · rw [if_pos z1] at e ⊢
      refine ⟨fun _ => ?_, fun y => absurd y (by decide)⟩
      cases x with
      | none => exact ⟨fun _ => ih (k + 1) (by omega) (some k) (fun j y => by cases y; exact ⟨hk8, z1⟩) e, fun y => absurd rfl y⟩
      | some j =>
        obtain ⟨hj, j0⟩ := hx j rfl
        dsimp only at e
        refine ⟨fun y => absurd (show nI j = -1 from y) (nI_nm1 (by omega)), fun _ => ?_⟩
        refine R_lag fm_N220 (by omega) ha hk8 ⟨8 + j, ix8 j, by omega, ?_⟩
        refine R_lag fm_N220 (by omega) ha hj ⟨8 + k, ix8 k, by omega, ?_⟩
        rw [ha (8 + j) (by omega), ha (8 + k) (by omega)]
        have hcl := ml_le hg (by omega) hk8 hj
        by_cases z : lgZ g k * g (8 + j) ≤ lgZ g j * g (8 + k)
        · rw [if_pos z] at e
          exact ⟨fun _ => ih (k + 1) (by omega) (some j) hx e, fun y => absurd (hcl.mpr z) y⟩
        · rw [if_neg z] at e
          exact ⟨fun y => absurd (hcl.mp y) z, fun _ => ih (k + 1) (by omega) (some k) (fun j y => by cases y; exact ⟨hk8, z1⟩) e⟩
    · rw [if_neg z1] at e ⊢
      exact ⟨fun y => absurd rfl y, fun _ => ih (k + 1) (by omega) x hx e⟩
theorem q_bh_ok : ∀ n k, k + n ≤ 8 → ∀ x, (∀ j, x = some j → j < 8 ∧ 0 < g j) → ∀ j, q_bh g n k x = some j → j < 8 ∧ 0 < g j := by
  intro n
  induction n with
  | zero => intro k _ x hx j e; exact hx j e
  | succ n ih =>
    intro k hk x hx j e
    refine ih (k + 1) (by omega) (q_b1 g k x) (fun i y => ?_) j e
    unfold q_b1 at y
    split at y
    next z1 =>
      split at y
      · cases y; exact ⟨by omega, z1⟩
      · split at y
        · cases y; exact hx _ rfl
        · cases y; exact ⟨by omega, z1⟩
    next => exact hx i y
theorem R_behind (hd : 100 ≤ d) (h : IR g un kp tx ts rw he sa M ML R) (hs : SO g un kp ts B) (hB : B < 2 ^ 20) : wI (d + 1) 191 [.ref 219] M ML R (RQ (q_bhA (q_bh g 8 0 none)) (q_bhW g rw (q_bh g 8 0 none)) M ML R) := by
  have hb := h.b.u (a := 219) (i := 5) (x := 0) (by omega)
  obtain ⟨d, rfl⟩ : ∃ m, d = m + 1 := ⟨d - 1, by omega⟩
  refine w191 (fun M1 e1 => ?_)
  subst e1
  refine w190 fm_s220 (R_gl1 (by omega) hs.1 hB hb.1 (q_bh g 8 0 none) ?_ 8 0 (by omega) none (fun j y => by cases y) rfl)
  have hok := q_bh_ok (g := g) 8 0 (by omega) none (fun j y => by cases y)
  generalize q_bh g 8 0 none = F at hok
  cases F with
  | none => exact ⟨fun y => absurd rfl y, fun _ => hb.q⟩
  | some q =>
    obtain ⟨hq, h0⟩ := hok q rfl
    refine ⟨fun _ M3 e3 => ?_, fun y => absurd (show nI q = -1 from y) (nI_nm1 (by omega))⟩
    subst e3
    have h1 := hb.z
    refine R_lag fm_N220 (by omega) h1.1 hq ⟨8 + q, ix8 q, by omega, ?_⟩
    have hl := hs.1.lo hq
    have hl0 := (hs.1.lo0 hq).mpr h0
    rw [h1.1 (8 + q) (by omega)]
    refine B_tellPart (by omega) h1 (by decide) (by rw [Int32.toInt_toInt64]; have := (lgI g q).toInt_lt; have := (lgI g q).le_toInt; omega) (by rw [Int32.toInt_toInt64, nI_toInt (by omega)]; omega) (by rw [Int32.toInt_toInt64, nI_toInt (by omega)]; omega) (fun M2 L2 h2 _ _ => ?_)
    exact h2.q
end order
