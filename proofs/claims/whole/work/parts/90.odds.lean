/-! chances -/
theorem zN_mul (a b : Nat) : zN a * zN b = zN (a * b) := (Int64.ofNat_mul a b).symm
theorem zN_add (a b : Nat) : zN a + zN b = zN (a + b) := (Int64.ofNat_add a b).symm
theorem nL_z {n : Nat} (h : n < 2 ^ 31) : (nI n).toInt64 = zN n := by
  apply Int64.toInt_inj.mp
  rw [Int32.toInt_toInt64, nI_toInt h, zN_toInt (by omega)]
def o_s (p : Nat) (c : Nat → Nat) (j : Nat) : Nat := if j = 0 then c 0 * p else c j * p + c (j - 1) * (10 - p)
def o_n (p : Nat) : Nat → Nat → Nat
  | 0 => fun j => if j = 0 then 1 else 0
  | n + 1 => o_s p (o_n p n)
def o_e (c : Nat → Nat) : Nat → Nat → Nat
  | 0, _ => 0
  | n + 1, j => c j + o_e c n (j + 1)
/-- the class's, the reference's sum -/
def o_C (n k p : Nat) : Nat := o_e (o_n p n) (9 - k) k
def o_t (n k p s : Nat) : Nat := if k ≤ bc s then (10 - p) ^ bc s * p ^ (n - bc s) else 0
def o_r (n k p : Nat) : Nat → Nat
  | 0 => 0
  | m + 1 => o_r n k p m + o_t n k p m
theorem o_eq : ∀ n, n < 9 → ∀ p, p < 11 → ∀ k, k < 9 → o_r n k p (2 ^ n) = o_C n k p := by decide +kernel
theorem o_bd : ∀ n, n < 9 → ∀ p, p < 11 → ∀ k, k < 9 → o_C n k p < 2 ^ 60 := by decide +kernel
theorem o_cnt : ∀ n, n < 9 → ∀ s, s < 2 ^ n → (List.range n).countP (fun i => s.testBit i) = bc s := by decide +kernel
theorem p10_bd : ∀ n, n < 9 → 10 ^ n < 2 ^ 47 ∧ 0 < 10 ^ n := by decide +kernel
section odds
variable {d B b r : Nat} {g gk g' u : gr} {ts tx tx' t' : List Nat} {rw rw' : List Int64} {un un' : List gr} {kp kp' : Nat → Option gr} {he sa : List (Nat × Nat)} {M0 M M1 : Nat → Nat → Int32} {L0 ML L1 : Nat → Nat → Int64} {R0 R R1 : Nat → Nat → Option Nat}
theorem C_od63 {K : wK} {n k p i : Nat} {x4 : Int64} (hp : p ≤ 10) {c : Nat → Nat} (hK : ∀ L1, BC g ts rw M0 L0 M L1 → (∀ j, j < 9 → L1 62 j = zN (o_s p c j)) → H117_53 d (nI n) (nI k) (nI p) (x4 * zN 10) (nI (i + 1)) M L1 R K) : ∀ j, j ≤ 8 → ∀ {ML : Nat → Nat → Int64}, BC g ts rw M0 L0 M ML → (∀ q, q < 9 → ML 62 q = zN (if j < q then o_s p c q else c q)) → H117_63 d (nI n) (nI k) (nI p) x4 (nI i) (nI j) M ML R K := by
  have e10 : ((10 : Int32) - nI p).toInt64 = zN (10 - p) := by rw [show (10 : Int32) - nI p = nI (10 - p) from nI_sub (a := 10) hp, nL_z (by omega)]
  intro j
  induction j with
  | zero =>
    intro _ ML h hj
    refine h117_63 ⟨fun _ L1 e1 => ?_, fun z => absurd (by decide) z⟩
    subst e1
    rw [nI_1]
    refine hK _ (h.frl (fr_ul (Or.inr rfl))) (fun q hq => ?_)
    by_cases e : q = 0
    · subst e
      rw [fm_ul_at, hj 0 (by omega), if_neg (by omega), nL_z (by omega), zN_mul, o_s, if_pos rfl]
    · rw [fm_ul_ix e, hj q hq, if_pos (by omega)]
  | succ j ih =>
    intro hj8 ML h hj
    refine h117_63 ⟨fun z => absurd ((nI_leI (b := 0) (by omega) (by decide)).mp z) (by omega), fun _ => ⟨j + 1, rfl, by omega, j, nI_sub (a := j + 1) (b := 1) (by omega), by omega, j + 1, rfl, by omega, fun L4 e4 => ?_⟩⟩
    subst e4
    rw [hj (j + 1) (by omega), hj j (by omega), if_neg (by omega), if_neg (by omega), nL_z (by omega), e10, zN_mul, zN_mul, zN_add, show nI (j + 1) + -1 = nI j from (by rw [← Int32.sub_eq_add_neg]; exact nI_sub (a := j + 1) (b := 1) (by omega))]
    refine ih (by omega) (h.frl (fr_ul (Or.inr rfl))) (fun q hq => ?_)
    by_cases e : q = j + 1
    · subst e
      rw [fm_ul_at, if_pos (by omega), o_s, if_neg (by omega)]
      rfl
    · rw [fm_ul_ix e, hj q hq]
      by_cases y : j + 1 < q
      · rw [if_pos y, if_pos (by omega)]
      · rw [if_neg y, if_neg (by omega)]
theorem C_od138 {n k p : Nat} {x4 : Int64} (hd : 2 ≤ d) {c : Nat → Nat} (hc : ∀ j, j < 9 → ML 62 j = zN (c j)) (h : BC g ts rw M0 L0 M ML) (F : Nat) (hF : F < 2 ^ 60) (h4 : 0 < x4.toInt) (h4b : x4.toInt < 2 ^ 48) : ∀ m j a, j + m = 9 → a + o_e c m j = F → H117_138 d (nI n) (nI k) (nI p) x4 (zN a) (nI j) M ML R (CQ 0 (fW (zN F) x4) M0 L0 R) := by
  intro m
  induction m with
  | zero =>
    intro j a hj e
    have e : a = F := e
    subst e
    refine h117_138 ⟨fun _ => ?_, fun z => absurd ((nI_ltI (a := 8) (by decide) (by omega)).mpr (by omega)) z⟩
    refine B_clear (by omega) h (fun M1 h1 _ => ?_)
    refine B_frac hd h1 (by decide) (by rw [zN_toInt (by omega)]; omega) h4 h4b (fun M2 L2 h2 _ _ => ?_)
    exact h2.q
  | succ m ih =>
    intro j a hj e
    rw [o_e] at e
    refine h117_138 ⟨fun z => absurd ((nI_ltI (a := 8) (by decide) (by omega)).mp z) (by omega), fun _ => ⟨j, rfl, by omega, ?_⟩⟩
    rw [hc j (by omega), zN_add, nI_1]
    exact ih (j + 1) (a + c j) (by omega) (by omega)
theorem C_od53 {n k p : Nat} (hd : 2 ≤ d) (hn : n ≤ 8) (hk : k ≤ 8) (hp : p ≤ 10) : ∀ m i, i + m = n → ∀ {ML : Nat → Nat → Int64}, BC g ts rw M0 L0 M ML → (∀ j, j < 9 → ML 62 j = zN (o_n p i j)) → H117_53 d (nI n) (nI k) (nI p) (zN (10 ^ i)) (nI i) M ML R (CQ 0 (fW (zN (o_C n k p)) (zN (10 ^ n))) M0 L0 R) := by
  intro m
  induction m with
  | zero =>
    intro i hi ML h hj
    have : i = n := by omega
    subst this
    refine h117_53 ⟨fun _ => ?_, fun z => absurd ((nI_leI (by omega) (by omega)).mpr (by omega)) z⟩
    have hb := o_bd i (by omega) p (by omega) k (by omega)
    have hb2 := p10_bd i (by omega)
    exact C_od138 hd hj h (o_C i k p) hb (by rw [zN_toInt (by omega)]; omega) (by rw [zN_toInt (by omega)]; omega) (9 - k) k 0 (by omega) (Nat.zero_add _)
  | succ m ih =>
    intro i hi ML h hj
    refine h117_53 ⟨fun z => absurd ((nI_leI (by omega) (by omega)).mp z) (by omega), fun _ => ?_⟩
    refine C_od63 (c := o_n p i) hp (fun L1 h1 j1 => ?_) 8 (by omega) h (fun q hq => by rw [hj q hq, if_neg (by omega)])
    rw [zN_mul, ← Nat.pow_succ]
    exact ih (i + 1) (by omega) h1 j1
theorem C_odds (hd : 2 ≤ d) (h : IC g un kp tx ts rw he sa M ML R) (a b c : Int32) : (∀ n k p, n ≤ 8 → k ≤ 8 → p ≤ 10 → a = nI n → b = nI k → c = nI p → wI (d + 1) 117 [.ref 0, .int a, .int b, .int c] M ML R (CQ 0 (fW (zN (o_C n k p)) (zN (10 ^ n))) M ML R)) ∧ ((a < 0 ∨ 8 < a) ∨ (b < 0 ∨ 8 < b) ∨ (c < 0 ∨ 10 < c) → wI (d + 1) 117 [.ref 0, .int a, .int b, .int c] M ML R (CQ (-1) rw M ML R)) := by
  constructor
  · rintro n k p hn hk hp rfl rfl rfl
    refine w117 ⟨fun z => absurd z (nI_nneg (by omega)), fun _ => ⟨fun z => absurd ((nI_ltI (a := 8) (by decide) (by omega)).mp z) (by omega), fun _ => ⟨fun z => absurd z (nI_nneg (by omega)), fun _ => ⟨fun z => absurd ((nI_ltI (a := 8) (by decide) (by omega)).mp z) (by omega), fun _ => ⟨fun z => absurd z (nI_nneg (by omega)), fun _ => ⟨fun _ => ?_, fun z => absurd ((nI_leI (b := 10) (by omega) (by decide)).mpr hp) z⟩⟩⟩⟩⟩⟩
    refine wV_of (t_filll fm_s62 (by decide) (M, ML, R) 0) (by omega) (fun L2 e2 => ?_)
    have f : fr (fun a _ => a = 53 ∨ a = 62) ML L2 := by
      subst e2
      refine fr.tr (M1 := fm_rowl ML 62 (jd_fl (ML 62) 9 0)) (fun a i z => ?_) (fr_ul (Or.inr rfl))
      simp [fm_rowl, show ¬ a = 62 from fun y => z (Or.inr y)]
    refine C_od53 hd hn hk hp n 0 (by omega) (h.b.frl f) (fun j hj => ?_)
    subst e2
    by_cases e : j = 0
    · subst e; rw [fm_ul_at]; rfl
    · rw [fm_ul_ix e]
      have : fm_rowl ML 62 (jd_fl (ML 62) 9 0) 62 j = 0 := by simp [fm_rowl, jd_fl, hj]
      dsimp only
      rw [this, o_n]
      dsimp only
      rw [if_neg e]
      rfl
  · intro z
    refine w117 ⟨fun _ => h.b.q, fun y1 => ⟨fun _ => h.b.q, fun y2 => ⟨fun _ => h.b.q, fun y3 => ⟨fun _ => h.b.q, fun y4 => ⟨fun _ => h.b.q, fun y5 => ⟨fun y6 => ?_, fun _ => h.b.q⟩⟩⟩⟩⟩⟩
    exfalso
    rcases z with (z | z) | (z | z) | (z | z)
    · exact y1 z
    · exact y2 z
    · exact y3 z
    · exact y4 z
    · exact y5 z
    · exact absurd y6 (Int32.not_le.mpr z)
theorem R_od95 {K : wK} {n k p s : Nat} {x4 x6 : Int64} (hd : 1 ≤ d) (hn : n ≤ 8) (hp : p ≤ 10) (hs : s < 2 ^ n) (hK : H220_69 d (nI n) (nI k) (nI p) (x4 + zN ((10 - p) ^ bc s * p ^ (n - bc s))) x6 (nI (s + 1)) M ML R K) : ∀ m i, i + m = n → H220_95 d (nI n) (nI k) (nI p) x4 x6 (nI s) (zN ((10 - p) ^ (List.range i).countP (fun i => s.testBit i) * p ^ (i - (List.range i).countP (fun i => s.testBit i)))) (nI i) M ML R K := by
  have e10 : ((10 : Int32) - nI p).toInt64 = zN (10 - p) := by rw [show (10 : Int32) - nI p = nI (10 - p) from nI_sub (a := 10) hp, nL_z (by omega)]
  have hs8 : s < 256 := Nat.lt_of_lt_of_le hs (Nat.pow_le_pow_right (by decide) hn : 2 ^ n ≤ 2 ^ 8)
  intro m
  induction m with
  | zero =>
    intro i hi
    have : i = n := by omega
    subst this
    refine h220_95 ⟨fun _ => ?_, fun z => absurd ((nI_leI (by omega) (by omega)).mpr (by omega)) z⟩
    rw [o_cnt i (by omega) s hs, nI_1]
    exact hK
  | succ m ih =>
    intro i hi
    refine h220_95 ⟨fun z => absurd ((nI_leI (by omega) (by omega)).mp z) (by omega), fun _ => ?_⟩
    have i2 := ih (i + 1) (by omega)
    have es : (List.range (i + 1)).countP (fun i => s.testBit i) = (List.range i).countP (fun i => s.testBit i) + if s.testBit i = true then 1 else 0 := by
      rw [List.range_succ, List.countP_append, List.countP_cons, List.countP_nil, Nat.zero_add]
    have hle : (List.range i).countP (fun i => s.testBit i) ≤ i := by
      have := List.countP_le_length (p := fun i => s.testBit i) (l := List.range i)
      simpa using this
    rw [es] at i2
    rw [nI_1, nL_z (show p < 2 ^ 31 by omega), e10, zN_mul, zN_mul]
    refine R_has hd hs8 (by omega) ?_
    by_cases z : s.testBit i = true
    · rw [if_pos z] at i2 ⊢
      refine ⟨fun y => absurd y (by decide), fun _ => ?_⟩
      rw [show i + 1 - ((List.range i).countP (fun i => s.testBit i) + 1) = i - (List.range i).countP (fun i => s.testBit i) by omega, Nat.pow_succ, Nat.mul_right_comm] at i2
      exact i2
    · rw [if_neg z] at i2 ⊢
      refine ⟨fun _ => ?_, fun y => absurd rfl y⟩
      rw [Nat.add_zero, show i + 1 - (List.range i).countP (fun i => s.testBit i) = (i - (List.range i).countP (fun i => s.testBit i)) + 1 by omega, Nat.pow_succ, ← Nat.mul_assoc] at i2
      exact i2
theorem sh1 : ∀ n, n < 9 → (1 : Int32) <<< (nI n &&& 31) = nI (2 ^ n) := by decide +kernel
theorem R_od69 {n k p : Nat} (hd : 100 ≤ d) (hn : n ≤ 8) (hk : k ≤ 8) (hp : p ≤ 10) (h : BR g ts rw M0 L0 R0 M ML R) : ∀ m s, s + m = 2 ^ n → H220_69 d (nI n) (nI k) (nI p) (zN (o_r n k p s)) (zN (10 ^ n)) (nI s) M ML R (RQ 0 (fW (zN (o_C n k p)) (zN (10 ^ n))) M0 L0 R0) := by
  have h256 : 2 ^ n ≤ 2 ^ 8 := Nat.pow_le_pow_right (by decide) hn
  intro m
  induction m with
  | zero =>
    intro s hs
    have : s = 2 ^ n := by omega
    subst this
    refine h220_69 ⟨fun _ M1 e1 => ?_, fun z => absurd ?_ z⟩
    · subst e1
      rw [o_eq n (by omega) p (by omega) k (by omega)]
      have hb := o_bd n (by omega) p (by omega) k (by omega)
      have hb2 := p10_bd n (by omega)
      refine B_tellPart hd h.z (by decide) (by rw [zN_toInt (by omega)]; omega) (by rw [zN_toInt (by omega)]; omega) (by rw [zN_toInt (by omega)]; omega) (fun M2 L2 h2 _ _ => ?_)
      exact h2.q
    · rw [sh1 n (by omega)]; exact Int32.le_refl _
  | succ m ih =>
    intro s hs
    have i2 := ih (s + 1) (by omega)
    rw [o_r, o_t] at i2
    have hbc := bc_le s
    refine h220_69 ⟨fun z => ?_, fun _ => ?_⟩
    · rw [sh1 n (by omega)] at z
      exact absurd ((nI_leI (by omega) (by omega)).mp z) (by omega)
    · refine R_bc (by omega) (by omega) ⟨fun z => ?_, fun z => ?_⟩
      · have z2 := (nI_leI (by omega) (by omega)).mp z
        rw [if_pos z2, ← zN_add] at i2
        exact R_od95 (by omega) hn hp (by omega) i2 n 0 (by omega)
      · have z2 : ¬ k ≤ bc s := fun y => z ((nI_leI (by omega) (by omega)).mpr y)
        rw [if_neg z2, Nat.add_zero] at i2
        rw [nI_1]
        exact i2
theorem R_od46 {n k p : Nat} (hd : 100 ≤ d) (hn : n ≤ 8) (hk : k ≤ 8) (hp : p ≤ 10) (h : BR g ts rw M0 L0 R0 M ML R) : ∀ m i, i + m = n → H220_46 d (nI n) (nI k) (nI p) 0 (zN (10 ^ i)) (nI i) M ML R (RQ 0 (fW (zN (o_C n k p)) (zN (10 ^ n))) M0 L0 R0) := by
  intro m
  induction m with
  | zero =>
    intro i hi
    have : i = n := by omega
    subst this
    refine h220_46 ⟨fun _ => R_od69 hd hn hk hp h (2 ^ i) 0 (by omega), fun z => absurd ((nI_leI (by omega) (by omega)).mpr (by omega)) z⟩
  | succ m ih =>
    intro i hi
    refine h220_46 ⟨fun z => absurd ((nI_leI (by omega) (by omega)).mp z) (by omega), fun _ => ?_⟩
    rw [show Int64.ofNat 10 = zN 10 from rfl, zN_mul, ← Nat.pow_succ, nI_1]
    exact ih (i + 1) (by omega)
theorem R_odds (hd : 100 ≤ d) (h : IR g un kp tx ts rw he sa M ML R) (a b c : Int32) : (∀ n k p, n ≤ 8 → k ≤ 8 → p ≤ 10 → a = nI n → b = nI k → c = nI p → wI (d + 1) 220 [.ref 219, .int a, .int b, .int c] M ML R (RQ 0 (fW (zN (o_C n k p)) (zN (10 ^ n))) M ML R)) ∧ ((a < 0 ∨ 8 < a) ∨ (b < 0 ∨ 8 < b) ∨ (c < 0 ∨ 10 < c) → wI (d + 1) 220 [.ref 219, .int a, .int b, .int c] M ML R (RQ (-1) rw M ML R)) := by
  have hb := h.b.u (a := 219) (i := 5) (x := 0) (by omega)
  constructor
  · rintro n k p hn hk hp rfl rfl rfl
    refine w220 (fun M1 e1 => ?_)
    subst e1
    refine R_in (by omega) ?_
    rw [show md_in (nI n) 0 8 = 1 from in_y (lo := 0) (hi := 8) (by decide) (by omega) hn]
    refine ⟨fun z => absurd z (by decide), fun _ => R_in (by omega) ?_⟩
    rw [show md_in (nI k) 0 8 = 1 from in_y (lo := 0) (hi := 8) (by decide) (by omega) hk]
    refine ⟨fun z => absurd z (by decide), fun _ => R_in (by omega) ?_⟩
    rw [show md_in (nI p) 0 10 = 1 from in_y (lo := 0) (hi := 10) (by decide) (by omega) hp]
    refine ⟨fun _ => ?_, fun z => absurd z (by decide)⟩
    exact R_od46 hd hn hk hp hb n 0 (by omega)
  · intro z
    refine w220 (fun M1 e1 => ?_)
    subst e1
    refine R_in (by omega) ⟨fun _ => hb.q, fun y1 => R_in (by omega) ⟨fun _ => hb.q, fun y2 => R_in (by omega) ⟨fun y3 => ?_, fun _ => hb.q⟩⟩⟩
    exfalso
    rcases z with z | z | z
    · exact y1 (in_n z)
    · exact y2 (in_n z)
    · exact y3 (in_n z)
end odds
