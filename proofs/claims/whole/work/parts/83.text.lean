/-! THE TEXT: bytes -/
def bv (v : Int32) (s : Nat) : Nat := v.toBitVec.toNat / 2 ^ s % 256
theorem bv_lt (v : Int32) (s : Nat) : bv v s < 256 := Nat.mod_lt _ (by decide)
theorem u32_small (u : UInt32) (h : u.toNat < 256) : u.toInt32 = nI u.toNat := by
  apply Int32.toBitVec_inj.mp
  apply BitVec.eq_of_toNat_eq
  show u.toBitVec.toNat = (BitVec.ofNat 32 u.toNat).toNat
  rw [BitVec.toNat_ofNat]
  have : u.toBitVec.toNat = u.toNat := rfl
  rw [this, Nat.mod_eq_of_lt (by omega)]
theorem ch_c (v sh : Int32) (s : Nat) (hs : (sh.toUInt32 &&& Int32.toUInt32 31).toNat = s) (h32 : s < 32) : ((mj_ushr v sh &&& 255).toUInt32 % 65536).toInt32.toUInt32.toUInt16.toUInt32.toInt32 = nI (bv v s) := by
  have e1 : (mj_ushr v sh &&& 255).toUInt32.toNat = bv v s := by
    show (((v.toUInt32 >>> (sh.toUInt32 &&& Int32.toUInt32 31)).toInt32 &&& 255).toUInt32).toNat = _
    have : (((v.toUInt32 >>> (sh.toUInt32 &&& Int32.toUInt32 31)).toInt32 &&& 255).toUInt32).toNat = ((v.toUInt32 >>> (sh.toUInt32 &&& Int32.toUInt32 31)) &&& 255).toNat := rfl
    rw [this, UInt32.toNat_and, UInt32.toNat_shiftRight, hs, Nat.mod_eq_of_lt h32, Nat.shiftRight_eq_div_pow]
    show v.toUInt32.toNat / 2 ^ s &&& 255 = _
    rw [show (255 : Nat) = 2 ^ 8 - 1 from rfl, Nat.and_two_pow_sub_one_eq_mod]
    rfl
  have hb := bv_lt v s
  have e2 : ((mj_ushr v sh &&& 255).toUInt32 % 65536).toNat = bv v s := by
    rw [UInt32.toNat_mod, e1]
    show bv v s % 65536 = bv v s
    exact Nat.mod_eq_of_lt (by omega)
  generalize (mj_ushr v sh &&& 255).toUInt32 % 65536 = u at e2
  have e3 : u.toInt32.toUInt32 = u := rfl
  rw [e3]
  have e4 : u.toUInt16.toUInt32.toNat = bv v s := by
    rw [UInt16.toNat_toUInt32, UInt32.toNat_toUInt16, e2, Nat.mod_eq_of_lt (by omega)]
  rw [u32_small _ (by omega), e4]
theorem ch_b (v sh : Int32) (s : Nat) (hs : (sh.toBitVec.smod 32).toNat = s) (h24 : s ≤ 24) : (v >>> sh).toInt8 = (nI (bv v s)).toInt8 := by
  apply Int8.toBitVec_inj.mp
  rw [Int32.toBitVec_toInt8, Int32.toBitVec_toInt8, Int32.toBitVec_shiftRight, BitVec.sshiftRight', hs]
  apply BitVec.eq_of_getLsbD_eq
  intro i hi
  have e : (nI (bv v s)).toBitVec = BitVec.ofNat 32 (bv v s) := rfl
  rw [BitVec.getLsbD_signExtend, BitVec.getLsbD_signExtend, e, BitVec.getLsbD_sshiftRight, BitVec.getLsbD_ofNat, bv, show (256 : Nat) = 2 ^ 8 from rfl, Nat.testBit_mod_two_pow, Nat.testBit_div_two_pow]
  simp only [show i < 32 by omega, show s + i < 32 by omega, if_true, hi, decide_true, Bool.true_and]
  rw [Nat.add_comm i s]
  simp [show ¬ 32 ≤ i by omega]
  rfl
theorem by8_255 : ∀ c, c < 256 → by8 c &&& 255 = nI c := by decide +kernel
theorem by8_by8 : ∀ c, c < 256 → vp_nar .byte (nI c).toInt8.toInt32 = by8 c := by decide +kernel
def ltr (c : Nat) : Bool := decide (c = 98) || decide (c = 100) || decide (c = 103) || decide (c = 114) || decide (c = 119)
theorem by8_l : ∀ c, c < 256 → (by8 c = 98 ↔ c = 98) ∧ (by8 c = 100 ↔ c = 100) ∧ (by8 c = 103 ↔ c = 103) ∧ (by8 c = 114 ↔ c = 114) ∧ (by8 c = 119 ↔ c = 119) := by decide +kernel
theorem by8_inj : ∀ c, c < 256 → ((by8 c) &&& 255).toInt.toNat = c := by decide +kernel
theorem by8_eq {a b : Nat} (ha : a < 256) (hb : b < 256) : by8 a = by8 b ↔ a = b := by
  constructor
  · intro h
    have h1 := by8_inj a ha
    rw [h, by8_inj b hb] at h1
    exact h1.symm
  · rintro rfl; rfl
theorem by8_s : ∀ c, c < 128 → by8 c = nI c := by decide +kernel
def bys (v : Int32) : List Nat := [bv v 24, bv v 16, bv v 8, bv v 0]
theorem bys_get (v : Int32) (k : Nat) (hk : k < 4) : (bys v).getD k 0 = bv v (24 - 8 * k) := by
  match k, hk with
  | 0, _ => rfl
  | 1, _ => rfl
  | 2, _ => rfl
  | 3, _ => rfl
  | k + 4, hk => exact absurd hk (by omega)
theorem sc_c (v : Int32) (k : Nat) (hk : k < 4) : vp_nar .char ((mj_ushr v (24 - 8 * nI k) &&& 255).toUInt32 % 65536).toInt32 = nI (bv v (24 - 8 * k)) := by
  rw [vp_nar_char]
  refine ch_c v _ _ ?_ (by omega)
  match k, hk with
  | 0, _ => rfl
  | 1, _ => rfl
  | 2, _ => rfl
  | 3, _ => rfl
  | k + 4, hk => exact absurd hk (by omega)
theorem sc_b (v : Int32) (k : Nat) (hk : k < 4) : vp_nar .byte (v >>> (8 * nI (3 - k) &&& 31)).toInt8.toInt32 = by8 (bv v (24 - 8 * k)) := by
  rw [ch_b v (8 * nI (3 - k) &&& 31) (24 - 8 * k) ?_ (by omega), by8_by8 _ (bv_lt _ _)]
  match k, hk with
  | 0, _ => decide
  | 1, _ => decide
  | 2, _ => decide
  | 3, _ => decide
  | k + 4, hk => exact absurd hk (by omega)
theorem sc_app_get (f : Nat → Int32) (n : Nat) (v : Int32) : ∀ k, k ≤ 4 → ∀ j, sc_app f n v k j = if n ≤ j ∧ j < n + k then nI (bv v (24 - 8 * (j - n))) else f j := by
  intro k
  induction k with
  | zero => intro _ j; rw [if_neg (by omega)]; rfl
  | succ k ih =>
    intro hk j
    rw [sc_app, sc_c v k (by omega)]
    by_cases e : j = n + k
    · subst e
      rw [upd_same, if_pos (by omega), show n + k - n = k by omega]
    · rw [upd_ne e, ih (by omega)]
      by_cases z : n ≤ j ∧ j < n + k
      · rw [if_pos z, if_pos (by omega)]
      · rw [if_neg z, if_neg (by omega)]
theorem md_app_get (f : Nat → Int32) (n : Nat) (v : Int32) : ∀ k, k ≤ 4 → ∀ j, md_app f n v k j = if n ≤ j ∧ j < n + k then by8 (bv v (24 - 8 * (j - n))) else f j := by
  intro k
  induction k with
  | zero => intro _ j; rw [if_neg (by omega)]; rfl
  | succ k ih =>
    intro hk j
    rw [md_app, sc_b v k (by omega)]
    by_cases e : j = n + k
    · subst e
      rw [upd_same, if_pos (by omega), show n + k - n = k by omega]
    · rw [upd_ne e, ih (by omega)]
      by_cases z : n ≤ j ∧ j < n + k
      · rw [if_pos z, if_pos (by omega)]
      · rw [if_neg z, if_neg (by omega)]
theorem tx_get {tx : List Nat} {v : Int32} {j : Nat} (hj : j < tx.length + 4) : (tx ++ bys v).getD j 0 = if tx.length ≤ j then bv v (24 - 8 * (j - tx.length)) else tx.getD j 0 := by
  by_cases z : tx.length ≤ j
  · rw [if_pos z, ← bys_get v (j - tx.length) (by omega), List.getD_eq_getElem?_getD, List.getElem?_append_right z, List.getD_eq_getElem?_getD]
  · rw [if_neg z, List.getD_eq_getElem?_getD, List.getElem?_append_left (by omega), List.getD_eq_getElem?_getD]
theorem bys_len (v : Int32) : (bys v).length = 4 := rfl
section txt
variable {d B b r : Nat} {g g' u : gr} {ts tx tx' : List Nat} {rw rw' : List Int64} {un un' : List gr} {kp kp' : Nat → Option gr} {he sa : List (Nat × Nat)} {M0 M M1 : Nat → Nat → Int32} {L0 ML L1 : Nat → Nat → Int64} {R0 R R1 : Nat → Nat → Option Nat}
/-- THE TEXT alone has changed -/
theorem IC.x (h : IC g un kp tx ts rw he sa M ML R) (f : fr (fun a i => (a = 38 ∧ i = 1) ∨ a = 39) M M1) (x : IX M1 tx') : IC g un kp tx' ts rw he sa M1 ML R := by
  obtain ⟨h1, h2, h3, h4, h5, h6, h7, h8, h9⟩ := h
  exact ⟨h1, cr_fr h2 (fun a i y1 y2 _ => f a i (by omega)), IP_fr h3 (fun a i y => f a i (by omega)), x, tr_fr h5 (fun a i y => f a i (by omega)), IW_fr h6 (fun i => f _ i (by omega)) (fun _ => rfl), IH_fr h7 (fun a i y => f a i (by omega)), IS_fr h8 (fun a i y => f a i (by omega)), IZ_fr h9 (fun a i y => f a i (by omega))⟩
theorem IR.x (h : IR g un kp tx ts rw he sa M ML R) (f : fr (fun a i => (a = 219 ∧ (i = 2 ∨ i = 5)) ∨ a = 221) M M1) (x : JX M1 tx') : IR g un kp tx' ts rw he sa M1 ML R := by
  obtain ⟨h1, h2, h3, h4, h5, h6, h7⟩ := h
  exact ⟨rr_fr h1 (fun i => f _ i (by omega)), JP_fr h2 (fun a i y => f a i (by omega)), x, JT_fr h4 (fun a i y => f a i (by omega)) rfl rfl, JW_fr h5 (f _ _ (by omega)) (fun _ => rfl), JH_fr h6 (fun a i y => f a i (by omega)), JS_fr h7 (fun a i y => f a i (by omega))⟩
theorem IC.xl (h : IC g un kp tx ts rw he sa M ML R) : tx.length ≤ 80 ∧ ∀ c ∈ tx, c < 256 := ⟨h.2.2.2.1.1, h.2.2.2.1.2.1⟩
theorem n4_80 {n : Nat} (h : n ≤ 80) : nI n + 4 ≤ 80 ↔ n + 4 ≤ 80 := by
  rw [show nI n + 4 = nI (n + 4) from nI_add n 4]
  exact nI_leI (b := 80) (by omega) (by decide)
theorem C_sign (hd : 2 ≤ d) (h : IC g un kp tx ts rw he sa M ML R) (v : Int32) : wI d 74 [.ref 0, .int v] M ML R (if tx.length + 4 ≤ 80 then CK (nI (tx.length + 4)) g un kp (tx ++ bys v) ts rw he sa M ML R else CK (-1) g un kp tx ts rw he sa M ML R) := by
  obtain ⟨x1, x2, x3, x4⟩ := h.2.2.2.1
  have t := t_sign (M, ML, R) ⟨tx.length, x1, x3⟩ v
  have hc := n4_80 x1
  rw [sc_apA, sc_apM] at t
  by_cases z : tx.length + 4 ≤ 80
  · have z' : (M, ML, R).1 38 1 + 4 ≤ 80 := by dsimp only; rw [x3]; exact hc.mpr z
    rw [if_pos z', if_pos z'] at t
    dsimp only at t
    rw [if_pos z]
    have e4 : M 38 1 + 4 = nI (tx.length + 4) := by rw [x3]; exact nI_add _ 4
    rw [e4, x3, nI_clamp (by omega)] at t
    have F : fr (fun a i => (a = 38 ∧ i = 1) ∨ a = 39) M (fm_u (fm_row M 39 (sc_app (M 39) tx.length v 4)) 38 1 (nI (tx.length + 4))) := fr_u2 (fr_row (fun i => Or.inr rfl)) (Or.inl ⟨rfl, rfl⟩)
    refine wI_of t hd ⟨rfl, h.x F ⟨by rw [List.length_append, bys_len]; omega, fun c hc => ?_, by rw [fm_u_at, List.length_append, bys_len], fun k hk => ?_⟩, F.mono (fun a i z => by omega), fr.rfl, rfl⟩
    · rcases List.mem_append.mp hc with y | y
      · exact x2 c y
      · simp only [bys, List.mem_cons, List.not_mem_nil, or_false] at y
        rcases y with rfl | rfl | rfl | rfl <;> exact bv_lt _ _
    · rw [List.length_append, bys_len] at hk
      rw [fm_u_off (by decide), fm_row_row, sc_app_get _ _ _ 4 (by omega), tx_get hk]
      by_cases y : tx.length ≤ k
      · rw [if_pos ⟨y, by omega⟩, if_pos y]
      · rw [if_neg (fun w => y w.1), if_neg y]
        exact x4 k (by omega)
  · have z' : ¬ (M, ML, R).1 38 1 + 4 ≤ 80 := by dsimp only; rw [x3]; exact fun y => z (hc.mp y)
    rw [if_neg z', if_neg z'] at t
    rw [if_neg z]
    exact wI_of t hd h.qk
theorem R_sign (hd : 1 ≤ d) (hx : tx.length ≤ 80) (h : IR g un kp tx ts rw he sa M ML R) (v : Int32) : wI d 151 [.ref 219, .int v] M ML R (if tx.length + 4 ≤ 80 then RK (nI (tx.length + 4)) g un kp (tx ++ bys v) ts rw he sa M ML R else RK (-1) g un kp tx ts rw he sa M ML R) := by
  obtain ⟨x3, x4⟩ := h.2.2.1
  have t := t_msign M ML R tx.length hx x3 v
  have hc := n4_80 hx
  rw [md_sgA, md_sgM] at t
  by_cases z : tx.length + 4 ≤ 80
  · have z' : M 219 2 + 4 ≤ 80 := by rw [x3]; exact hc.mpr z
    rw [if_pos z', if_pos z'] at t
    rw [if_pos z]
    have F : fr (fun a i => (a = 219 ∧ (i = 2 ∨ i = 5)) ∨ a = 221) M (fm_row (fm_u (fm_u M 219 5 0) 219 2 (nI (tx.length + 4))) 221 (md_app (M 221) tx.length v 4)) := (fr_u2 (fr_u (by omega)) (by omega)).tr (fr_row (fun i => by omega))
    refine wI_of t hd ⟨rfl, h.x F ⟨by rw [fm_row_off (by decide), fm_u_at, List.length_append, bys_len], fun k hk => ?_⟩, F.mono (fun a i z => by omega), fr.rfl, fr.rfl⟩
    rw [List.length_append, bys_len] at hk
    rw [fm_row_row, md_app_get _ _ _ 4 (by omega), tx_get hk]
    by_cases y : tx.length ≤ k
    · rw [if_pos ⟨y, by omega⟩, if_pos y]
    · rw [if_neg (fun w => y w.1), if_neg y]
      exact x4 k (by omega)
  · have z' : ¬ M 219 2 + 4 ≤ 80 := by rw [x3]; exact fun y => z (hc.mp y)
    rw [if_neg z', if_neg z'] at t
    rw [if_neg z]
    exact wI_of t hd ⟨rfl, h.t0, t0_fr, fr.rfl, fr.rfl⟩
theorem tk_get {n j : Nat} (hj : j < n) : (tx.take n).getD j 0 = tx.getD j 0 := by
  rw [List.getD_eq_getElem?_getD, List.getD_eq_getElem?_getD, List.getElem?_take, if_pos hj]
theorem C_end (hd : 2 ≤ d) (h : IC g un kp tx ts rw he sa M ML R) (v : Int32) : (∀ n, n ≤ tx.length → v = nI n → wI d 75 [.ref 0, .int v] M ML R (CK 1 g un kp (tx.take n) ts rw he sa M ML R)) ∧ (v < 0 ∨ nI tx.length < v → wI d 75 [.ref 0, .int v] M ML R (CK 0 g un kp tx ts rw he sa M ML R)) := by
  obtain ⟨x1, x2, x3, x4⟩ := h.2.2.2.1
  have t := t_end (M, ML, R) v
  rw [sc_cutA, sc_cutM] at t
  constructor
  · rintro n hn rfl
    have n0 := nI_nneg (n := n) (by omega)
    have n1 : nI n ≤ (M, ML, R).1 38 1 := by dsimp only; rw [x3]; exact (nI_leI (by omega) (by omega)).mpr hn
    rw [if_neg n0, if_pos n1, if_neg n0, if_pos n1] at t
    have F : fr (fun a i => (a = 38 ∧ i = 1) ∨ a = 39) M (fm_u M 38 1 (nI n)) := fr_u (Or.inl ⟨rfl, rfl⟩)
    have hl : (tx.take n).length = n := by rw [List.length_take]; omega
    refine wI_of t hd ⟨rfl, h.x F ⟨by omega, fun c hc => x2 c (List.mem_of_mem_take hc), by rw [hl]; exact fm_u_at, fun k hk => ?_⟩, F.mono (fun a i z => by omega), fr.rfl, rfl⟩
    rw [hl] at hk
    rw [tk_get hk, fm_u_off (by decide)]
    exact x4 k (by omega)
  · intro z
    by_cases n0 : v < 0
    · rw [if_pos n0, if_pos n0] at t
      exact wI_of t hd h.qk
    · have n1 : ¬ v ≤ (M, ML, R).1 38 1 := by dsimp only; rw [x3]; exact Int32.not_le.mpr (z.resolve_left n0)
      rw [if_neg n0, if_neg n1, if_neg n0, if_neg n1] at t
      exact wI_of t hd h.qk
theorem R_end (hd : 2 ≤ d) (hx : tx.length ≤ 80) (h : IR g un kp tx ts rw he sa M ML R) (v : Int32) : (∀ n, n ≤ tx.length → v = nI n → wI d 152 [.ref 219, .int v] M ML R (RK 1 g un kp (tx.take n) ts rw he sa M ML R)) ∧ (v < 0 ∨ nI tx.length < v → wI d 152 [.ref 219, .int v] M ML R (RK 0 g un kp tx ts rw he sa M ML R)) := by
  obtain ⟨x3, x4⟩ := h.2.2.1
  have t := t_mend M ML R v
  rw [md_endA, md_endM, x3] at t
  constructor
  · rintro n hn rfl
    have e1 : md_in (nI n) 0 (nI tx.length) = 1 := in_y (lo := 0) (by omega) (by omega) hn
    rw [e1, if_pos (by decide), if_pos (by decide)] at t
    have F : fr (fun a i => (a = 219 ∧ (i = 2 ∨ i = 5)) ∨ a = 221) M (fm_u (fm_u M 219 5 0) 219 2 (nI n)) := fr_u2 (fr_u (by omega)) (by omega)
    have hl : (tx.take n).length = n := by rw [List.length_take]; omega
    refine wI_of t hd ⟨rfl, h.x F ⟨by rw [hl]; exact fm_u_at, fun k hk => ?_⟩, F.mono (fun a i z => by omega), fr.rfl, fr.rfl⟩
    rw [hl] at hk
    rw [tk_get hk, fm_u_off (by decide), fm_u_off (by decide)]
    exact x4 k (by omega)
  · intro z
    have e1 : md_in v 0 (nI tx.length) = 0 := in_n z
    rw [e1, if_neg (fun y => y rfl), if_neg (fun y => y rfl)] at t
    exact wI_of t hd ⟨rfl, h.t0, t0_fr, fr.rfl, fr.rfl⟩
end txt
