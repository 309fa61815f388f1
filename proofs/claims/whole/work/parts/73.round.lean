section come3
variable {d B : Nat} {g gk : gr} {ts tx : List Nat} {rw : List Int64} {un : List gr} {kp : Nat → Option gr} {he sa : List (Nat × Nat)} {M0 M : Nat → Nat → Int32} {L0 ML : Nat → Nat → Int64} {R0 R : Nat → Nat → Option Nat}
/-! round -/
def q_sm (g gk : gr) : Nat → Nat → Bool
  | 0, _ => true
  | n + 1, k => if 0 < g k then (if lgI gk k = lgI g k then q_sm g gk n (k + 1) else false) else q_sm g gk n (k + 1)
theorem c_hl (hc : cr M 1 g) (hk : cr M 23 gk) (hg : gok gk B) (e : ∀ q, q < 8 → gk q = g q) : ∀ n k, k + n = 8 → wd_hl M 23 1 n k = if q_sm g gk n k = true then 1 else 0 := by
  intro n
  induction n with
  | zero => intro k _; rfl
  | succ n ih =>
    intro k hk8
    have ek := e k (by omega)
    rw [wd_hl, q_sm, c_there hk hg (by omega), ek, ih (k + 1) (by omega)]
    by_cases h : 0 < g k
    · rw [if_pos h, if_neg (by decide), if_pos h, c_lag hk (by omega) (by rw [ek]; exact h), c_lag hc (by omega) h]
      by_cases h2 : lgI gk k = lgI g k
      · rw [if_pos h2, if_pos h2]
      · rw [if_neg h2, if_neg h2, if_neg (by decide)]
    · rw [if_neg h, if_pos rfl, if_neg h]
def q_ro (g : gr) (ts : List Nat) (rw : List Int64) : Nat → Nat → gr → Int32 → Int32 × List Int64
  | 0, _, _, _ => (-2, rw)
  | n + 1, k, gk, x => if q_sm g (g_go gk ts (-1)) 8 0 = true then (nI k, [(x + nI (bc (g_rn gk ts (-1)))).toInt64]) else q_ro g ts rw n (k + 1) (g_go gk ts (-1)) (x + nI (bc (g_rn gk ts (-1))))
theorem C_round1 (hd : 5 ≤ d) (hts : tsok ts) : ∀ n k, k + n = 100 → ∀ {B : Nat} {gk : gr} {M : Nat → Nat → Int32} {x : Int32}, B + n < 2 ^ 21 → gok gk B → (∀ q, q < 8 → gk q = g q) → BC g ts rw M0 L0 M ML → cr M 23 gk → H99_28 d x (nI k) M ML R (CQ (q_ro g ts rw n k gk x).1 (q_ro g ts rw n k gk x).2 M0 L0 R) := by
  intro n
  induction n with
  | zero =>
    intro k hk B gk M x hB hg hq h hc
    exact h99_28 ⟨fun _ => h.q, fun z => absurd ((nI_ltI (a := 99) (by decide) (by omega)).mpr (by omega)) z⟩
  | succ n ih =>
    intro k hk B gk M x hB hg hq h hc
    refine h99_28 ⟨fun z => absurd ((nI_ltI (a := 99) (by decide) (by omega)).mp z) (by omega), fun _ => ?_⟩
    refine B_go hd h hc hg (by omega) hts (-1) (fun M1 h1 c1 h13 h14 h15 f => ?_)
    rw [h13]
    refine R_bc (by omega) (g_rn_lt _ _ _) ?_
    have hg1 := gok_go hg ts (-1)
    have hq1 : ∀ q, q < 8 → g_go gk ts (-1) q = g q := fun q h8 => by rw [g_go_lo (by omega)]; exact hq q h8
    refine wI_of (t_hasLagsOf fm_W23 fm_W1 (M1, ML, R)) (by omega) ?_
    dsimp only
    rw [c_hl h1.1 c1 hg1 hq1 8 0 (by omega), q_ro]
    by_cases z : q_sm g (g_go gk ts (-1)) 8 0 = true
    · rw [if_pos z, if_pos z]
      refine ⟨fun y => absurd y (by decide), fun _ => ?_⟩
      refine B_clear (by omega) h1 (fun M2 h2 f2 => ?_)
      refine B_add (by omega) h2 (by decide) _ (fun M3 L3 h3 f3 _ => ?_)
      exact h3.q
    · rw [if_neg z, if_neg z, nI_1]
      exact ⟨fun _ => ih (k + 1) (by omega) (B := B + 1) (by omega) hg1 hq1 h1 c1, fun y => absurd rfl y⟩
theorem C_round (hd : 5 ≤ d) (h : IC g un kp tx ts rw he sa M ML R) (hs : SO g un kp ts B) (hB : B < 2 ^ 20) : wI (d + 1) 99 [.ref 0] M ML R (if g_ts g = 0 then CQ (-3) rw M ML R else CQ (q_ro g ts rw 99 1 g 0).1 (q_ro g ts rw 99 1 g 0).2 M ML R) := by
  refine w99 (C_tset fm_W1 (by omega) h.2.1 hs.1 ?_)
  have hl := g_ts_lt g
  by_cases z : g_ts g = 0
  · rw [if_pos z, z]
    exact ⟨fun y => absurd nI_0 y, fun _ => h.b.q⟩
  · rw [if_neg z]
    refine ⟨fun _ => ?_, fun y => absurd y (nI_ne0 (by omega) (by omega))⟩
    refine B_later (by omega) h.b (fun M1 h1 c1 _ => ?_)
    exact C_round1 hd hs.2.2.2 99 1 (by omega) (B := B) (by omega) hs.1 (fun _ _ => rfl) h1 c1
theorem R_round2 {K : wK} (hd : 7 ≤ d) (hg0 : gok g B) {gk : gr} {x1 x2 : Int32} (b : Bool) (hK : ∀ x3 : Int32, x3 = (if b = true then 1 else 0) → (¬ x3 = 0 → (∀ M1, M1 = fm_u M 219 4 (0 : Int32) → wV d 135 [.ref 219, .long x1.toInt64] M1 ML R (fun M2 L2 R2 => K x2 M2 L2 R2))) ∧ (x3 = 0 → H196_34 d x1 (x2 + 1) M ML R K)) (hr : rr (M 220) g) (hk : rr (M 227) gk) : ∀ n k, k + n = 8 → ∀ f : Bool, (f && q_sm g gk n k) = b → H196_60 d x1 x2 (if f = true then 1 else 0) (nI k) M ML R K := by
  intro n
  induction n with
  | zero =>
    intro k hk8 f e
    have e : (f && true) = b := e
    rw [Bool.and_true] at e
    subst e
    refine h196_60 ⟨fun _ => hK _ rfl, fun z => absurd ((nI_leI (a := 8) (by decide) (by omega)).mpr (by omega)) z⟩
  | succ n ih =>
    intro k hk8 f e
    refine h196_60 ⟨fun z => absurd ((nI_leI (a := 8) (by decide) (by omega)).mp z) (by omega), fun _ => ?_⟩
    rw [nI_1]
    cases f with
    | false => exact ⟨fun _ => ih (k + 1) (by omega) false e, fun y => absurd rfl y⟩
    | true =>
      refine ⟨fun y => absurd y (by decide), fun _ => ?_⟩
      rw [Bool.true_and, q_sm] at e
      refine R_th fm_N220 (by omega) hr hg0 (by omega) ?_
      by_cases h : 0 < g k
      · rw [if_pos h] at e ⊢
        refine ⟨fun y => absurd y (by decide), fun _ => ?_⟩
        refine R_lag fm_N227 (by omega) hk (by omega) ?_
        refine R_lag fm_N220 (by omega) hr (by omega) ?_
        by_cases h2 : lgI gk k = lgI g k
        · rw [if_pos h2] at e
          exact ⟨fun y => absurd h2 y, fun _ => ih (k + 1) (by omega) true (by rw [Bool.true_and]; exact e)⟩
        · rw [if_neg h2] at e
          exact ⟨fun _ => ih (k + 1) (by omega) false (by rw [Bool.false_and]; exact e), fun y => absurd y h2⟩
      · rw [if_neg h] at e ⊢
        exact ⟨fun _ => ih (k + 1) (by omega) true (by rw [Bool.true_and]; exact e), fun y => absurd rfl y⟩
theorem R_round1 (hd : 7 ≤ d) (hts : tsok ts) {B0 : Nat} (hg0 : gok g B0) : ∀ n k, k + n = 100 → ∀ {B : Nat} {gk : gr} {M : Nat → Nat → Int32} {x : Int32}, B + n < 2 ^ 21 → gok gk B → BR g ts rw M0 L0 R0 M ML R → rr (M 227) gk → H196_34 d x (nI k) M ML R (RQ (q_ro g ts rw n k gk x).1 (q_ro g ts rw n k gk x).2 M0 L0 R0) := by
  intro n
  induction n with
  | zero =>
    intro k hk B gk M x hB hg h hc
    exact h196_34 ⟨fun _ => h.q, fun z => absurd ((nI_ltI (a := 99) (by decide) (by omega)).mpr (by omega)) z⟩
  | succ n ih =>
    intro k hk B gk M x hB hg h hc
    refine h196_34 ⟨fun z => absurd ((nI_ltI (a := 99) (by decide) (by omega)).mp z) (by omega), fun _ => ?_⟩
    refine B_goSlot hd h hc hg (by omega) hts (-1) (fun M1 h1 c1 h22 h23 f => ?_)
    refine R_bc (by omega) (g_rn_lt _ _ _) ?_
    refine R_round2 hd hg0 (q_sm g (g_go gk ts (-1)) 8 0) (fun x3 e3 => ?_) h1.1 c1 8 0 (by omega) true (Bool.true_and _)
    rw [q_ro]
    by_cases z : q_sm g (g_go gk ts (-1)) 8 0 = true
    · rw [if_pos z] at e3 ⊢
      subst e3
      refine ⟨fun _ M2 e2 => ?_, fun y => absurd y (by decide)⟩
      subst e2
      refine B_tell (by omega) h1.z (by decide) _ (fun M3 L3 h3 f3 _ => ?_)
      exact h3.q
    · rw [if_neg z] at e3 ⊢
      subst e3
      rw [nI_1]
      exact ⟨fun y => absurd rfl y, fun _ => ih (k + 1) (by omega) (B := B + 1) (by omega) (gok_go hg ts (-1)) h1 c1⟩
theorem R_round (hd : 7 ≤ d) (h : IR g un kp tx ts rw he sa M ML R) (hs : SO g un kp ts B) (hB : B < 2 ^ 20) : wI (d + 1) 196 [.ref 219] M ML R (if g_ts g = 0 then RQ (-3) rw M ML R else RQ (q_ro g ts rw 99 1 g 0).1 (q_ro g ts rw 99 1 g 0).2 M ML R) := by
  have hb := h.b.u (a := 219) (i := 5) (x := 0) (by omega)
  refine w196 (fun M1 e1 => ?_)
  subst e1
  refine R_tset fm_N220 (by omega) hb.1 hs.1 ?_
  have hl := g_ts_lt g
  by_cases z : g_ts g = 0
  · rw [if_pos z, z]
    exact ⟨fun y => absurd nI_0 y, fun _ => hb.q⟩
  · rw [if_neg z]
    refine ⟨fun _ => ?_, fun y => absurd y (nI_ne0 (by omega) (by omega))⟩
    refine B_then (by omega) hb (fun M1 h1 c1 _ => ?_)
    exact R_round1 hd hs.2.2.2 hs.1 99 1 (by omega) (B := B) (by omega) hs.1 h1 c1
end come3
/-! pairs -/
def p_up (c : Nat → Int32) (w J : Nat) (j : Nat) : Int32 := if j < J ∧ j / 8 < j % 8 ∧ w.testBit (j / 8) = true ∧ w.testBit (j % 8) = true then c j + 1 else c j
theorem p_up_gap {c : Nat → Int32} {w a : Nat} (j : Nat) (ha : a < 8) : p_up c w (8 * a + (a + 1)) j = p_up c w (8 * a) j := by
  unfold p_up
  by_cases h : j < 8 * a
  · by_cases z : j / 8 < j % 8 ∧ w.testBit (j / 8) = true ∧ w.testBit (j % 8) = true
    · rw [if_pos ⟨by omega, z⟩, if_pos ⟨h, z⟩]
    · rw [if_neg (fun y => z y.2), if_neg (fun y => z y.2)]
  · rw [if_neg (show ¬ (j < 8 * a ∧ _) from fun y => h y.1), if_neg (fun y => by have := y.1; have := y.2.1; omega)]
theorem p_up_s {c : Nat → Int32} {w a b : Nat} (hb : b < 8) (hab : a < b) (j : Nat) : p_up c w (8 * a + (b + 1)) j = if j = 8 * a + b ∧ w.testBit a = true ∧ w.testBit b = true then p_up c w (8 * a + b) j + 1 else p_up c w (8 * a + b) j := by
  by_cases e : j = 8 * a + b
  · subst e
    have e1 : (8 * a + b) / 8 = a := by omega
    have e2 : (8 * a + b) % 8 = b := by omega
    unfold p_up
    rw [e1, e2, if_neg (show ¬ (8 * a + b < 8 * a + b ∧ _) from fun y => absurd y.1 (by omega))]
    by_cases z : w.testBit a = true ∧ w.testBit b = true
    · rw [if_pos ⟨by omega, hab, z⟩, if_pos ⟨rfl, z⟩]
    · rw [if_neg (fun y => z y.2.2), if_neg (fun y => z y.2)]
  · rw [if_neg (fun y => e y.1)]
    unfold p_up
    by_cases z : j < 8 * a + b ∧ j / 8 < j % 8 ∧ w.testBit (j / 8) = true ∧ w.testBit (j % 8) = true
    · rw [if_pos z, if_pos ⟨by omega, z.2⟩]
    · rw [if_neg z, if_neg (fun y => z ⟨by omega, y.2⟩)]
/-- how often each two were run together -/
def q_pc (ts : List Nat) : Nat → gr → (Nat → Int32) → Nat → Int32
  | 0, _, c => c
  | n + 1, gk, c => q_pc ts n (g_go gk ts (-1)) (p_up c (g_rn gk ts (-1)) 64)
/-- the two that were run together most -/
def q_pb (g : gr) (c : Nat → Int32) : Nat → Nat → Option Nat → Option Nat
  | 0, _, x => x
  | n + 1, j, x => q_pb g c n (j + 1) (if j / 8 < j % 8 ∧ 0 < g (j / 8) ∧ 0 < g (j % 8) then (match x with
    | none => some j
    | some i => if c j ≤ c i then some i else some j) else x)
def q_p1 (g : gr) (c : Nat → Int32) (j : Nat) (x : Option Nat) : Option Nat := if j / 8 < j % 8 ∧ 0 < g (j / 8) ∧ 0 < g (j % 8) then (match x with
    | none => some j
    | some i => if c j ≤ c i then some i else some j) else x
theorem q_pb_s (g : gr) (c : Nat → Int32) (n j : Nat) (x : Option Nat) : q_pb g c (n + 1) j x = q_pb g c n (j + 1) (q_p1 g c j x) := rfl
theorem nI_nm1 {i : Nat} (h : i < 2 ^ 31) : ¬ nI i = -1 := fun e => by
  have := congrArg Int32.toInt e
  rw [nI_toInt h, show (-1 : Int32).toInt = -1 from rfl] at this
  omega
theorem q_pb_gap {g : gr} {c : Nat → Int32} {a : Nat} (ha : a < 8) (x : Option Nat) : ∀ m, m ≤ a + 1 → q_pb g c (64 - 8 * a) (8 * a) x = q_pb g c (64 - (8 * a + m)) (8 * a + m) x := by
  intro m
  induction m with
  | zero => intro _; rfl
  | succ m ih =>
    intro hm
    rw [ih (by omega), show 64 - (8 * a + m) = (64 - (8 * a + (m + 1))) + 1 by omega, q_pb_s]
    unfold q_p1
    rw [if_neg (by omega)]
    rfl
def po (x : Option Nat) : Int32 := match x with
  | none => -1
  | some j => nI j
section pairs
variable {d B : Nat} {g gk : gr} {ts tx : List Nat} {rw : List Int64} {un : List gr} {kp : Nat → Option gr} {he sa : List (Nat × Nat)} {M0 M : Nat → Nat → Int32} {L0 ML : Nat → Nat → Int64} {R0 R : Nat → Nat → Option Nat} {c : Nat → Int32}
theorem n8 (a b : Nat) : nI a * 8 + nI b = nI (8 * a + b) := by
  rw [show nI a * 8 = nI (a * 8) from nI_mul a 8, nI_add, Nat.mul_comm]
theorem n8' (a b : Nat) : 8 * nI a + nI b = nI (8 * a + b) := by
  rw [show 8 * nI a = nI (8 * a) from nI_mul 8 a, nI_add]
theorem C_pr51 {K : wKv} {N k w a : Nat} (hd : 5 ≤ d) (hw : w < 256) (ha : a < 8) (hK : ∀ M1, BC g ts rw M0 L0 M1 ML → cr M1 23 gk → M1 23 13 = nI w → (∀ j, j < 64 → M1 61 j = p_up c w (8 * (a + 1)) j) → H102_40 d (nI N) (nI k) (nI (a + 1)) M1 ML R K) : ∀ m b, b + m = 8 → a < b → ∀ {M : Nat → Nat → Int32}, BC g ts rw M0 L0 M ML → cr M 23 gk → M 23 13 = nI w → (∀ j, j < 64 → M 61 j = p_up c w (8 * a + b) j) → H102_51 d (nI N) (nI k) (nI a) (nI b) M ML R K := by
  intro m
  induction m with
  | zero =>
    intro b hb hab M h hc h13 hj
    have : b = 8 := by omega
    subst this
    refine h102_51 ⟨fun _ => by rw [nI_1]; exact hK M h hc h13 hj, fun z => absurd (by decide) z⟩
  | succ m ih =>
    intro b hb hab M h hc h13 hj
    refine h102_51 ⟨fun z => absurd ((nI_leI (a := 8) (by decide) (by omega)).mp z) (by omega), fun _ => ?_⟩
    have skip : ¬ (w.testBit a = true ∧ w.testBit b = true) → H102_51 d (nI N) (nI k) (nI a) (nI b + 1) M ML R K := fun z => by
      rw [nI_1]
      exact ih (b + 1) (by omega) (by omega) h hc h13 (fun j h6 => by rw [p_up_s (by omega) hab, if_neg (fun y => z y.2)]; exact hj j h6)
    refine C_run fm_W23 (by omega) hw h13 ha ?_
    by_cases z1 : w.testBit a = true
    · rw [if_pos z1]
      refine ⟨fun y => absurd y (by decide), fun _ => ?_⟩
      refine C_run fm_W23 (by omega) hw h13 (by omega) ?_
      by_cases z2 : w.testBit b = true
      · rw [if_pos z2]
        refine ⟨fun y => absurd y (by decide), fun _ => ⟨8 * a + b, n8 a b, by omega, 8 * a + b, n8 a b, by omega, fun M4 e4 => ?_⟩⟩
        subst e4
        rw [nI_1]
        have f : fr (fun x y => x = 61 ∧ y = 8 * a + b) M (fm_u M 61 (8 * a + b) (M 61 (8 * a + b) + 1)) := fr_u ⟨rfl, rfl⟩
        refine ih (b + 1) (by omega) (by omega) (h.f (f.mono (fun x y z => by omega))) (cr_fr hc (fun x y _ _ _ => f x y (by omega))) (by rw [f _ _ (by omega)]; exact h13) (fun j h6 => ?_)
        rw [p_up_s (by omega) hab]
        by_cases e : j = 8 * a + b
        · subst e
          rw [if_pos ⟨rfl, z1, z2⟩, fm_u_at, hj _ h6]
        · rw [if_neg (fun y => e y.1), fm_u_ix e, hj j h6]
      · rw [if_neg z2]
        exact ⟨fun _ => skip (fun y => z2 y.2), fun y => absurd rfl y⟩
    · rw [if_neg z1]
      exact ⟨fun _ => skip (fun y => z1 y.1), fun y => absurd rfl y⟩
theorem C_pr40 {K : wKv} {N k w : Nat} (hd : 5 ≤ d) (hw : w < 256) (hK : ∀ M1, BC g ts rw M0 L0 M1 ML → cr M1 23 gk → (∀ j, j < 64 → M1 61 j = p_up c w 64 j) → H102_21 d (nI N) (nI (k + 1)) M1 ML R K) : ∀ m a, a + m = 8 → ∀ {M : Nat → Nat → Int32}, BC g ts rw M0 L0 M ML → cr M 23 gk → M 23 13 = nI w → (∀ j, j < 64 → M 61 j = p_up c w (8 * a) j) → H102_40 d (nI N) (nI k) (nI a) M ML R K := by
  intro m
  induction m with
  | zero =>
    intro a ha M h hc h13 hj
    have : a = 8 := by omega
    subst this
    exact h102_40 ⟨fun _ => by rw [nI_1]; exact hK M h hc hj, fun z => absurd (by decide) z⟩
  | succ m ih =>
    intro a ha M h hc h13 hj
    refine h102_40 ⟨fun z => absurd ((nI_leI (a := 8) (by decide) (by omega)).mp z) (by omega), fun _ => ?_⟩
    rw [nI_1]
    exact C_pr51 hd hw (by omega) (fun M1 h1 c1 k13 j1 => ih (a + 1) (by omega) h1 c1 k13 j1) (7 - a) (a + 1) (by omega) (by omega) h hc h13 (fun j h6 => by rw [p_up_gap j (by omega)]; exact hj j h6)
theorem C_pr21 {K : wKv} {N : Nat} (hd : 5 ≤ d) (hts : tsok ts) (hN : N ≤ 60) (F : Nat → Int32) (hK : ∀ M1, BC g ts rw M0 L0 M1 ML → (∀ j, j < 64 → M1 61 j = F j) → K M1 ML R) : ∀ n k, k + n = N → ∀ {B : Nat} {gk : gr} {c : Nat → Int32} {M : Nat → Nat → Int32}, B + n < 2 ^ 21 → gok gk B → BC g ts rw M0 L0 M ML → cr M 23 gk → (∀ j, j < 64 → M 61 j = c j) → (∀ j, j < 64 → q_pc ts n gk c j = F j) → H102_21 d (nI N) (nI k) M ML R K := by
  intro n
  induction n with
  | zero =>
    intro k hk B gk c M hB hg h hc hj hF
    exact h102_21 ⟨fun _ => hK M h (fun j h6 => by rw [hj j h6]; exact hF j h6), fun z => absurd ((nI_leI (by omega) (by omega)).mpr (by omega)) z⟩
  | succ n ih =>
    intro k hk B gk c M hB hg h hc hj hF
    refine h102_21 ⟨fun z => absurd ((nI_leI (by omega) (by omega)).mp z) (by omega), fun _ => ?_⟩
    refine B_go hd h hc hg (by omega) hts (-1) (fun M1 h1 c1 h13 h14 h15 f => ?_)
    refine C_pr40 (c := c) hd (g_rn_lt _ _ _) (fun M2 h2 c2 j2 => ?_) 8 0 (by omega) h1 c1 h13 (fun j h6 => ?_)
    · exact ih (k + 1) (by omega) (B := B + 1) (by omega) (gok_go hg ts (-1)) h2 c2 j2 hF
    · rw [f 61 j (by omega), hj j h6, p_up, if_neg (by omega)]
theorem C_cp {K : wKv} {N : Nat} (hd : 5 ≤ d) (hts : tsok ts) (hg : gok g B) (hB : B < 2 ^ 20) (hN : N ≤ 60) (h : BC g ts rw M0 L0 M ML) (hK : ∀ M1, BC g ts rw M0 L0 M1 ML → (∀ j, j < 64 → M1 61 j = q_pc ts N g (fun _ => 0) j) → K M1 ML R) : wV (d + 1) 102 [.ref 0, .int (nI N)] M ML R K := by
  refine w102 (wV_of (t_fill fm_s61 (by decide) (M, ML, R) 0) (by omega) ?_)
  dsimp only
  have f : fr (fun x _ => x = 61) M (fm_row M 61 (jd_fi (M 61) 64 0)) := fr_row (fun _ => rfl)
  refine B_later (by omega) (h.f (f.mono (fun x y z => by omega))) (fun M1 h1 c1 f1 => ?_)
  refine C_pr21 hd hts hN _ hK N 0 (by omega) (B := B) (by omega) hg h1 c1 (c := fun _ => 0) (fun j h6 => ?_) (fun _ _ => rfl)
  rw [f1 61 j (by omega), fm_row_row, jd_fi, if_pos h6]
def q_prW (x : Option Nat) : List Int64 := [(po x / 8).toInt64, (po x - po x / 8 * 8).toInt64]
theorem C_pr50 {K : wK} {N a : Nat} (hd : 5 ≤ d) (hg : gok g B) (ha : a < 8) (h : BC g ts rw M0 L0 M ML) (hj : ∀ j, j < 64 → M 61 j = c j) (F : Option Nat) (hK : ∀ x, (∀ j, x = some j → j < 64) → q_pb g c (64 - 8 * (a + 1)) (8 * (a + 1)) x = F → H101_39 d (nI N) (po x) (nI (a + 1)) M ML R K) : ∀ m b, b + m = 8 → a < b → ∀ x, (∀ j, x = some j → j < 64) → q_pb g c (64 - (8 * a + b)) (8 * a + b) x = F → H101_50 d (nI N) (po x) (nI a) (nI b) M ML R K := by
  intro m
  induction m with
  | zero =>
    intro b hb hab x hx e
    have : b = 8 := by omega
    subst this
    exact h101_50 ⟨fun _ => by rw [nI_1]; exact hK x hx e, fun z => absurd (by decide) z⟩
  | succ m ih =>
    intro b hb hab x hx e
    refine h101_50 ⟨fun z => absurd ((nI_leI (a := 8) (by decide) (by omega)).mp z) (by omega), fun _ => ?_⟩
    rw [show 64 - (8 * a + b) = (64 - (8 * a + (b + 1))) + 1 by omega, q_pb_s] at e
    unfold q_p1 at e
    rw [show (8 * a + b) / 8 = a by omega, show (8 * a + b) % 8 = b by omega] at e
    have ih := ih (b + 1) (by omega) (by omega)
    refine C_th fm_W1 (by omega) h.1 hg _ (fun q1 _ e1 z1 => ?_) (fun z1 => ?_)
    · have := nI_inj8 ha (by omega) e1
      subst this
      refine ⟨fun y => absurd y (by decide), fun _ => ?_⟩
      refine C_th fm_W1 (by omega) h.1 hg _ (fun q2 _ e2 z2 => ?_) (fun z2 => ?_)
      · have := nI_inj8 (by omega) (by omega) e2
        subst this
        rw [if_pos ⟨hab, z1, z2⟩] at e
        refine ⟨fun y => absurd y (by decide), fun _ => ⟨fun y => absurd y (by decide), fun _ => ?_⟩⟩
        rw [n8, nI_1]
        cases x with
        | none => exact ⟨fun _ => ih (some (8 * a + b)) (fun j y => by cases y; omega) e, fun y => absurd rfl y⟩
        | some i =>
          have hi := hx i rfl
          refine ⟨fun y => absurd (show nI i = -1 from y) (nI_nm1 (by omega)), fun _ => ⟨8 * a + b, rfl, by omega, i, rfl, hi, ?_⟩⟩
          rw [hj _ (by omega), hj i hi]
          dsimp only at e
          by_cases z : c (8 * a + b) ≤ c i
          · rw [if_pos z] at e
            exact ⟨fun _ => ih (some i) hx e, fun y => absurd z y⟩
          · rw [if_neg z] at e
            exact ⟨fun y => absurd y z, fun _ => ih (some (8 * a + b)) (fun j y => by cases y; omega) e⟩
      · rw [if_neg (fun y => z2 ((th_nI (by omega)).mpr y.2.2))] at e
        rw [nI_1]
        exact ⟨fun _ => ⟨fun _ => ih x hx e, fun y => absurd rfl y⟩, fun y => absurd rfl y⟩
    · rw [if_neg (fun y => z1 ((th_nI ha).mpr y.2.1))] at e
      rw [nI_1]
      exact ⟨fun _ => ⟨fun _ => ih x hx e, fun y => absurd rfl y⟩, fun y => absurd rfl y⟩
end pairs
