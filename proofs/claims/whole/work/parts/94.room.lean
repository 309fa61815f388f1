def g_lf (g : gr) : Nat → Nat → Option Nat
  | 0, _ => none
  | n + 1, k => if 0 < g k then g_lf g n (k + 1) else some k
/-- the greatest WEIGHT so far -/
def rm1 (Lf e p : Nat) (x : Option (Nat × Nat)) : Option (Nat × Nat) := if Lf < e * (27720 / p) then x else (match x with
  | none => some (e, p)
  | some y => if e * (27720 / p) ≤ y.1 * (27720 / y.2) then x else some (e, p))
def rm_e (Lf p : Nat) : Nat → Nat → Option (Nat × Nat) → Option (Nat × Nat)
  | 0, _, x => x
  | n + 1, e, x => rm_e Lf p n (e + 1) (rm1 Lf e p x)
def rm_p (Lf : Nat) : Nat → Nat → Option (Nat × Nat) → Option (Nat × Nat)
  | 0, _, x => x
  | n + 1, p, x => rm_p Lf n (p + 1) (rm_e Lf p p 1 x)
def rmw (x : Option (Nat × Nat)) : Nat := match x with
  | none => 0
  | some y => y.1 * (27720 / y.2)
def rmok (x : Option (Nat × Nat)) : Prop := ∀ y, x = some y → 1 ≤ y.1 ∧ y.1 ≤ 12 ∧ 1 ≤ y.2 ∧ y.2 ≤ 12
def q_rmA (g : gr) (x : Option (Nat × Nat)) : Int32 := if g_ts g = 255 then -2 else (match x with
  | none => -2
  | some _ => 0)
def q_rmW (g : gr) (rw : List Int64) (x : Option (Nat × Nat)) : List Int64 := if g_ts g = 255 then rw else (match x with
  | none => rw
  | some y => [nL y.1, nL y.2])
theorem d27 : ∀ p, p < 13 → 1 ≤ p → 27720 / p * p = 27720 ∧ 1 ≤ 27720 / p ∧ 27720 / p ≤ 27720 := by decide +kernel
theorem rm1_ok {Lf e p : Nat} {x : Option (Nat × Nat)} (h : rmok x) (he : 1 ≤ e) (he2 : e ≤ 12) (hp : 1 ≤ p) (hp2 : p ≤ 12) : rmok (rm1 Lf e p x) := by
  intro y e1
  unfold rm1 at e1
  split at e1
  · exact h y e1
  · split at e1
    · cases e1; exact ⟨he, he2, hp, hp2⟩
    · split at e1
      · exact h y e1
      · cases e1; exact ⟨he, he2, hp, hp2⟩
section room
variable {d B b r : Nat} {g gk g' u : gr} {ts tx tx' t' : List Nat} {rw rw' : List Int64} {un un' : List gr} {kp kp' : Nat → Option gr} {he sa : List (Nat × Nat)} {M0 M M1 : Nat → Nat → Int32} {L0 ML L1 : Nat → Nat → Int64} {R0 R R1 : Nat → Nat → Option Nat}
theorem c_lf (hc : cr M b g) (hg : gok g B) : ∀ n k, k + n ≤ 8 → wd_lf M b n k = po (g_lf g n k) := by
  intro n
  induction n with
  | zero => intro k _; rfl
  | succ n ih =>
    intro k hk
    have h1 := hg.lo (q := k) (by omega)
    have h2 := hg.lo0 (q := k) (by omega)
    rw [wd_lf, g_lf, (hc.2.2.2 k (by omega)).1, ih (k + 1) (by omega)]
    by_cases h : 0 < g k
    · rw [if_pos h, if_pos (nI_pos1 (h2.mpr h) (by omega))]
    · rw [if_neg h, show g (8 + k) = 0 by omega, if_neg (by decide)]
      rfl
theorem g_lf_some : ∀ n k q, g_lf g n k = some q → k ≤ q ∧ q < k + n ∧ ¬ 0 < g q := by
  intro n
  induction n with
  | zero => intro k q e; cases e
  | succ n ih =>
    intro k q e
    rw [g_lf] at e
    split at e
    · have := ih (k + 1) q e; exact ⟨by omega, by omega, this.2.2⟩
    next h => cases e; exact ⟨by omega, by omega, h⟩
theorem g_lf_none : ∀ n k, g_lf g n k = none → ∀ q, k ≤ q → q < k + n → 0 < g q := by
  intro n
  induction n with
  | zero => intro k _ q h1 h2; omega
  | succ n ih =>
    intro k e q h1 h2
    rw [g_lf] at e
    split at e
    next h =>
      by_cases y : q = k
      · subst y; exact h
      · exact ih (k + 1) e q (by omega) (by omega)
    next => cases e
theorem bits255 : ∀ k, k < 8 → Nat.testBit 255 k = true := by decide
theorem ts_255 : g_ts g = 255 ↔ g_lf g 8 0 = none := by
  constructor
  · intro h
    cases e : g_lf g 8 0 with
    | none => rfl
    | some q =>
      obtain ⟨_, h2, h3⟩ := g_lf_some 8 0 q e
      have : (g_ts g).testBit q = true := by rw [h]; exact bits255 q (by omega)
      rw [g_ts, bm_8 _ (by omega)] at this
      exact absurd (by simpa using this) h3
  · intro h
    refine bt_ext (g_ts_lt g) (by decide) (fun k hk => ?_)
    rw [bits255 k hk, g_ts, bm_8 _ hk]
    simpa using g_lf_none 8 0 h k (by omega) (by omega)
/-! processors -/
theorem C_processors (hd : 3 ≤ d) (h : IC g un kp tx ts rw he sa M ML R) (hs : SO g un kp ts B) (a : Int32) : (∀ v, 1 ≤ v → v ≤ 4 → a = nI v → wI (d + 1) 84 [.ref 0, .int a] M ML R (if v = g 40 then CK (-2) g un kp tx ts rw he sa M ML R else if g_ws g 8 ≤ 27720 * v then CK (nI (10 + g 40)) (g_pr g v) (push un g) kp tx ts rw he sa M ML R else CK (-3) g un kp tx ts rw he sa M ML R)) ∧ (a < 1 ∨ 4 < a → wI (d + 1) 84 [.ref 0, .int a] M ML R (CK (-1) g un kp tx ts rw he sa M ML R)) := by
  obtain ⟨d, rfl⟩ : ∃ e, d = e + 1 := ⟨d - 1, by omega⟩
  have hP := hs.1.2.1
  constructor
  · rintro v v1 v2 rfl
    refine w84 (C_before (by omega) h (fun M1 h1 c1 f1 => ?_))
    have ve : ∀ w, w ≤ 4 → nI v = nI w → v = w := fun w hw y => (nI_eq (by omega) (by omega)).mp y
    refine C_takeP fm_W1 (by omega) h1.2.1 hs.1 _ (fun w w1 w2 e z y => ?_) (fun w w1 w2 e z => ?_) (fun w w1 w2 e z y => ?_) (fun z => ?_)
    · have := ve w w2 e
      subst this
      rw [if_neg z, if_pos y]
      have f2 : fr (fun a i => a = 1 ∧ i = 10) M1 (fm_u M1 1 10 (nI v)) := fr_u ⟨rfl, rfl⟩
      exact C_rifd (by omega) (nI_nneg (by omega)) h1 c1 (f2.mono (fun a i z => by omega)) (fun a i y => f2 a i (by omega)) (cr_pr h1.2.1) (f1.mono (fun a i z => by omega)) fr.rfl
    · have := ve w w2 e
      subst this
      rw [if_pos z]
      exact C_rifdN (by decide) h1 (f1.mono (fun a i z => by omega)) fr.rfl
    · have := ve w w2 e
      subst this
      rw [if_neg z, if_neg y]
      exact C_rifdN (by decide) h1 (f1.mono (fun a i z => by omega)) fr.rfl
    · exfalso
      rcases z with z | z
      · exact absurd ((nI_ltI (b := 1) (by omega) (by decide)).mp z) (by omega)
      · exact absurd ((nI_ltI (a := 4) (by decide) (by omega)).mp z) (by omega)
  · intro z
    refine w84 (C_before (by omega) h (fun M1 h1 c1 f1 => ?_))
    have no : ∀ v, 1 ≤ v → v ≤ 4 → a = nI v → False := fun v v1 v2 e => by
      subst e
      rcases z with z | z
      · exact absurd ((nI_ltI (b := 1) (by omega) (by decide)).mp z) (by omega)
      · exact absurd ((nI_ltI (a := 4) (by decide) (by omega)).mp z) (by omega)
    exact C_takeP fm_W1 (by omega) h1.2.1 hs.1 _ (fun w w1 w2 e _ _ => (no w w1 w2 e).elim) (fun w w1 w2 e _ => (no w w1 w2 e).elim) (fun w w1 w2 e _ _ => (no w w1 w2 e).elim) (fun _ => C_rifdN (by decide) h1 (f1.mono (fun a i z => by omega)) fr.rfl)
theorem rr_pr {v : Nat} {a : Nat → Int32} (ha : rr a g) : rr (upd a 40 (nI v)) (g_pr g v) := by
  intro k hk
  rw [g_pr]
  by_cases z : k = 40
  · subst z; rw [upd_same, if_pos rfl]
  · rw [upd_ne z, if_neg z]; exact ha k hk
theorem IR.l (h : IR g un kp tx ts rw he sa M ML R) (f : fr (fun a i => a = 219 ∧ 9 ≤ i ∧ i ≤ 10) ML L1) : IR g un kp tx ts rw he sa M L1 R := by
  obtain ⟨h1, h2, h3, h4, h5, h6, h7⟩ := h
  exact ⟨h1, h2, h3, h4, JW_fr h5 rfl (fun i => f _ i (by omega)), h6, h7⟩
theorem R_processors (hd : 102 ≤ d) (hul : un.length ≤ 12) (h : IR g un kp tx ts rw he sa M ML R) (hs : SO g un kp ts B) (a : Int32) : (∀ v, 1 ≤ v → v ≤ 4 → a = nI v → wI (d + 1) 177 [.ref 219, .int a] M ML R (if v = g 40 then RK (-2) g un kp tx ts rw he sa M ML R else if g_ws g 8 ≤ 27720 * v then RK (nI (10 + g 40)) (g_pr g v) (push un g) kp tx ts rw he sa M ML R else RK (-3) g un kp tx ts rw he sa M ML R)) ∧ (a < 1 ∨ 4 < a → wI (d + 1) 177 [.ref 219, .int a] M ML R (RK (-1) g un kp tx ts rw he sa M ML R)) := by
  have h1 := h.t0
  have hP := hs.1.2.1
  constructor
  · rintro v v1 v2 rfl
    refine w177 (fun M1 e1 => ?_)
    subst e1
    have ve : ∀ w, w ≤ 4 → nI v = nI w → v = w := fun w hw y => (nI_eq (by omega) (by omega)).mp y
    refine R_refP hd h1.1 hs.1 _ (fun w w1 w2 e z L2 f2 => ?_) (fun w w1 w2 e z => ?_) (fun z => ?_)
    · have := ve w w2 e
      subst this
      have h2 := h1.l f2
      rw [if_neg z]
      by_cases y : g_ws g 8 ≤ 27720 * v
      · rw [if_pos y, if_pos y]
        refine ⟨fun _ => ?_, fun y => absurd (by decide) y⟩
        refine R_rem fm_N220 (by decide) (by omega) hul h2.p h2.1 (fun M3 p3 f3 M4 e4 => ?_)
        subst e4
        have r3 : rr (M3 220) g := rr_fr h2.1 (fun i => f3 _ i (by omega))
        have f4 : fr (fun a i => a = 220 ∧ i = 40) M3 (fm_u M3 220 40 (nI v)) := fr_u ⟨rfl, rfl⟩
        have F : fr (fun a i => (a = 219 ∧ i = 19) ∨ a = 225 ∨ a = 220) (fm_u M 219 5 0) (fm_u M3 220 40 (nI v)) := (f3.mono (fun a i z => by omega)).tr (f4.mono (fun a i z => by omega))
        rw [r3 40 (by omega), show (10 : Int32) + nI (g 40) = nI (10 + g 40) from nI_add 10 _]
        exact ⟨rfl, h2.w (F.mono (fun a i z => by omega)) (by rw [fm_u_row]; exact rr_pr r3) (JP_fr p3 (fun a i y => f4 a i (by omega))) (JW_fr h2.2.2.2.2.1 (F _ _ (by omega)) (fun _ => rfl)), t0_fr.tr (F.mono (fun a i z => by omega)), f2.mono (fun a i z => by omega), fr.rfl⟩
      · rw [if_neg y, if_neg y]
        exact ⟨fun y => absurd y (by decide), fun _ => ⟨rfl, h2, t0_fr, f2.mono (fun a i z => by omega), fr.rfl⟩⟩
    · have := ve w w2 e
      subst this
      rw [if_pos z]
      exact ⟨fun y => absurd y (by decide), fun _ => ⟨rfl, h1, t0_fr, fr.rfl, fr.rfl⟩⟩
    · exfalso
      rcases z with z | z
      · exact absurd ((nI_ltI (b := 1) (by omega) (by decide)).mp z) (by omega)
      · exact absurd ((nI_ltI (a := 4) (by decide) (by omega)).mp z) (by omega)
  · intro z
    refine w177 (fun M1 e1 => ?_)
    subst e1
    have no : ∀ v, 1 ≤ v → v ≤ 4 → a = nI v → False := fun v v1 v2 e => by
      subst e
      rcases z with z | z
      · exact absurd ((nI_ltI (b := 1) (by omega) (by decide)).mp z) (by omega)
      · exact absurd ((nI_ltI (a := 4) (by decide) (by omega)).mp z) (by omega)
    exact R_refP hd h1.1 hs.1 _ (fun w w1 w2 e _ _ _ => (no w w1 w2 e).elim) (fun w w1 w2 e _ => (no w w1 w2 e).elim) (fun _ => ⟨fun y => absurd y (by decide), fun _ => ⟨rfl, h1, t0_fr, fr.rfl, fr.rfl⟩⟩)
/-! room -/
def rE (x : Option (Nat × Nat)) : Nat := match x with
  | none => 0
  | some y => y.1
def rP (z : Nat) (x : Option (Nat × Nat)) : Nat := match x with
  | none => z
  | some y => y.2
theorem wt_bd {e p : Nat} (he : e ≤ 12) (hp : 1 ≤ p) (hp2 : p ≤ 12) : e * (27720 / p) ≤ 12 * 27720 := Nat.mul_le_mul he (d27 p (by omega) hp).2.2
theorem rmw_bd {x : Option (Nat × Nat)} (h : rmok x) : rmw x ≤ 12 * 27720 := by
  cases x with
  | none => decide
  | some y => obtain ⟨a, b, c, e⟩ := h y rfl; exact wt_bd b c e
theorem C_rm40 {K : wK} {Lf p : Nat} (hL : Lf < 2 ^ 31) (hp : 1 ≤ p) (hp2 : p ≤ 12) (F : Option (Nat × Nat)) (hK : rmok F → H107_30 d (nI Lf) (nI (rmw F)) (nI (rE F)) (nI (rP 0 F)) (nI (p + 1)) M ML R K) : ∀ n e, e + n = p + 1 → 1 ≤ e → ∀ {x : Option (Nat × Nat)}, rmok x → rm_e Lf p n e x = F → H107_40 d (nI Lf) (nI (rmw x)) (nI (rE x)) (nI (rP 0 x)) (nI p) (nI e) M ML R K := by
  intro n
  induction n with
  | zero =>
    intro e he he1 x hx e2
    have e2 : x = F := e2
    subst e2
    exact h107_40 ⟨fun _ => by rw [nI_1]; exact hK hx, fun z => absurd ((nI_ltI (by omega) (by omega)).mpr (by omega)) z⟩
  | succ n ih =>
    intro e he he1 x hx e2
    rw [rm_e] at e2
    have hx2 := rm1_ok (Lf := Lf) hx he1 (by omega) hp hp2
    have hb := wt_bd (e := e) (by omega) hp hp2
    have hr := rmw_bd hx
    obtain ⟨q1, q2, q3⟩ := d27 p (by omega) hp
    refine h107_40 ⟨fun z => absurd ((nI_ltI (by omega) (by omega)).mp z) (by omega), fun _ => ⟨nI_ne0 (by omega) (by omega), ?_⟩⟩
    rw [n27, nI_div (by decide) (by omega), nI_mul, nI_1]
    have same : rm1 Lf e p x = x → H107_40 d (nI Lf) (nI (rmw x)) (nI (rE x)) (nI (rP 0 x)) (nI p) (nI (e + 1)) M ML R K := fun y => ih (e + 1) (by omega) (by omega) hx (by rw [y] at e2; exact e2)
    have new : rm1 Lf e p x = some (e, p) → H107_40 d (nI Lf) (nI (e * (27720 / p))) (nI e) (nI p) (nI p) (nI (e + 1)) M ML R K := fun y => ih (e + 1) (by omega) (by omega) (x := some (e, p)) (by rw [y] at hx2; exact hx2) (by rw [y] at e2; exact e2)
    unfold rm1 at same new
    refine ⟨fun z => same (by rw [if_pos ((nI_ltI (by omega) (by omega)).mp z)]), fun z => ?_⟩
    have z2 : ¬ Lf < e * (27720 / p) := fun y => z ((nI_ltI (by omega) (by omega)).mpr y)
    rw [if_neg z2] at same new
    cases x with
    | none =>
      refine ⟨fun y => ?_, fun _ => new rfl⟩
      have y2 : e * (27720 / p) ≤ 0 := (nI_leI (b := 0) (by omega) (by decide)).mp y
      have : 0 < e * (27720 / p) := Nat.mul_pos he1 q2
      omega
    | some w =>
      dsimp only at same new
      have hr : w.1 * (27720 / w.2) ≤ 12 * 27720 := hr
      show (nI (e * (27720 / p)) ≤ nI (w.1 * (27720 / w.2)) → _) ∧ (¬ nI (e * (27720 / p)) ≤ nI (w.1 * (27720 / w.2)) → _)
      refine ⟨fun y => same (by rw [if_pos ((nI_leI (by omega) (by omega)).mp y)]), fun y => new (by rw [if_neg (fun v => y ((nI_leI (by omega) (by omega)).mpr v))])⟩
theorem C_rm30 {Lf : Nat} (hd : 1 ≤ d) (hL : Lf < 2 ^ 31) (hg : gok g B) (h : BC g ts rw M0 L0 M ML) : ∀ n p, p + n = 13 → 1 ≤ p → ∀ {x : Option (Nat × Nat)}, rmok x → H107_30 d (nI Lf) (nI (rmw x)) (nI (rE x)) (nI (rP 0 x)) (nI p) M ML R (CQ (q_rmA g (rm_p Lf n p x)) (q_rmW g rw (rm_p Lf n p x)) M0 L0 R) := by
  intro n
  induction n with
  | zero =>
    intro p hp hp1 x hx
    refine h107_30 ⟨fun _ => ?_, fun z => absurd ((nI_ltI (a := 12) (by decide) (by omega)).mpr (by omega)) z⟩
    rw [rm_p]
    have h255 := ts_255 (g := g)
    unfold q_rmA q_rmW
    cases x with
    | none =>
      refine ⟨fun _ => ?_, fun y => absurd nI_0 y⟩
      have e1 : (if g_ts g = 255 then (-2 : Int32) else -2) = -2 := by split <;> rfl
      have e2 : (if g_ts g = 255 then rw else rw) = rw := by split <;> rfl
      dsimp only
      rw [e1, e2]
      exact h.q
    | some w =>
      obtain ⟨a1, a2, a3, a4⟩ := hx w rfl
      have hb := wt_bd a2 a3 a4
      have hpos : 0 < w.1 * (27720 / w.2) := Nat.mul_pos a1 (d27 w.2 (by omega) a3).2.1
      refine ⟨fun y => absurd y (nI_ne0 (show 0 < rmw (some w) from hpos) (by show w.1 * (27720 / w.2) < 2 ^ 31; omega)), fun _ => ?_⟩
      refine wI_of (t_leastFree fm_W1 (M, ML, R)) hd ?_
      dsimp only
      rw [c_lf h.1 hg 8 0 (by omega)]
      cases e : g_lf g 8 0 with
      | none =>
        rw [if_pos (h255.mpr e), if_pos (h255.mpr e)]
        exact ⟨fun y => absurd rfl y, fun _ => h.q⟩
      | some q =>
        have hq := g_lf_some 8 0 q e
        have n255 : ¬ g_ts g = 255 := fun y => by rw [h255.mp y] at e; cases e
        rw [if_neg n255, if_neg n255]
        refine ⟨fun _ => ?_, fun y => absurd (show nI q = -1 from y) (nI_nm1 (by omega))⟩
        refine B_clear hd h (fun M1 h1 _ => ?_)
        refine B_add hd h1 (by decide) _ (fun M2 L2 h2 _ _ => ?_)
        refine B_add hd h2 (by simp) _ (fun M3 L3 h3 _ _ => ?_)
        exact h3.q
  | succ n ih =>
    intro p hp hp1 x hx
    refine h107_30 ⟨fun z => absurd ((nI_ltI (a := 12) (by decide) (by omega)).mp z) (by omega), fun _ => ?_⟩
    exact C_rm40 hL hp1 (by omega) (rm_e Lf p p 1 x) (fun hF => ih (p + 1) (by omega) (by omega) hF) p 1 (by omega) (by omega) hx rfl
theorem C_room (hd : 1 ≤ d) (h : IC g un kp tx ts rw he sa M ML R) (hs : SO g un kp ts B) : wI (d + 1) 107 [.ref 0] M ML R (CQ (q_rmA g (rm_p (27720 * g 40 - g_ws g 8) 12 1 none)) (q_rmW g rw (rm_p (27720 * g 40 - g_ws g 8) 12 1 none)) M ML R) := by
  have hP := hs.1.2.1
  have hle := hs.1.2.2.2.2.1
  have hle' : g_ws g 8 ≤ g 40 * 27720 := Nat.le_trans hle (Nat.le_of_eq (Nat.mul_comm _ _))
  have hb4 : 27720 * g 40 - g_ws g 8 < 2 ^ 31 := Nat.lt_of_le_of_lt (Nat.sub_le _ _) (Nat.lt_of_le_of_lt (Nat.mul_le_mul_left _ hP) (by decide))
  refine w107 (C_ws fm_W1 hd h.2.1 ?_)
  rw [h.2.1.1, n27, nI_mul, nI_sub hle', Nat.mul_comm]
  exact C_rm30 hd hb4 hs.1 h.b 12 1 (by omega) (by omega) (x := none) (fun y e => by cases e)
theorem R_rm66 {K : wK} {Lf U lo p : Nat} (hL : Lf < 2 ^ 31) (hU : U < 2 ^ 40) (hlo : 0 < lo) (hlo2 : lo ≤ 27720) (hk : U * 27720 = Lf * lo) (h10 : ML 219 10 = zN lo) (hp : 1 ≤ p) (hp2 : p ≤ 12) (F : Option (Nat × Nat)) (hK : rmok F → H205_56 d (zN U) (nI (rE F)) (nI (rP 1 F)) (nI (p + 1)) M ML R K) : ∀ n e, e + n = p + 1 → 1 ≤ e → ∀ {x : Option (Nat × Nat)}, rmok x → rm_e Lf p n e x = F → H205_66 d (zN U) (nI (rE x)) (nI (rP 1 x)) (nI p) (nI e) M ML R K := by
  intro n
  induction n with
  | zero =>
    intro e he he1 x hx e2
    have e2 : x = F := e2
    subst e2
    exact h205_66 ⟨fun _ => by rw [nI_1]; exact hK hx, fun z => absurd ((nI_ltI (by omega) (by omega)).mpr (by omega)) z⟩
  | succ n ih =>
    intro e he he1 x hx e2
    rw [rm_e] at e2
    have hx2 := rm1_ok (Lf := Lf) hx he1 (by omega) hp hp2
    obtain ⟨q1, q2, q3⟩ := d27 p (by omega) hp
    refine h205_66 ⟨fun z => absurd ((nI_ltI (by omega) (by omega)).mp z) (by omega), fun _ => ?_⟩
    have b1 : e * lo ≤ 12 * 27720 := Nat.mul_le_mul (by omega) hlo2
    have b2 : U * p ≤ 2 ^ 40 * 12 := Nat.mul_le_mul (by omega) hp2
    rw [h10, nL_z (by omega), nL_z (by omega), zN_mul, zN_mul, nI_1]
    have cmp : 0 < lg_cmp (zN (e * lo)) (zN (U * p)) ↔ Lf < e * (27720 / p) := by
      rw [lg_lt, Int64.lt_iff_toInt_lt, zN_toInt (by omega), zN_toInt (by omega)]
      have a1 : U * p < e * lo ↔ U * p * 27720 < e * lo * 27720 := (Nat.mul_lt_mul_right (by decide)).symm
      have a2 : U * p * 27720 = Lf * (lo * p) := by rw [Nat.mul_right_comm, hk, Nat.mul_assoc]
      have a3 : e * lo * 27720 = e * (27720 / p) * (lo * p) := by rw [Nat.mul_mul_mul_comm, Nat.mul_comm (27720 / p) p, Nat.mul_comm p, q1]
      have a4 : Lf * (lo * p) < e * (27720 / p) * (lo * p) ↔ Lf < e * (27720 / p) := Nat.mul_lt_mul_right (Nat.mul_pos hlo hp)
      rw [a2, a3, a4] at a1
      constructor
      · intro y; exact a1.mp (by omega)
      · intro y; have := a1.mpr y; omega
    have same : rm1 Lf e p x = x → H205_66 d (zN U) (nI (rE x)) (nI (rP 1 x)) (nI p) (nI (e + 1)) M ML R K := fun y => ih (e + 1) (by omega) (by omega) hx (by rw [y] at e2; exact e2)
    have new : rm1 Lf e p x = some (e, p) → H205_66 d (zN U) (nI e) (nI p) (nI p) (nI (e + 1)) M ML R K := fun y => ih (e + 1) (by omega) (by omega) (x := some (e, p)) (by rw [y] at hx2; exact hx2) (by rw [y] at e2; exact e2)
    unfold rm1 at same new
    refine ⟨fun z => same (by rw [if_pos (cmp.mp z)]), fun z => ?_⟩
    have z2 : ¬ Lf < e * (27720 / p) := fun y => z (cmp.mpr y)
    rw [if_neg z2] at same new
    rw [nI_mul, nI_mul]
    cases x with
    | none =>
      refine ⟨fun _ => new rfl, fun y => absurd ?_ y⟩
      show nI (0 * p) < nI (e * 1)
      rw [Nat.zero_mul, Nat.mul_one]
      exact (nI_ltI (by decide) (by omega)).mpr (by omega)
    | some w =>
      obtain ⟨a1, a2, a3, a4⟩ := hx w rfl
      obtain ⟨r1, r2, r3⟩ := d27 w.2 (by omega) a3
      dsimp only at same new
      have b3 : w.1 * p ≤ 12 * 12 := Nat.mul_le_mul a2 hp2
      have b4 : e * w.2 ≤ 12 * 12 := Nat.mul_le_mul (by omega) a4
      have cmp2 : w.1 * p < e * w.2 ↔ ¬ e * (27720 / p) ≤ w.1 * (27720 / w.2) := by
        have c1 : w.1 * p < e * w.2 ↔ w.1 * p * 27720 < e * w.2 * 27720 := (Nat.mul_lt_mul_right (by decide)).symm
        have c2 : w.1 * p * 27720 = w.1 * (27720 / w.2) * (p * w.2) := by
          calc w.1 * p * 27720 = w.1 * p * (27720 / w.2 * w.2) := by rw [r1]
            _ = w.1 * (27720 / w.2) * (p * w.2) := Nat.mul_mul_mul_comm _ _ _ _
        have c3 : e * w.2 * 27720 = e * (27720 / p) * (p * w.2) := by
          calc e * w.2 * 27720 = e * w.2 * (27720 / p * p) := by rw [q1]
            _ = e * (27720 / p) * (w.2 * p) := Nat.mul_mul_mul_comm _ _ _ _
            _ = e * (27720 / p) * (p * w.2) := by rw [Nat.mul_comm w.2 p]
        have c4 : w.1 * (27720 / w.2) * (p * w.2) < e * (27720 / p) * (p * w.2) ↔ w.1 * (27720 / w.2) < e * (27720 / p) := Nat.mul_lt_mul_right (Nat.mul_pos hp a3)
        rw [c2, c3, c4] at c1
        rw [c1]
        omega
      show (nI (w.1 * p) < nI (e * w.2) → _) ∧ (¬ nI (w.1 * p) < nI (e * w.2) → _)
      refine ⟨fun y => new (by rw [if_neg (cmp2.mp ((nI_ltI (by omega) (by omega)).mp y))]), fun y => same (by rw [if_pos (Classical.byContradiction (fun v => y ((nI_ltI (by omega) (by omega)).mpr (cmp2.mpr v))))])⟩
theorem R_rm56 {Lf U lo : Nat} (hd : 1 ≤ d) (hL : Lf < 2 ^ 31) (hU : U < 2 ^ 40) (hlo : 0 < lo) (hlo2 : lo ≤ 27720) (hk : U * 27720 = Lf * lo) (h10 : ML 219 10 = zN lo) (n255 : ¬ g_ts g = 255) (h : BR g ts rw M0 L0 R0 M ML R) : ∀ n p, p + n = 13 → 1 ≤ p → ∀ {x : Option (Nat × Nat)}, rmok x → H205_56 d (zN U) (nI (rE x)) (nI (rP 1 x)) (nI p) M ML R (RQ (q_rmA g (rm_p Lf n p x)) (q_rmW g rw (rm_p Lf n p x)) M0 L0 R0) := by
  intro n
  induction n with
  | zero =>
    intro p hp hp1 x hx
    refine h205_56 ⟨fun _ => ?_, fun z => absurd ((nI_ltI (a := 12) (by decide) (by omega)).mpr (by omega)) z⟩
    rw [rm_p]
    unfold q_rmA q_rmW
    rw [if_neg n255, if_neg n255]
    cases x with
    | none => exact ⟨fun y => absurd nI_0 y, fun _ => h.q⟩
    | some w =>
      obtain ⟨a1, a2, a3, a4⟩ := hx w rfl
      refine ⟨fun _ M1 e1 => ?_, fun y => absurd y (nI_ne0 (show 0 < rE (some w) from a1) (by show w.1 < 2 ^ 31; omega))⟩
      subst e1
      refine B_tell hd h.z (by decide) _ (fun M2 L2 h2 _ _ => ?_)
      refine B_tell hd h2 (by simp) _ (fun M3 L3 h3 _ _ => ?_)
      exact h3.q
  | succ n ih =>
    intro p hp hp1 x hx
    refine h205_56 ⟨fun z => absurd ((nI_ltI (a := 12) (by decide) (by omega)).mp z) (by omega), fun _ => ?_⟩
    exact R_rm66 hL hU hlo hlo2 hk h10 hp1 (by omega) (rm_e Lf p p 1 x) (fun hF => ih (p + 1) (by omega) (by omega) hF) p 1 (by omega) (by omega) hx rfl
theorem R_room (hd : 101 ≤ d) (h : IR g un kp tx ts rw he sa M ML R) (hs : SO g un kp ts B) : wI (d + 1) 205 [.ref 219] M ML R (RQ (q_rmA g (rm_p (27720 * g 40 - g_ws g 8) 12 1 none)) (q_rmW g rw (rm_p (27720 * g 40 - g_ws g 8) 12 1 none)) M ML R) := by
  have hb := h.b.u (a := 219) (i := 5) (x := 0) (by omega)
  have hP := hs.1.2.1
  have hle := hs.1.2.2.2.2.1
  have hb4 : 27720 * g 40 - g_ws g 8 < 2 ^ 31 := Nat.lt_of_le_of_lt (Nat.sub_le _ _) (Nat.lt_of_le_of_lt (Nat.mul_le_mul_left _ hP) (by decide))
  obtain ⟨u1, u2, u3, u4⟩ := uL_bd (g_ws g 8)
  obtain ⟨l1, l2⟩ := left_e hle
  have bP : g 40 * uL (g_ws g 8) ≤ 4 * 27720 := Nat.mul_le_mul hP u2
  refine w205 (fun M1 e1 => ?_)
  subst e1
  refine R_tset fm_N220 (by omega) hb.1 hs.1 ?_
  have hl := g_ts_lt g
  by_cases z : g_ts g = 255
  · rw [z]
    refine ⟨fun y => absurd rfl y, fun _ => ?_⟩
    unfold q_rmA q_rmW
    rw [if_pos z, if_pos z]
    exact hb.q
  · refine ⟨fun _ => ?_, fun y => absurd ((nI_eq (b := 255) (by omega) (by decide)).mp y) z⟩
    refine R_layUse fm_N220 hd hb.1 hs.1 (fun L2 f2 k9 k10 => ?_)
    have b2 := hb.frl f2
    rw [b2.1 40 (by omega), k9, k10, nL_z (by omega), zN_mul, zN_sub l1]
    exact R_rm56 (by omega) hb4 (by omega) u1 u2 l2 k10 z b2 12 1 (by omega) (by omega) (x := none) (fun y e => by cases e)
end room
