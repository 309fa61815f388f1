section looks
variable {d B b r : Nat} {g gk g' u : gr} {ts tx tx' t' : List Nat} {rw rw' : List Int64} {un un' : List gr} {kp kp' : Nat → Option gr} {he sa : List (Nat × Nat)} {M0 M M1 : Nat → Nat → Int32} {L0 ML L1 : Nat → Nat → Int64} {R0 R R1 : Nat → Nat → Option Nat}
theorem R_lk60 {K : wK} {i p : Nat} {x1 x2 : Int32} (hd : 1 ≤ d) (hl : sa.length ≤ 10) (hh : ∀ p ∈ sa, 1 ≤ p.1 ∧ p.1 ≤ 12 ∧ p.2 ≤ 150) (hi : 1 ≤ i) (hi2 : i ≤ 12) (hp : p ≤ 12) (F : ls) (hK : ∀ M1, BR g ts rw M0 L0 R0 M1 ML R → JS M1 sa → (∀ j, j < 151 → M1 240 j = F.1 j) → H219_50 d x1 x2 (nI i) F.2 (nI (p + 1)) M1 ML R K) : ∀ n e, e + n = p + 1 → 1 ≤ e → ∀ {s : ls} {M : Nat → Nat → Int32}, BR g ts rw M0 L0 R0 M ML R → JS M sa → (∀ j, j < 151 → M 240 j = s.1 j) → l_e sa i p n e s = F → H219_60 d x1 x2 (nI i) s.2 (nI p) (nI e) M ML R K := by
  intro n
  induction n with
  | zero =>
    intro e he1 he s M h hj h240 e2
    have e2 : s = F := e2
    subst e2
    exact h219_60 ⟨fun _ => by rw [nI_1]; exact hK M h hj h240, fun z => absurd ((nI_ltI (by omega) (by omega)).mpr (by omega)) z⟩
  | succ n ih =>
    intro e he1 he s M h hj h240 e2
    rw [l_e] at e2
    refine h219_60 ⟨fun z => absurd ((nI_ltI (by omega) (by omega)).mp z) (by omega), fun _ => ?_⟩
    refine R_sfit hd hl hj hh he (by omega) hp ?_
    have hr := rel_132 (i := i) he hp hi2
    have er : (nI i - 1) * nI p / nI e = nI (p_rel e p i) := by
      have h2 : (i - 1) * p ≤ 11 * 12 := Nat.mul_le_mul (by omega) hp
      rw [show nI i - 1 = nI (i - 1) from nI_sub (b := 1) hi, nI_mul, nI_div (by omega) (by omega)]
      rfl
    unfold l_1 at e2
    by_cases z : fBa sa e p = true
    · rw [if_pos z]
      rw [if_pos z] at e2
      refine ⟨fun _ => ⟨nI_ne0 (by omega) (by omega), p_rel e p i, er, by omega, p_rel e p i, er, by omega, fun M3 e3 => ⟨p_rel e p i, er, by omega, ?_⟩⟩, fun y => absurd y (by decide)⟩
      subst e3
      rw [fm_u_at, h240 _ (by omega), nI_1]
      refine R_max hd ?_
      have f : fr (fun a j => a = 240 ∧ j = p_rel e p i) M (fm_u M 240 (p_rel e p i) (s.1 (p_rel e p i) + 1)) := fr_u ⟨rfl, rfl⟩
      exact ih (e + 1) (by omega) (by omega) (s := (upd s.1 (p_rel e p i) (s.1 (p_rel e p i) + 1), jd_max s.2 (s.1 (p_rel e p i) + 1))) (h.f (f.mono (fun a j z => by omega))) (JS_fr hj (fun a j y => f a j (by omega))) (fun j y => by
        by_cases w : j = p_rel e p i
        · subst w; rw [fm_u_at]; exact (upd_same _ _ _).symm
        · rw [fm_u_ix w, h240 j y]; exact (upd_ne w).symm) e2
    · rw [if_neg z]
      rw [if_neg z] at e2
      rw [nI_1]
      exact ⟨fun y => absurd rfl y, fun _ => ih (e + 1) (by omega) (by omega) h hj h240 e2⟩
theorem R_lk50 {K : wK} {i : Nat} {x1 x2 : Int32} (hd : 1 ≤ d) (hl : sa.length ≤ 10) (hh : ∀ p ∈ sa, 1 ≤ p.1 ∧ p.1 ≤ 12 ∧ p.2 ≤ 150) (hi : 1 ≤ i) (hi2 : i ≤ 12) (F : ls) (hK : ∀ M1, BR g ts rw M0 L0 R0 M1 ML R → JS M1 sa → (F.2 < x2 → H219_13 d (nI i) F.2 (nI (i + 1)) M1 ML R K) ∧ (¬ F.2 < x2 → H219_13 d x1 x2 (nI (i + 1)) M1 ML R K)) : ∀ n p, p + n = 13 → 1 ≤ p → ∀ {s : ls} {M : Nat → Nat → Int32}, BR g ts rw M0 L0 R0 M ML R → JS M sa → (∀ j, j < 151 → M 240 j = s.1 j) → l_p sa i n p s = F → H219_50 d x1 x2 (nI i) s.2 (nI p) M ML R K := by
  intro n
  induction n with
  | zero =>
    intro p hp hp1 s M h hj h240 e2
    have e2 : s = F := e2
    subst e2
    refine h219_50 ⟨fun _ => ?_, fun z => absurd ((nI_ltI (a := 12) (by decide) (by omega)).mpr (by omega)) z⟩
    rw [nI_1]
    exact hK M h hj
  | succ n ih =>
    intro p hp hp1 s M h hj h240 e2
    rw [l_p] at e2
    refine h219_50 ⟨fun z => absurd ((nI_ltI (a := 12) (by decide) (by omega)).mp z) (by omega), fun _ => ?_⟩
    exact R_lk60 hd hl hh hi hi2 (by omega) (l_e sa i p p 1 s) (fun M1 h1 j1 k1 => ih (p + 1) (by omega) (by omega) h1 j1 k1 e2) p 1 (by omega) (by omega) h hj h240 rfl
theorem R_lk22 {K : wK} {i : Nat} {x1 x2 : Int32} (hd : 1 ≤ d) (hl : sa.length ≤ 10) (hh : ∀ p ∈ sa, 1 ≤ p.1 ∧ p.1 ≤ 12 ∧ p.2 ≤ 150) (hi : 1 ≤ i) (hi2 : i ≤ 12) (hK : ∀ M1, BR g ts rw M0 L0 R0 M1 ML R → JS M1 sa → (l_m sa i < x2 → H219_13 d (nI i) (l_m sa i) (nI (i + 1)) M1 ML R K) ∧ (¬ l_m sa i < x2 → H219_13 d x1 x2 (nI (i + 1)) M1 ML R K)) : ∀ n k, k + n = 151 → ∀ {M : Nat → Nat → Int32}, BR g ts rw M0 L0 R0 M ML R → JS M sa → (∀ j, j < k → M 240 j = 0) → H219_22 d x1 x2 (nI i) (nI k) M ML R K := by
  intro n
  induction n with
  | zero =>
    intro k hk M h hj h240
    refine h219_22 ⟨fun _ => ?_, fun z => absurd ((nI_ltI (a := 150) (by decide) (by omega)).mpr (by omega)) z⟩
    exact R_lk50 hd hl hh hi hi2 (l_p sa i 12 1 (fun _ => 0, 0)) hK 12 1 (by omega) (by omega) (s := (fun _ => 0, 0)) h hj (fun j y => h240 j (by omega)) rfl
  | succ n ih =>
    intro k hk M h hj h240
    refine h219_22 ⟨fun z => absurd ((nI_ltI (a := 150) (by decide) (by omega)).mp z) (by omega), fun _ => ⟨k, rfl, by omega, fun M1 e1 => ?_⟩⟩
    subst e1
    rw [nI_1]
    have f : fr (fun a j => a = 240 ∧ j = k) M (fm_u M 240 k 0) := fr_u ⟨rfl, rfl⟩
    refine ih (k + 1) (by omega) (h.f (f.mono (fun a j z => by omega))) (JS_fr hj (fun a j y => f a j (by omega))) (fun j y => ?_)
    by_cases e : j = k
    · subst e; exact fm_u_at
    · rw [fm_u_ix e]; exact h240 j (by omega)
/-- how many are alike at most: few -/
theorem l_1b {s : ls} {i e p n : Nat} (hs : ∀ j, ∃ m, m ≤ n ∧ s.1 j = nI m) (hs2 : ∃ m, m ≤ n ∧ s.2 = nI m) (hn : n < 1000) : (∀ j, ∃ m, m ≤ n + 1 ∧ (l_1 sa i e p s).1 j = nI m) ∧ ∃ m, m ≤ n + 1 ∧ (l_1 sa i e p s).2 = nI m := by
  unfold l_1
  split
  · obtain ⟨m, hm, em⟩ := hs (p_rel e p i)
    obtain ⟨m2, hm2, em2⟩ := hs2
    refine ⟨fun j => ?_, ?_⟩
    · dsimp only
      by_cases w : j = p_rel e p i
      · subst w; exact ⟨m + 1, by omega, by rw [upd_same, em, nI_1]⟩
      · obtain ⟨m3, h3, e3⟩ := hs j
        exact ⟨m3, by omega, by rw [upd_ne w, e3]⟩
    · dsimp only
      rw [em, em2, nI_1, jd_max_n (by omega) (by omega)]
      exact ⟨max m2 (m + 1), by omega, rfl⟩
  · refine ⟨fun j => ?_, ?_⟩
    · obtain ⟨m3, h3, e3⟩ := hs j; exact ⟨m3, by omega, e3⟩
    · obtain ⟨m3, h3, e3⟩ := hs2; exact ⟨m3, by omega, e3⟩
theorem l_eb {i p : Nat} : ∀ k e n, n + k < 1000 → ∀ {s : ls}, (∀ j, ∃ m, m ≤ n ∧ s.1 j = nI m) → (∃ m, m ≤ n ∧ s.2 = nI m) → (∀ j, ∃ m, m ≤ n + k ∧ (l_e sa i p k e s).1 j = nI m) ∧ ∃ m, m ≤ n + k ∧ (l_e sa i p k e s).2 = nI m := by
  intro k
  induction k with
  | zero => intro e n _ s h1 h2; exact ⟨h1, h2⟩
  | succ k ih =>
    intro e n hn s h1 h2
    obtain ⟨a, b⟩ := l_1b (sa := sa) (i := i) (e := e) (p := p) h1 h2 (by omega)
    have := ih (e + 1) (n + 1) (by omega) a b
    rw [show n + 1 + k = n + (k + 1) by omega] at this
    exact this
theorem l_pb {i : Nat} : ∀ k p n, p + k ≤ 13 → n + 13 * k < 1000 → ∀ {s : ls}, (∀ j, ∃ m, m ≤ n ∧ s.1 j = nI m) → (∃ m, m ≤ n ∧ s.2 = nI m) → ∃ m, m ≤ n + 13 * k ∧ (l_p sa i k p s).2 = nI m := by
  intro k
  induction k with
  | zero => intro p n _ _ s h1 h2; exact h2
  | succ k ih =>
    intro p n hp hn s h1 h2
    obtain ⟨a, b⟩ := l_eb (sa := sa) (i := i) (p := p) p 1 n (by omega) h1 h2
    obtain ⟨m, h3, e⟩ := ih (p + 1) (n + p) (by omega) (by omega) a b
    exact ⟨m, by omega, e⟩
theorem l_mb (i : Nat) : ∃ m, m ≤ 200 ∧ l_m sa i = nI m := by
  obtain ⟨m, h, e⟩ := l_pb (sa := sa) (i := i) 12 1 0 (by omega) (by omega) (s := (fun _ => 0, 0)) (fun j => ⟨0, by omega, rfl⟩) ⟨0, by omega, rfl⟩
  exact ⟨m, by omega, e⟩
theorem R_looks1 (hd : 1 ≤ d) (hl : sa.length ≤ 10) (hh : ∀ p ∈ sa, 1 ≤ p.1 ∧ p.1 ≤ 12 ∧ p.2 ≤ 150) : ∀ n i, i + n = 13 → 1 ≤ i → ∀ {x : Option (Nat × Int32)} {M : Nat → Nat → Int32}, (i = 13 → ∃ y, x = some y) → BR g ts rw M0 L0 R0 M ML R → JS M sa → H219_13 d (lkb x) (lkl 1000000 x) (nI i) M ML R (RQ (lkA (l_k sa n i x)) (lkW rw (l_k sa n i x)) M0 L0 R0) := by
  intro n
  induction n with
  | zero =>
    intro i hi hi1 x M hs h hj
    refine h219_13 ⟨fun _ => ?_, fun z => absurd ((nI_ltI (a := 12) (by decide) (by omega)).mpr (by omega)) z⟩
    obtain ⟨y, rfl⟩ := hs (by omega)
    show (¬ y.2 = 0 → _) ∧ (y.2 = 0 → _)
    rw [l_k, lkA, lkW]
    refine ⟨fun z M1 e1 => ?_, fun z => ?_⟩
    · rw [if_neg z, if_neg z]
      subst e1
      refine B_tell (by omega) h.z (by decide) _ (fun M2 L2 h2 _ _ => ?_)
      exact h2.q
    · rw [if_pos z, if_pos z]
      exact h.q
  | succ n ih =>
    intro i hi hi1 x M hs h hj
    refine h219_13 ⟨fun z => absurd ((nI_ltI (a := 12) (by decide) (by omega)).mp z) (by omega), fun _ => ?_⟩
    refine R_lk22 hd hl hh hi1 (by omega) (fun M1 h1 j1 => ?_) 151 0 (by omega) h hj (fun j y => absurd y (by omega))
    have new := ih (i + 1) (by omega) (by omega) (x := some (i, l_m sa i)) (fun _ => ⟨_, rfl⟩) h1 j1
    cases x with
    | none =>
      obtain ⟨m, hm, em⟩ := l_mb (sa := sa) i
      refine ⟨fun _ => new, fun y => absurd ?_ y⟩
      show l_m sa i < 1000000
      rw [em]
      exact (nI_ltI (b := 1000000) (by omega) (by decide)).mpr (by omega)
    | some y =>
      show (_ < y.2 → _) ∧ (¬ _ < y.2 → _)
      rw [l_k]
      refine ⟨fun z => ?_, fun z => ?_⟩
      · rw [if_neg (Int32.not_le.mpr z)]
        exact new
      · rw [if_pos (Int32.not_lt.mp z)]
        exact ih (i + 1) (by omega) (by omega) (x := some y) (fun _ => ⟨_, rfl⟩) h1 j1
theorem R_looks (hd : 1 ≤ d) (hl : sa.length ≤ 10) (hh : ∀ p ∈ sa, 1 ≤ p.1 ∧ p.1 ≤ 12 ∧ p.2 ≤ 150) (h : IR g un kp tx ts rw he sa M ML R) : wI (d + 1) 219 [.ref 219] M ML R (RQ (lkA (l_a sa)) (lkW rw (l_a sa)) M ML R) := by
  have hb := h.b.u (a := 219) (i := 5) (x := 0) (by omega)
  refine w219 (fun M1 e1 => ?_)
  subst e1
  exact R_looks1 hd hl hh 12 1 (by omega) (by omega) (x := none) (fun y => absurd y (by omega)) hb h.t0.2.2.2.2.2.2
/-! heard, forget, saw, denies -/
theorem IC.h {he' : List (Nat × Nat)} (h : IC g un kp tx ts rw he sa M ML R) (f : fr (fun a _ => 46 ≤ a ∧ a ≤ 48) M M1) (x : IH M1 he') : IC g un kp tx ts rw he' sa M1 ML R := by
  obtain ⟨h1, h2, h3, h4, h5, h6, h7, h8, h9⟩ := h
  exact ⟨h1, cr_fr h2 (fun a i y1 y2 _ => f a i (by omega)), IP_fr h3 (fun a i y => f a i (by omega)), IX_fr h4 (fun a i y => f a i (by omega)), tr_fr h5 (fun a i y => f a i (by omega)), IW_fr h6 (fun i => f _ i (by omega)) (fun _ => rfl), x, IS_fr h8 (fun a i y => f a i (by omega)), IZ_fr h9 (fun a i y => f a i (by omega))⟩
theorem IC.s {sa' : List (Nat × Nat)} (h : IC g un kp tx ts rw he sa M ML R) (f : fr (fun a _ => 49 ≤ a ∧ a ≤ 51) M M1) (x : IS M1 sa') : IC g un kp tx ts rw he sa' M1 ML R := by
  obtain ⟨h1, h2, h3, h4, h5, h6, h7, h8, h9⟩ := h
  exact ⟨h1, cr_fr h2 (fun a i y1 y2 _ => f a i (by omega)), IP_fr h3 (fun a i y => f a i (by omega)), IX_fr h4 (fun a i y => f a i (by omega)), tr_fr h5 (fun a i y => f a i (by omega)), IW_fr h6 (fun i => f _ i (by omega)) (fun _ => rfl), IH_fr h7 (fun a i y => f a i (by omega)), x, IZ_fr h9 (fun a i y => f a i (by omega))⟩
theorem IR.h {he' : List (Nat × Nat)} (h : IR g un kp tx ts rw he sa M ML R) (f : fr (fun a i => (a = 219 ∧ (i = 5 ∨ i = 36)) ∨ a = 236 ∨ a = 237) M M1) (x : JH M1 he') : IR g un kp tx ts rw he' sa M1 ML R := by
  obtain ⟨h1, h2, h3, h4, h5, h6, h7⟩ := h
  exact ⟨rr_fr h1 (fun i => f _ i (by omega)), JP_fr h2 (fun a i y => f a i (by omega)), JX_fr h3 (fun a i y => f a i (by omega)), JT_fr h4 (fun a i y => f a i (by omega)) rfl rfl, JW_fr h5 (f _ _ (by omega)) (fun _ => rfl), x, JS_fr h7 (fun a i y => f a i (by omega))⟩
theorem IR.s {sa' : List (Nat × Nat)} (h : IR g un kp tx ts rw he sa M ML R) (f : fr (fun a i => (a = 219 ∧ (i = 5 ∨ i = 39)) ∨ a = 238 ∨ a = 239) M M1) (x : JS M1 sa') : IR g un kp tx ts rw he sa' M1 ML R := by
  obtain ⟨h1, h2, h3, h4, h5, h6, h7⟩ := h
  exact ⟨rr_fr h1 (fun i => f _ i (by omega)), JP_fr h2 (fun a i y => f a i (by omega)), JX_fr h3 (fun a i y => f a i (by omega)), JT_fr h4 (fun a i y => f a i (by omega)) rfl rfl, JW_fr h5 (f _ _ (by omega)) (fun _ => rfl), JH_fr h6 (fun a i y => f a i (by omega)), x⟩
theorem pr_get {l : List (Nat × Nat)} {p : Nat × Nat} {k : Nat} (hk : k < l.length + 1) : (l ++ [p]).getD k (0, 0) = if k = l.length then p else l.getD k (0, 0) := by
  by_cases e : k = l.length
  · subst e
    rw [if_pos rfl, List.getD_eq_getElem?_getD, List.getElem?_append_right (Nat.le_refl _)]
    simp
  · rw [if_neg e, List.getD_eq_getElem?_getD, List.getElem?_append_left (by omega), List.getD_eq_getElem?_getD]
theorem C_forget (hd : 2 ≤ d) (h : IC g un kp tx ts rw he sa M ML R) : wI d 110 [.ref 0] M ML R (CK (nI he.length) g un kp tx ts rw [] sa M ML R) := by
  have t := t_forget (M, ML, R)
  have f : fr (fun a _ => 46 ≤ a ∧ a ≤ 48) M (fm_u M 46 2 0) := fr_u (by omega)
  exact wI_of t hd ⟨h.2.2.2.2.2.2.1.2.2.1, h.h f ⟨by decide, fun p hp => absurd hp (by simp), fm_u_at, fun k hk => absurd hk (by simp)⟩, f.mono (fun a i z => by omega), fr.rfl, rfl⟩
theorem R_forget (hd : 1 ≤ d) (h : IR g un kp tx ts rw he sa M ML R) : wI d 210 [.ref 219] M ML R (RK (nI he.length) g un kp tx ts rw [] sa M ML R) := by
  have t := t_mforget M ML R
  have f : fr (fun a i => (a = 219 ∧ (i = 5 ∨ i = 36)) ∨ a = 236 ∨ a = 237) M (fm_u (fm_u M 219 5 0) 219 36 0) := fr_u2 (fr_u (by omega)) (by omega)
  exact wI_of t hd ⟨h.2.2.2.2.2.1.1, h.h f ⟨fm_u_at, fun k hk => absurd hk (by simp)⟩, f.mono (fun a i z => by omega), fr.rfl, fr.rfl⟩
theorem C_denies (hd : 2 ≤ d) (h : IC g un kp tx ts rw he sa M ML R) : wI d 114 [.ref 0] M ML R (CK (nI sa.length) g un kp tx ts rw he [] M ML R) := by
  have t := t_denies (M, ML, R)
  have f : fr (fun a _ => 49 ≤ a ∧ a ≤ 51) M (fm_u M 49 3 0) := fr_u (by omega)
  exact wI_of t hd ⟨h.2.2.2.2.2.2.2.1.2.2.1, h.s f ⟨by decide, fun p hp => absurd hp (by simp), fm_u_at, fun k hk => absurd hk (by simp)⟩, f.mono (fun a i z => by omega), fr.rfl, rfl⟩
theorem R_denies (hd : 1 ≤ d) (h : IR g un kp tx ts rw he sa M ML R) : wI d 216 [.ref 219] M ML R (RK (nI sa.length) g un kp tx ts rw he [] M ML R) := by
  have t := t_mdenies M ML R
  have f : fr (fun a i => (a = 219 ∧ (i = 5 ∨ i = 39)) ∨ a = 238 ∨ a = 239) M (fm_u (fm_u M 219 5 0) 219 39 0) := fr_u2 (fr_u (by omega)) (by omega)
  exact wI_of t hd ⟨h.2.2.2.2.2.2.1, h.s f ⟨fm_u_at, fun k hk => absurd hk (by simp)⟩, f.mono (fun a i z => by omega), fr.rfl, fr.rfl⟩
theorem C_heard (hd : 1 ≤ d) (h : IC g un kp tx ts rw he sa M ML R) (a v : Int32) : (∀ w x, w < 5 → a = nI w → lo5 w ≤ x → x ≤ hi5 w → v = nI x → he.length < 12 → wI (d + 1) 109 [.ref 0, .int a, .int v] M ML R (CK (nI (he.length + 1)) g un kp tx ts rw (he ++ [(w, x)]) sa M ML R)) ∧ ((a < 0 ∨ 4 < a) ∨ (∃ w, w < 5 ∧ a = nI w ∧ (v < nI (lo5 w) ∨ nI (hi5 w) < v)) ∨ he.length = 12 → wI (d + 1) 109 [.ref 0, .int a, .int v] M ML R (CK (-1) g un kp tx ts rw he sa M ML R)) := by
  obtain ⟨d, rfl⟩ : ∃ e, d = e + 1 := ⟨d - 1, by omega⟩
  obtain ⟨i1, i2, i3, i4⟩ := h.2.2.2.2.2.2.1
  have hz := h.2.2.2.2.2.2.2.2
  constructor
  · rintro w x hw rfl hx1 hx2 rfl h12
    have hh := hi5_le w
    obtain ⟨z1, z2⟩ := IZ_lo hz hw
    refine w109 (w2 ⟨fun z => absurd z (nI_nneg (by omega)), fun _ => ⟨fun z => absurd ((nI_leI (a := 5) (by decide) (by omega)).mp z) (by omega), fun _ => ⟨w, rfl, hw, ?_⟩⟩⟩)
    rw [z1]
    refine ⟨fun z => absurd ((nI_ltI (by omega) (by omega)).mp z) (by omega), fun _ => ⟨w, rfl, hw, ?_⟩⟩
    rw [z2, i3]
    refine ⟨fun _ => ⟨fun _ => ⟨he.length, rfl, h12, fun M3 e3 => ⟨he.length, ?_, h12, fun M4 e4 M5 e5 => ?_⟩⟩, fun z => absurd ((nI_ltI (b := 12) (by omega) (by decide)).mpr h12) z⟩, fun z => absurd ((nI_leI (by omega) (by omega)).mpr hx2) z⟩
    · subst e3; rw [fm_u_off (by decide)]; exact i3
    · subst e3 e4 e5
      have F : fr (fun a _ => 46 ≤ a ∧ a ≤ 48) M (fm_u (fm_u (fm_u M 47 he.length (nI w)) 48 he.length (nI x)) 46 2 (fm_u (fm_u M 47 he.length (nI w)) 48 he.length (nI x) 46 2 + 1)) := fr_u2 (fr_u2 (fr_u (by omega)) (by omega)) (by omega)
      have e2 : fm_u (fm_u M 47 he.length (nI w)) 48 he.length (nI x) 46 2 + 1 = nI (he.length + 1) := by rw [fm_u_off (by decide), fm_u_off (by decide), i3, nI_1]
      rw [fm_u_at, e2]
      rw [e2] at F
      refine ⟨rfl, h.h F ⟨by simp; omega, fun p hp => ?_, by rw [fm_u_at]; simp, fun k hk => ?_⟩, F.mono (fun a i z => by omega), fr.rfl, rfl⟩
      · rcases List.mem_append.mp hp with y | y
        · exact i2 p y
        · have : p = (w, x) := by simpa using y
          subst this
          dsimp only
          omega
      · simp at hk
        rw [pr_get hk]
        by_cases e : k = he.length
        · subst e
          rw [if_pos rfl]
          exact ⟨by rw [fm_u_off (by decide), fm_u_off (by decide), fm_u_at], by rw [fm_u_off (by decide), fm_u_at]⟩
        · rw [if_neg e]
          exact ⟨by rw [fm_u_off (by decide), fm_u_off (by decide), fm_u_ix e]; exact (i4 k (by omega)).1, by rw [fm_u_off (by decide), fm_u_ix e, fm_u_off (by decide)]; exact (i4 k (by omega)).2⟩
  · intro z
    refine w109 (w2 ⟨fun _ => h.qk, fun n0 => ⟨fun _ => h.qk, fun n5 => ?_⟩⟩)
    obtain ⟨w, hw0, hw4, rfl⟩ : ∃ n, 0 ≤ n ∧ n ≤ 4 ∧ a = nI n := by
      rcases rngc 0 4 (by decide) (by decide) a with y | y
      · exact y
      · exfalso
        rcases y with y | y
        · exact n0 y
        · have y := Int32.lt_iff_toInt_lt.mp y
          have n5 := Int32.lt_iff_toInt_lt.mp (Int32.not_le.mp n5)
          have e1 : (nI 4).toInt = 4 := rfl
          have e2 : (5 : Int32).toInt = 5 := rfl
          omega
    have hh := hi5_le w
    obtain ⟨z1, z2⟩ := IZ_lo hz (show w < 5 by omega)
    refine ⟨w, rfl, by omega, ?_⟩
    rw [z1]
    refine ⟨fun _ => h.qk, fun n1 => ⟨w, rfl, by omega, ?_⟩⟩
    rw [z2, i3]
    refine ⟨fun n2 => ⟨fun n3 => ?_, fun _ => h.qk⟩, fun _ => h.qk⟩
    exfalso
    rcases z with z | ⟨w', hw', e, z⟩ | z
    · rcases z with z | z
      · exact n0 z
      · exact absurd ((nI_ltI (a := 4) (by decide) (by omega)).mp z) (by omega)
    · have := (nI_eq (by omega) (by omega)).mp e
      subst this
      rcases z with z | z
      · exact n1 z
      · exact absurd n2 (Int32.not_le.mpr z)
    · exact absurd ((nI_ltI (b := 12) (by omega) (by decide)).mp n3) (by omega)
theorem R_heard (hd : 1 ≤ d) (hl : he.length ≤ 12) (h : IR g un kp tx ts rw he sa M ML R) (a v : Int32) : (∀ w x, w < 5 → a = nI w → lo5 w ≤ x → x ≤ hi5 w → v = nI x → he.length < 12 → wI (d + 1) 209 [.ref 219, .int a, .int v] M ML R (RK (nI (he.length + 1)) g un kp tx ts rw (he ++ [(w, x)]) sa M ML R)) ∧ ((a < 0 ∨ 4 < a) ∨ (∃ w, w < 5 ∧ a = nI w ∧ (v < nI (lo5 w) ∨ nI (hi5 w) < v)) ∨ he.length = 12 → wI (d + 1) 209 [.ref 219, .int a, .int v] M ML R (RK (-1) g un kp tx ts rw he sa M ML R)) := by
  have h1 := h.t0
  obtain ⟨i3, i4⟩ := h1.2.2.2.2.2.1
  have no : RK (-1) g un kp tx ts rw he sa M ML R (-1) (fm_u M 219 5 0) ML R := ⟨rfl, h1, t0_fr, fr.rfl, fr.rfl⟩
  constructor
  · rintro w x hw rfl hx1 hx2 rfl h12
    have hh := hi5_le w
    refine w209 (fun M1 e1 => ?_)
    subst e1
    refine R_in (by omega) ?_
    rw [show md_in (nI w) 0 4 = 1 from in_y (lo := 0) (hi := 4) (by decide) (by omega) (by omega)]
    refine ⟨fun z => absurd z (by decide), fun _ => wI_of (t_mlow _ (nI w)) hd (wI_of (t_mhigh _ (nI w)) hd ?_)⟩
    rw [(low_5 w hw).1, (low_5 w hw).2]
    refine R_in (by omega) ?_
    rw [in_y (by omega) hx1 hx2, i3]
    refine ⟨fun z => absurd z (by decide), fun _ => ⟨fun _ => ⟨he.length, rfl, h12, fun M6 e6 => ⟨he.length, ?_, h12, fun M7 e7 M8 e8 => ?_⟩⟩, fun z => absurd ((nI_eq (b := 12) (by omega) (by decide)).mp z) (by omega)⟩⟩
    · subst e6; rw [fm_u_off (by decide)]; exact i3
    · subst e6 e7 e8
      have e2 : fm_u (fm_u (fm_u M 219 5 0) 236 he.length (nI w)) 237 he.length (nI x) 219 36 + 1 = nI (he.length + 1) := by rw [fm_u_off (by decide), fm_u_off (by decide), i3, nI_1]
      rw [fm_u_at, e2]
      have F : fr (fun a i => (a = 219 ∧ (i = 5 ∨ i = 36)) ∨ a = 236 ∨ a = 237) M (fm_u (fm_u (fm_u (fm_u M 219 5 0) 236 he.length (nI w)) 237 he.length (nI x)) 219 36 (nI (he.length + 1))) := fr_u2 (fr_u2 (fr_u2 (fr_u (by omega)) (by omega)) (by omega)) (by omega)
      refine ⟨rfl, h.h F ⟨by rw [fm_u_at]; simp, fun k hk => ?_⟩, F.mono (fun a i z => by omega), fr.rfl, fr.rfl⟩
      simp at hk
      rw [pr_get hk]
      by_cases e : k = he.length
      · subst e
        rw [if_pos rfl]
        exact ⟨by rw [fm_u_off (by decide), fm_u_off (by decide), fm_u_at], by rw [fm_u_off (by decide), fm_u_at]⟩
      · rw [if_neg e]
        exact ⟨by rw [fm_u_off (by decide), fm_u_off (by decide), fm_u_ix e]; exact (i4 k (by omega)).1, by rw [fm_u_off (by decide), fm_u_ix e, fm_u_off (by decide)]; exact (i4 k (by omega)).2⟩
  · intro z
    refine w209 (fun M1 e1 => ?_)
    subst e1
    refine R_in (by omega) ?_
    rcases rngc 0 4 (by decide) (by decide) a with ⟨w, hw0, hw4, rfl⟩ | y
    · have hh := hi5_le w
      rw [show md_in (nI w) 0 4 = 1 from in_y (lo := 0) (hi := 4) (by decide) (by omega) (by omega)]
      refine ⟨fun _ => no, fun _ => wI_of (t_mlow _ (nI w)) hd (wI_of (t_mhigh _ (nI w)) hd ?_)⟩
      rw [(low_5 w (by omega)).1, (low_5 w (by omega)).2]
      refine R_in (by omega) ?_
      refine ⟨fun _ => no, fun n => ⟨fun n2 => ?_, fun _ => no⟩⟩
      exfalso
      rcases z with z | ⟨w', hw', e, z⟩ | z
      · rcases z with z | z
        · exact nI_nneg (by omega) z
        · exact absurd ((nI_ltI (a := 4) (by decide) (by omega)).mp z) (by omega)
      · have := (nI_eq (by omega) (by omega)).mp e
        subst this
        exact n (in_n z)
      · exact n2 (by rw [i3, z]; rfl)
    · rw [show md_in a 0 4 = 0 from in_n y]
      exact ⟨fun _ => no, fun z => absurd rfl z⟩
end looks
