/-! a game of divisors -/
def dvt (k : Nat) : Nat := if k % 2 = 0 ∧ 0 < k then 1 else 0
section game
variable {d B b r : Nat} {g gk g' u : gr} {ts tx tx' t' : List Nat} {rw rw' : List Int64} {un un' : List gr} {kp kp' : Nat → Option gr} {he sa : List (Nat × Nat)} {M0 M M1 : Nat → Nat → Int32} {L0 ML L1 : Nat → Nat → Int64} {R0 R R1 : Nat → Nat → Option Nat}
def q_dvW (n : Nat) : List Int64 := if dvt n = 1 then [1] else []
theorem C_div (hd : 1 ≤ d) (h : IC g un kp tx ts rw he sa M ML R) (v : Int32) : (∀ n, n ≤ 200 → v = nI n → wI (d + 1) 118 [.ref 0, .int v] M ML R (CQ (nI (dvt n)) (q_dvW n) M ML R)) ∧ (v < 0 ∨ 200 < v → wI (d + 1) 118 [.ref 0, .int v] M ML R (CQ (-1) rw M ML R)) := by
  constructor
  · rintro n hn rfl
    refine w118 ⟨fun z => absurd z (nI_nneg (by omega)), fun _ => ⟨fun _ => ?_, fun z => absurd ((nI_leI (b := 200) (by omega) (by decide)).mpr hn) z⟩⟩
    refine B_clear (by omega) h.b (fun M1 h1 _ => ?_)
    have er : nI n - nI n / 2 * 2 = nI (n % 2) := nI_rem (b := 2) (by omega) (by decide)
    rw [er]
    unfold q_dvW dvt
    by_cases z0 : n = 0
    · subst z0
      exact ⟨fun _ => h1.q, fun y => absurd nI_0 y⟩
    · refine ⟨fun y => absurd y (nI_ne0 (by omega) (by omega)), fun _ => ?_⟩
      by_cases z : n % 2 = 0
      · rw [if_pos (show n % 2 = 0 ∧ 0 < n from ⟨z, by omega⟩), if_pos rfl, z]
        refine ⟨fun _ => ?_, fun y => absurd nI_0 y⟩
        refine B_add (by omega) h1 (by decide) _ (fun M2 L2 h2 _ _ => ?_)
        exact h2.q
      · rw [if_neg (show ¬ (n % 2 = 0 ∧ 0 < n) from fun y => z y.1), if_neg (by decide)]
        exact ⟨fun y => absurd y (nI_ne0 (by omega) (by omega)), fun _ => h1.q⟩
  · intro z
    exact w118 ⟨fun _ => h.b.q, fun y => ⟨fun y2 => absurd y2 (Int32.not_le.mpr (z.resolve_left y)), fun _ => h.b.q⟩⟩
theorem R_take1 {K : wK} {n : Nat} (hn : n ≤ 200) (hw : ∀ k, k < n → M 241 k = nI (dvt k)) (hK : K (nI (dvt n)) M ML R) : ∀ m e, e + m = max n 1 → 1 ≤ e → (n % 2 = 0 → e = 1 ∨ n = 0) → H221_2 d (nI n) (nI e) M ML R K := by
  intro m
  induction m with
  | zero =>
    intro e he he1 hev
    refine h221_2 ⟨fun _ => ?_, fun z => absurd ((nI_leI (by omega) (by omega)).mpr (by omega)) z⟩
    have : dvt n = 0 := by
      unfold dvt
      rw [if_neg]
      intro y
      have := hev y.1
      omega
    rw [this] at hK
    exact hK
  | succ m ih =>
    intro e he he1 hev
    refine h221_2 ⟨fun z => absurd ((nI_leI (by omega) (by omega)).mp z) (by omega), fun _ => ⟨nI_ne0 (by omega) (by omega), ?_⟩⟩
    have er : nI n - nI n / nI e * nI e = nI (n % e) := nI_rem (by omega) (by omega)
    have hml := Nat.mod_lt n (show 0 < e by omega)
    rw [er, nI_1]
    by_cases ev : n % 2 = 0
    · have e1 : e = 1 := by have := hev ev; omega
      subst e1
      rw [Nat.mod_one]
      refine ⟨fun y => absurd nI_0 y, fun _ => ⟨n - 1, nI_sub (b := 1) (by omega), by omega, ?_⟩⟩
      rw [hw (n - 1) (by omega)]
      have d0 : dvt (n - 1) = 0 := by unfold dvt; rw [if_neg (by omega)]
      have d1 : dvt n = 1 := by unfold dvt; rw [if_pos (by omega)]
      rw [d0]
      rw [d1] at hK
      exact ⟨fun y => absurd nI_0 y, fun _ => hK⟩
    · by_cases z : n % e = 0
      · rw [z]
        refine ⟨fun y => absurd nI_0 y, fun _ => ⟨n - e, nI_sub (by omega), by omega, ?_⟩⟩
        rw [hw (n - e) (by omega)]
        have d1 : dvt (n - e) = 1 := by
          unfold dvt
          rw [if_pos]
          obtain ⟨c, hc⟩ := Nat.dvd_of_mod_eq_zero z
          have eo : e % 2 = 1 := by
            rcases Nat.mod_two_eq_zero_or_one e with y | y
            · exfalso
              have : (e * c) % 2 = 0 := by rw [Nat.mul_mod, y]; simp
              rw [← hc] at this
              exact ev this
            · exact y
          omega
        rw [d1]
        exact ⟨fun _ => ih (e + 1) (by omega) (by omega) (fun y => absurd y ev), fun y => absurd y (by decide)⟩
      · refine ⟨fun _ => ih (e + 1) (by omega) (by omega) (fun y => absurd y ev), fun y => absurd y (nI_ne0 (by omega) (by omega))⟩
theorem R_take {K : wK} {n : Nat} (hd : 1 ≤ d) (hn : n ≤ 200) (hw : ∀ k, k < n → M 241 k = nI (dvt k)) (hK : K (nI (dvt n)) M ML R) : wI d 221 [.ref 219, .int (nI n)] M ML R K := by
  obtain ⟨d, rfl⟩ : ∃ e, d = e + 1 := ⟨d - 1, by omega⟩
  exact w221 (R_take1 hn hw hK (max n 1 - 1) 1 (by omega) (by omega) (fun _ => Or.inl rfl))
theorem dvt_01 (n : Nat) : dvt n = 0 ∨ dvt n = 1 := by unfold dvt; split <;> omega
theorem R_div1 {n : Nat} (hd : 1 ≤ d) (hn : n ≤ 200) : ∀ m k, k + m = n + 1 → ∀ {M : Nat → Nat → Int32}, BR g ts rw M0 L0 R0 M ML R → (∀ j, j < k → M 241 j = nI (dvt j)) → H222_20 d (nI n) (nI k) M ML R (RQ (nI (dvt n)) (q_dvW n) M0 L0 R0) := by
  intro m
  induction m with
  | zero =>
    intro k hk M h hj
    refine h222_20 ⟨fun _ M1 e1 => ?_, fun z => absurd ((nI_ltI (by omega) (by omega)).mpr (by omega)) z⟩
    subst e1
    have hj' : ∀ j, j < n → fm_u M 219 4 0 241 j = nI (dvt j) := fun j y => by rw [fm_u_off (by decide)]; exact hj j (by omega)
    refine R_take hd hn hj' ?_
    unfold q_dvW
    rcases dvt_01 n with z | z
    · rw [z, if_neg (by decide)]
      refine ⟨fun _ => R_take hd hn hj' ?_, fun y => absurd (by decide) y⟩
      rw [z]
      exact ⟨fun _ => h.z.q, fun y => absurd (by decide) y⟩
    · rw [z, if_pos rfl]
      refine ⟨fun y => absurd y (by decide), fun _ => R_take hd hn hj' ?_⟩
      rw [z]
      refine B_tell hd h.z (by decide) _ (fun M2 L2 h2 f2 _ => ?_)
      refine R_take hd hn (fun j y => by rw [f2 241 j (by omega)]; exact hj' j y) ?_
      rw [z]
      exact ⟨fun y => absurd y (by decide), fun _ => h2.q⟩
  | succ m ih =>
    intro k hk M h hj
    refine h222_20 ⟨fun z => absurd ((nI_ltI (by omega) (by omega)).mp z) (by omega), fun _ => ?_⟩
    refine R_take hd (by omega) hj ?_
    rw [nI_1]
    have fin : ∀ M1, M1 = fm_u M 241 k (nI (dvt k)) → H222_20 d (nI n) (nI (k + 1)) M1 ML R (RQ (nI (dvt n)) (q_dvW n) M0 L0 R0) := fun M1 e1 => by
      subst e1
      refine ih (k + 1) (by omega) (h.u (by omega)) (fun j y => ?_)
      by_cases e : j = k
      · subst e; exact fm_u_at
      · rw [fm_u_ix e]; exact hj j (by omega)
    rcases dvt_01 k with z | z
    · rw [z] at fin ⊢
      exact ⟨fun _ => ⟨k, rfl, by omega, fun M8 e8 => fin M8 e8⟩, fun y => absurd (by decide) y⟩
    · rw [z] at fin ⊢
      exact ⟨fun y => absurd y (by decide), fun _ => ⟨k, rfl, by omega, fun M8 e8 => fin M8 e8⟩⟩
theorem R_div (hd : 1 ≤ d) (h : IR g un kp tx ts rw he sa M ML R) (v : Int32) : (∀ n, n ≤ 200 → v = nI n → wI (d + 1) 222 [.ref 219, .int v] M ML R (RQ (nI (dvt n)) (q_dvW n) M ML R)) ∧ (v < 0 ∨ 200 < v → wI (d + 1) 222 [.ref 219, .int v] M ML R (RQ (-1) rw M ML R)) := by
  have hb := h.b.u (a := 219) (i := 5) (x := 0) (by omega)
  constructor
  · rintro n hn rfl
    refine w222 (fun M1 e1 => ?_)
    subst e1
    refine R_in (by omega) ?_
    rw [show md_in (nI n) 0 200 = 1 from in_y (lo := 0) (hi := 200) (by decide) (by omega) hn]
    refine ⟨fun _ => ?_, fun z => absurd z (by decide)⟩
    exact R_div1 hd hn (n + 1) 0 (by omega) hb (fun j y => absurd y (by omega))
  · intro z
    refine w222 (fun M1 e1 => ?_)
    subst e1
    refine R_in (by omega) ?_
    rw [in_n z]
    exact ⟨fun y => absurd rfl y, fun _ => hb.q⟩
/-! rests -/
theorem best_e : ∀ v, v < 19 → ∀ x, x < 10 → ∀ y, y < 10 → md_best (nI x) (nI y) (nI v) 10 0 = cl_best (nI v) (nI x) (nI y) 10 0 ∧ (cl_best (nI v) (nI x) (nI y) 10 0 = 0 ∨ cl_best (nI v) (nI x) (nI y) 10 0 = 1) := by decide +kernel
theorem best_n : ∀ v, v < 19 → ∀ x, x < 10 → ∀ y, y < 10 → nI v < nI x + nI y → ¬ nI x + nI y = 0 := by decide +kernel
def r_1 (v x y : Nat) (s : Nat × List Int64) : Nat × List Int64 := if cl_best (nI v) (nI x) (nI y) 10 0 = 0 then s else if cl_best (nI v) (nI y) (nI x) 10 0 = 0 then s else (s.1 + 1, if s.1 = 0 then [nL x, nL y] else s.2)
def r_y (v x : Nat) : Nat → Nat → Nat × List Int64 → Nat × List Int64
  | 0, _, s => s
  | n + 1, y, s => r_y v x n (y + 1) (r_1 v x y s)
def r_x (v : Nat) : Nat → Nat → Nat × List Int64 → Nat × List Int64
  | 0, _, s => s
  | n + 1, x, s => r_x v n (x + 1) (r_y v x 10 0 s)
theorem C_rest2 {K : wK} {v x : Nat} (hd : 2 ≤ d) (hv : v < 19) (hx : x < 10) (F : Nat × List Int64) (hK : ∀ M1 L1, F.1 ≤ 10 * (x + 1) → (F.1 = 0 → F.2 = []) → BC g ts F.2 M0 L0 M1 L1 → H119_23 d (nI v) (nI F.1) (nI (x + 1)) M1 L1 R K) : ∀ n y, y + n = 10 → ∀ {s : Nat × List Int64} {M : Nat → Nat → Int32} {ML : Nat → Nat → Int64}, s.1 ≤ 10 * x + y → (s.1 = 0 → s.2 = []) → BC g ts s.2 M0 L0 M ML → r_y v x n y s = F → H119_32 d (nI v) (nI s.1) (nI x) (nI y) M ML R K := by
  intro n
  induction n with
  | zero =>
    intro y hy s M ML hs hs0 h e2
    have e2 : s = F := e2
    subst e2
    exact h119_32 ⟨fun _ => by rw [nI_1]; exact hK M ML (by omega) hs0 h, fun z => absurd ((nI_leI (a := 10) (by decide) (by omega)).mpr (by omega)) z⟩
  | succ n ih =>
    intro y hy s M ML hs hs0 h e2
    rw [r_y, r_1] at e2
    refine h119_32 ⟨fun z => absurd ((nI_leI (a := 10) (by decide) (by omega)).mp z) (by omega), fun _ => ?_⟩
    have skip : r_y v x n (y + 1) s = F → H119_32 d (nI v) (nI s.1) (nI x) (nI y + 1) M ML R K := fun e => by
      rw [nI_1]
      exact ih (y + 1) (by omega) (by omega) hs0 h e
    refine wI_of (t_isBest _ (nI v) (nI x) (nI y)) (by omega) ⟨fun z => ?_, fun z => ?_⟩
    · rw [if_pos z] at e2; exact skip e2
    · rw [if_neg z] at e2
      refine wI_of (t_isBest _ (nI v) (nI y) (nI x)) (by omega) ⟨fun z2 => ?_, fun z2 => ?_⟩
      · rw [if_pos z2] at e2; exact skip e2
      · rw [if_neg z2] at e2
        by_cases y0 : s.1 = 0
        · have es := hs0 y0
          rw [if_pos y0] at e2
          refine ⟨fun w => absurd (by rw [y0]; rfl) w, fun _ => ?_⟩
          rw [es] at h
          refine B_add (by omega) h (by decide) _ (fun M1 L1 h1 f1 _ => ?_)
          refine B_add (by omega) h1 (by simp) _ (fun M2 L2 h2 f2 _ => ?_)
          rw [nI_1, nI_1]
          exact ih (y + 1) (by omega) (s := (s.1 + 1, [nL x, nL y])) (by dsimp only; omega) (fun w => absurd w (by dsimp only; omega)) h2 e2
        · rw [if_neg y0] at e2
          refine ⟨fun _ => ?_, fun w => absurd w (nI_ne0 (by omega) (by omega))⟩
          rw [nI_1, nI_1]
          exact ih (y + 1) (by omega) (s := (s.1 + 1, s.2)) (by dsimp only; omega) (fun w => absurd w (by dsimp only; omega)) h e2
theorem C_rest1 {v : Nat} (hd : 2 ≤ d) (hv : v < 19) : ∀ n x, x + n = 10 → ∀ {s : Nat × List Int64} {M : Nat → Nat → Int32} {ML : Nat → Nat → Int64}, s.1 ≤ 10 * x → (s.1 = 0 → s.2 = []) → BC g ts s.2 M0 L0 M ML → H119_23 d (nI v) (nI s.1) (nI x) M ML R (CQ (nI (r_x v n x s).1) (r_x v n x s).2 M0 L0 R) := by
  intro n
  induction n with
  | zero =>
    intro x hx s M ML hs hs0 h
    exact h119_23 ⟨fun _ => h.q, fun z => absurd ((nI_leI (a := 10) (by decide) (by omega)).mpr (by omega)) z⟩
  | succ n ih =>
    intro x hx s M ML hs hs0 h
    refine h119_23 ⟨fun z => absurd ((nI_leI (a := 10) (by decide) (by omega)).mp z) (by omega), fun _ => ?_⟩
    exact C_rest2 hd hv (by omega) (r_y v x 10 0 s) (fun M1 L1 b1 b2 h1 => ih (x + 1) (by omega) b1 b2 h1) 10 0 (by omega) (by omega) hs0 h rfl
theorem C_rests (hd : 2 ≤ d) (h : IC g un kp tx ts rw he sa M ML R) (w : Int32) : (∀ v, v ≤ 18 → w = nI v → wI (d + 1) 119 [.ref 0, .int w] M ML R (CQ (nI (r_x v 10 0 (0, [])).1) (r_x v 10 0 (0, [])).2 M ML R)) ∧ (w < 0 ∨ 18 < w → wI (d + 1) 119 [.ref 0, .int w] M ML R (CQ (-1) rw M ML R)) := by
  constructor
  · rintro v hv rfl
    refine w119 ⟨fun z => absurd z (nI_nneg (by omega)), fun _ => ⟨fun _ => ?_, fun z => absurd ((nI_leI (b := 18) (by omega) (by decide)).mpr hv) z⟩⟩
    refine B_clear (by omega) h.b (fun M1 h1 _ => ?_)
    exact C_rest1 hd (by omega) 10 0 (by omega) (s := (0, [])) (by dsimp only; omega) (fun _ => rfl) h1
  · intro z
    exact w119 ⟨fun _ => h.b.q, fun y => ⟨fun y2 => absurd y2 (Int32.not_le.mpr (z.resolve_left y)), fun _ => h.b.q⟩⟩
theorem R_best {K : wK} {v x y : Nat} (hd : 2 ≤ d) (hv : v < 19) (hx : x < 10) (hy : y < 10) (hK : K (cl_best (nI v) (nI x) (nI y) 10 0) M ML R) : wI d 224 [.int (nI x), .int (nI y), .int (nI v)] M ML R K := by
  refine wI_of (t_mbest _ (nI x) (nI y) (nI v) (best_n v hv x hx y hy) (fun k hk => best_n v hv k hk y hy)) hd ?_
  rw [(best_e v hv x hx y hy).1]
  exact hK
theorem R_rest2 {K : wK} {v x : Nat} (hd : 2 ≤ d) (hv : v < 19) (hx : x < 10) (F : Nat × List Int64) (hK : ∀ M1 L1, F.1 ≤ 10 * (x + 1) → (F.1 = 0 → F.2 = []) → BR g ts F.2 M0 L0 R0 M1 L1 R → H225_26 d (nI v) (nI F.1) (nI (x + 1)) M1 L1 R K) : ∀ n y, y + n = 10 → ∀ {s : Nat × List Int64} {M : Nat → Nat → Int32} {ML : Nat → Nat → Int64}, s.1 ≤ 10 * x + y → (s.1 = 0 → s.2 = []) → BR g ts s.2 M0 L0 R0 M ML R → r_y v x n y s = F → H225_35 d (nI v) (nI s.1) (nI x) (nI y) M ML R K := by
  intro n
  induction n with
  | zero =>
    intro y hy s M ML hs hs0 h e2
    have e2 : s = F := e2
    subst e2
    exact h225_35 ⟨fun _ => by rw [nI_1]; exact hK M ML (by omega) hs0 h, fun z => absurd ((nI_ltI (a := 9) (by decide) (by omega)).mpr (by omega)) z⟩
  | succ n ih =>
    intro y hy s M ML hs hs0 h e2
    rw [r_y, r_1] at e2
    refine h225_35 ⟨fun z => absurd ((nI_ltI (a := 9) (by decide) (by omega)).mp z) (by omega), fun _ => ?_⟩
    have skip : r_y v x n (y + 1) s = F → H225_35 d (nI v) (nI s.1) (nI x) (nI y + 1) M ML R K := fun e => by
      rw [nI_1]
      exact ih (y + 1) (by omega) (by omega) hs0 h e
    refine R_best hd hv hx (by omega) ⟨fun z => ?_, fun z => ?_⟩
    · rw [if_pos z] at e2; exact skip e2
    · rw [if_neg z] at e2
      refine R_best hd hv (by omega) hx ⟨fun z2 => ?_, fun z2 => ?_⟩
      · rw [if_neg z2] at e2
        by_cases y0 : s.1 = 0
        · have es := hs0 y0
          rw [if_pos y0] at e2
          refine ⟨fun w => absurd (by rw [y0]; rfl) w, fun _ => ?_⟩
          rw [es] at h
          refine B_tell (by omega) h (by decide) _ (fun M1 L1 h1 f1 _ => ?_)
          refine B_tell (by omega) h1 (by simp) _ (fun M2 L2 h2 f2 _ => ?_)
          rw [nI_1, nI_1]
          exact ih (y + 1) (by omega) (s := (s.1 + 1, [nL x, nL y])) (by dsimp only; omega) (fun w => absurd w (by dsimp only; omega)) h2 e2
        · rw [if_neg y0] at e2
          refine ⟨fun _ => ?_, fun w => absurd w (nI_ne0 (by omega) (by omega))⟩
          rw [nI_1, nI_1]
          exact ih (y + 1) (by omega) (s := (s.1 + 1, s.2)) (by dsimp only; omega) (fun w => absurd w (by dsimp only; omega)) h e2
      · rw [if_pos z2] at e2; exact skip e2
theorem R_rest1 {v : Nat} (hd : 2 ≤ d) (hv : v < 19) : ∀ n x, x + n = 10 → ∀ {s : Nat × List Int64} {M : Nat → Nat → Int32} {ML : Nat → Nat → Int64}, s.1 ≤ 10 * x → (s.1 = 0 → s.2 = []) → BR g ts s.2 M0 L0 R0 M ML R → H225_26 d (nI v) (nI s.1) (nI x) M ML R (RQ (nI (r_x v n x s).1) (r_x v n x s).2 M0 L0 R0) := by
  intro n
  induction n with
  | zero =>
    intro x hx s M ML hs hs0 h
    exact h225_26 ⟨fun _ => h.q, fun z => absurd ((nI_ltI (a := 9) (by decide) (by omega)).mpr (by omega)) z⟩
  | succ n ih =>
    intro x hx s M ML hs hs0 h
    refine h225_26 ⟨fun z => absurd ((nI_ltI (a := 9) (by decide) (by omega)).mp z) (by omega), fun _ => ?_⟩
    exact R_rest2 hd hv (by omega) (r_y v x 10 0 s) (fun M1 L1 b1 b2 h1 => ih (x + 1) (by omega) b1 b2 h1) 10 0 (by omega) (by omega) hs0 h rfl
theorem R_rests (hd : 2 ≤ d) (h : IR g un kp tx ts rw he sa M ML R) (w : Int32) : (∀ v, v ≤ 18 → w = nI v → wI (d + 1) 225 [.ref 219, .int w] M ML R (RQ (nI (r_x v 10 0 (0, [])).1) (r_x v 10 0 (0, [])).2 M ML R)) ∧ (w < 0 ∨ 18 < w → wI (d + 1) 225 [.ref 219, .int w] M ML R (RQ (-1) rw M ML R)) := by
  have hb := h.b.u (a := 219) (i := 5) (x := 0) (by omega)
  constructor
  · rintro v hv rfl
    refine w225 (fun M1 e1 => ?_)
    subst e1
    refine R_in (by omega) ?_
    rw [show md_in (nI v) 0 18 = 1 from in_y (lo := 0) (hi := 18) (by decide) (by omega) hv]
    refine ⟨fun _ M3 e3 => ?_, fun z => absurd z (by decide)⟩
    subst e3
    exact R_rest1 hd (by omega) 10 0 (by omega) (s := (0, [])) (by dsimp only; omega) (fun _ => rfl) hb.z
  · intro z
    refine w225 (fun M1 e1 => ?_)
    subst e1
    refine R_in (by omega) ?_
    rw [in_n z]
    exact ⟨fun y => absurd rfl y, fun _ => hb.q⟩
end game
