/-! what was seen -/
def fB (sa : List (Nat × Nat)) (e p : Nat) : Nat → Nat → Bool
  | 0, _ => true
  | n + 1, k => if p_rel e p (sa.getD k (0, 0)).1 = (sa.getD k (0, 0)).2 then fB sa e p n (k + 1) else false
def fBa (sa : List (Nat × Nat)) (e p : Nat) : Bool := fB sa e p sa.length 0
def w_e (sa : List (Nat × Nat)) (p : Nat) : Nat → Nat → Nat × List Int64 → Nat × List Int64
  | 0, _, s => s
  | n + 1, e, s => w_e sa p n (e + 1) (if fBa sa e p = true then (s.1 + 1, if s.1 = 0 then [nL p, nL e] else s.2) else s)
def w_p (sa : List (Nat × Nat)) : Nat → Nat → Nat × List Int64 → Nat × List Int64
  | 0, _, s => s
  | n + 1, p, s => w_p sa n (p + 1) (w_e sa p p 1 s)
abbrev ls : Type := (Nat → Int32) × Int32
def l_1 (sa : List (Nat × Nat)) (i e p : Nat) (s : ls) : ls := if fBa sa e p = true then (upd s.1 (p_rel e p i) (s.1 (p_rel e p i) + 1), jd_max s.2 (s.1 (p_rel e p i) + 1)) else s
def l_e (sa : List (Nat × Nat)) (i p : Nat) : Nat → Nat → ls → ls
  | 0, _, s => s
  | n + 1, e, s => l_e sa i p n (e + 1) (l_1 sa i e p s)
def l_p (sa : List (Nat × Nat)) (i : Nat) : Nat → Nat → ls → ls
  | 0, _, s => s
  | n + 1, p, s => l_p sa i n (p + 1) (l_e sa i p p 1 s)
def l_m (sa : List (Nat × Nat)) (i : Nat) : Int32 := (l_p sa i 12 1 (fun _ => 0, 0)).2
def l_k (sa : List (Nat × Nat)) : Nat → Nat → Option (Nat × Int32) → Option (Nat × Int32)
  | 0, _, x => x
  | n + 1, i, x => l_k sa n (i + 1) (match x with
    | none => some (i, l_m sa i)
    | some y => if y.2 ≤ l_m sa i then some y else some (i, l_m sa i))
def l_a (sa : List (Nat × Nat)) : Option (Nat × Int32) := l_k sa 12 1 none
def lsr (s t : ls) : Prop := (∀ j, j < 151 → s.1 j = t.1 j) ∧ s.2 = t.2
theorem rel_132 {e p i : Nat} (he : 1 ≤ e) (hp : p ≤ 12) (hi : i ≤ 12) : p_rel e p i ≤ 132 := by
  unfold p_rel
  have h1 := Nat.div_le_self ((i - 1) * p) e
  have h2 : (i - 1) * p ≤ 11 * 12 := Nat.mul_le_mul (by omega) hp
  omega
section sight
variable {d B b r : Nat} {g gk g' u : gr} {ts tx tx' t' : List Nat} {rw rw' : List Int64} {un un' : List gr} {kp kp' : Nat → Option gr} {he sa : List (Nat × Nat)} {M0 M M1 : Nat → Nat → Int32} {L0 ML L1 : Nat → Nat → Int64} {R0 R R1 : Nat → Nat → Option Nat}
theorem sa_get {k : Nat} (hh : ∀ p ∈ sa, 1 ≤ p.1 ∧ p.1 ≤ 12 ∧ p.2 ≤ 150) (hk : k < sa.length) : 1 ≤ (sa.getD k (0, 0)).1 ∧ (sa.getD k (0, 0)).1 ≤ 12 ∧ (sa.getD k (0, 0)).2 ≤ 150 := by
  have e : sa.getD k (0, 0) = sa[k] := by simp [List.getD_eq_getElem?_getD, hk]
  rw [e]
  exact hh _ (List.getElem_mem hk)
theorem c_sfit (hh : IS M sa) {e p : Nat} (he : 1 ≤ e) (he2 : e ≤ 12) (hp : p ≤ 12) : ∀ n k, k + n = sa.length → si_fit M (nI e) (nI p) n k = if fB sa e p n k = true then 1 else 0 := by
  obtain ⟨h1, h2, h3, h4⟩ := hh
  intro n
  induction n with
  | zero => intro k _; rfl
  | succ n ih =>
    intro k hk
    obtain ⟨x1, x2, x3⟩ := sa_get h2 (show k < sa.length by omega)
    obtain ⟨y1, y2⟩ := h4 k (by omega)
    have hr := rel_132 (i := (sa.getD k (0, 0)).1) he hp x2
    rw [si_fit, fB, y1, y2, n_rel he he2 hp x1 (by omega), ih (k + 1) (by omega)]
    by_cases z : p_rel e p (sa.getD k (0, 0)).1 = (sa.getD k (0, 0)).2
    · rw [if_pos z, z, if_pos rfl]
    · rw [if_neg z, if_neg (fun y => z ((nI_eq (by omega) (by omega)).mp y)), if_neg (by decide)]
theorem C_sfit {K : wK} (hd : 2 ≤ d) (hh : IS M sa) {e p : Nat} (he : 1 ≤ e) (he2 : e ≤ 12) (hp : p ≤ 12) (hK : K (if fBa sa e p = true then 1 else 0) M ML R) : wI d 32 [.ref 49, .int (nI e), .int (nI p)] M ML R K := by
  refine wI_of (t_fit (M, ML, R) sa.length hh.1 hh.2.2.1 (nI e) (nI p)) hd ?_
  dsimp only
  rw [c_sfit hh he he2 hp sa.length 0 (by omega)]
  exact hK
theorem BC_IS (h : IS M sa) (f : fr CT M M1) : IS M1 sa := IS_fr h (fun a i y => f a i (by omega))
theorem C_wei2 {K : wK} {p : Nat} (hd : 2 ≤ d) (hp1 : 1 ≤ p) (hp : p ≤ 12) (F : Nat × List Int64) (hK : ∀ M1 L1, F.1 ≤ 13 * (p + 1) + 1 → (F.1 = 0 → F.2 = []) → BC g ts F.2 M0 L0 M1 L1 → IS M1 sa → H115_11 d (nI F.1) (nI (p + 1)) M1 L1 R K) : ∀ n e, e + n = p + 1 → 1 ≤ e → ∀ {s : Nat × List Int64} {M : Nat → Nat → Int32} {ML : Nat → Nat → Int64}, s.1 ≤ 13 * p + e → (s.1 = 0 → s.2 = []) → BC g ts s.2 M0 L0 M ML → IS M sa → w_e sa p n e s = F → H115_19 d (nI s.1) (nI p) (nI e) M ML R K := by
  intro n
  induction n with
  | zero =>
    intro e he1 he s M ML hs hs0 h hi e2
    have e2 : s = F := e2
    subst e2
    exact h115_19 ⟨fun _ => by rw [nI_1]; exact hK M ML (by omega) hs0 h hi, fun z => absurd ((nI_ltI (by omega) (by omega)).mpr (by omega)) z⟩
  | succ n ih =>
    intro e he1 he s M ML hs hs0 h hi e2
    rw [w_e] at e2
    refine h115_19 ⟨fun z => absurd ((nI_ltI (by omega) (by omega)).mp z) (by omega), fun _ => ?_⟩
    refine C_sfit hd hi he (by omega) hp ?_
    rw [nI_1]
    by_cases z : fBa sa e p = true
    · rw [if_pos z]
      rw [if_pos z] at e2
      refine ⟨fun y => absurd y (by decide), fun _ => ?_⟩
      rw [nI_1]
      by_cases y : s.1 = 0
      · have es := hs0 y
        rw [if_pos y] at e2
        refine ⟨fun w => absurd (by rw [y]; rfl) w, fun _ => ?_⟩
        rw [es] at h
        refine B_add (by omega) h (by decide) _ (fun M1 L1 h1 f1 _ => ?_)
        refine B_add (by omega) h1 (by simp) _ (fun M2 L2 h2 f2 _ => ?_)
        exact ih (e + 1) (by omega) (by omega) (s := (s.1 + 1, [nL p, nL e])) (by dsimp only; omega) (fun w => absurd w (by dsimp only; omega)) h2 (IS_fr hi (fun a i y => by rw [f2 a i (by omega), f1 a i (by omega)])) e2
      · rw [if_neg y] at e2
        refine ⟨fun _ => ?_, fun w => absurd w (nI_ne0 (by omega) (by omega))⟩
        exact ih (e + 1) (by omega) (by omega) (s := (s.1 + 1, s.2)) (by dsimp only; omega) (fun w => absurd w (by dsimp only; omega)) h hi e2
    · rw [if_neg z]
      rw [if_neg z] at e2
      exact ⟨fun _ => ih (e + 1) (by omega) (by omega) (by omega) hs0 h hi e2, fun y => absurd rfl y⟩
theorem C_wei1 (hd : 2 ≤ d) : ∀ n p, p + n = 13 → 1 ≤ p → ∀ {s : Nat × List Int64} {M : Nat → Nat → Int32} {ML : Nat → Nat → Int64}, s.1 ≤ 13 * p + 1 → (s.1 = 0 → s.2 = []) → BC g ts s.2 M0 L0 M ML → IS M sa → H115_11 d (nI s.1) (nI p) M ML R (CQ (nI (w_p sa n p s).1) (w_p sa n p s).2 M0 L0 R) := by
  intro n
  induction n with
  | zero =>
    intro p hp hp1 s M ML hs hs0 h hi
    exact h115_11 ⟨fun _ => h.q, fun z => absurd ((nI_ltI (a := 12) (by decide) (by omega)).mpr (by omega)) z⟩
  | succ n ih =>
    intro p hp hp1 s M ML hs hs0 h hi
    refine h115_11 ⟨fun z => absurd ((nI_ltI (a := 12) (by decide) (by omega)).mp z) (by omega), fun _ => ?_⟩
    exact C_wei2 hd hp1 (by omega) (w_e sa p p 1 s) (fun M1 L1 b1 b2 h1 i1 => ih (p + 1) (by omega) (by omega) b1 b2 h1 i1) p 1 (by omega) (by omega) (by omega) hs0 h hi rfl
theorem C_weights (hd : 2 ≤ d) (h : IC g un kp tx ts rw he sa M ML R) : wI (d + 1) 115 [.ref 0] M ML R (CQ (nI (w_p sa 12 1 (0, [])).1) (w_p sa 12 1 (0, [])).2 M ML R) := by
  refine w115 (B_clear (by omega) h.b (fun M1 h1 f1 => ?_))
  exact C_wei1 hd 12 1 (by omega) (by omega) (s := (0, [])) (by dsimp only; omega) (fun _ => rfl) h1 (IS_fr h.2.2.2.2.2.2.2.1 (fun a i y => f1 a i (by omega)))
theorem m_iw (hj : JS M sa) (hh : ∀ p ∈ sa, 1 ≤ p.1 ∧ p.1 ≤ 12 ∧ p.2 ≤ 150) {e p : Nat} (he : 1 ≤ e) (he2 : e ≤ 12) (hp : p ≤ 12) : ∀ n k, k + n = sa.length → md_iw M (nI e) (nI p) n k = if fB sa e p n k = true then 1 else 0 := by
  obtain ⟨h3, h4⟩ := hj
  intro n
  induction n with
  | zero => intro k _; rfl
  | succ n ih =>
    intro k hk
    obtain ⟨x1, x2, x3⟩ := sa_get hh (show k < sa.length by omega)
    obtain ⟨y1, y2⟩ := h4 k (by omega)
    have hr := rel_132 (i := (sa.getD k (0, 0)).1) he hp x2
    have er : (nI (sa.getD k (0, 0)).1 - 1) * nI p / nI e = nI (p_rel e p (sa.getD k (0, 0)).1) := by
      have h2 : ((sa.getD k (0, 0)).1 - 1) * p ≤ 11 * 12 := Nat.mul_le_mul (by omega) hp
      rw [show nI (sa.getD k (0, 0)).1 - 1 = nI ((sa.getD k (0, 0)).1 - 1) from nI_sub (b := 1) x1, nI_mul, nI_div (by omega) (by omega)]
      rfl
    rw [md_iw, fB, y1, y2, er, ih (k + 1) (by omega)]
    by_cases z : p_rel e p (sa.getD k (0, 0)).1 = (sa.getD k (0, 0)).2
    · rw [if_pos z, z]
      first | rw [if_pos rfl] | rw [if_neg (fun y => y rfl)]
    · rw [if_neg z, if_neg (show ¬ false = true by decide)]
      first | rw [if_neg (show ¬ nI (p_rel e p (sa.getD k (0, 0)).1) = nI (sa.getD k (0, 0)).2 from fun y => z ((nI_eq (by omega) (by omega)).mp y))] | rw [if_pos (show ¬ nI (p_rel e p (sa.getD k (0, 0)).1) = nI (sa.getD k (0, 0)).2 from fun y => z ((nI_eq (by omega) (by omega)).mp y))]
theorem R_sfit {K : wK} (hd : 1 ≤ d) (hl : sa.length ≤ 10) (hj : JS M sa) (hh : ∀ p ∈ sa, 1 ≤ p.1 ∧ p.1 ≤ 12 ∧ p.2 ≤ 150) {e p : Nat} (he : 1 ≤ e) (he2 : e ≤ 12) (hp : p ≤ 12) (hK : K (if fBa sa e p = true then 1 else 0) M ML R) : wI d 217 [.ref 219, .int (nI e), .int (nI p)] M ML R K := by
  refine wI_of (t_misWeight (M, ML, R) sa.length hl hj.1 (nI e) (nI p) (nI_ne0 (by omega) (by omega))) hd ?_
  dsimp only
  rw [m_iw hj hh he he2 hp sa.length 0 (by omega)]
  exact hK
theorem R_wei2 {K : wK} {p : Nat} (hd : 1 ≤ d) (hl : sa.length ≤ 10) (hh : ∀ p ∈ sa, 1 ≤ p.1 ∧ p.1 ≤ 12 ∧ p.2 ≤ 150) (hp1 : 1 ≤ p) (hp : p ≤ 12) (F : Nat × List Int64) (hK : ∀ M1 L1, F.1 ≤ 13 * (p + 1) + 1 → (F.1 = 0 → F.2 = []) → BR g ts F.2 M0 L0 R0 M1 L1 R → JS M1 sa → H218_14 d (nI F.1) (nI (p + 1)) M1 L1 R K) : ∀ n e, e + n = p + 1 → 1 ≤ e → ∀ {s : Nat × List Int64} {M : Nat → Nat → Int32} {ML : Nat → Nat → Int64}, s.1 ≤ 13 * p + e → (s.1 = 0 → s.2 = []) → BR g ts s.2 M0 L0 R0 M ML R → JS M sa → w_e sa p n e s = F → H218_22 d (nI s.1) (nI p) (nI e) M ML R K := by
  intro n
  induction n with
  | zero =>
    intro e he1 he s M ML hs hs0 h hi e2
    have e2 : s = F := e2
    subst e2
    exact h218_22 ⟨fun _ => by rw [nI_1]; exact hK M ML (by omega) hs0 h hi, fun z => absurd ((nI_ltI (by omega) (by omega)).mpr (by omega)) z⟩
  | succ n ih =>
    intro e he1 he s M ML hs hs0 h hi e2
    rw [w_e] at e2
    refine h218_22 ⟨fun z => absurd ((nI_ltI (by omega) (by omega)).mp z) (by omega), fun _ => ?_⟩
    refine R_sfit hd hl hi hh he (by omega) hp ?_
    rw [nI_1]
    by_cases z : fBa sa e p = true
    · rw [if_pos z]
      rw [if_pos z] at e2
      refine ⟨fun _ => ?_, fun y => absurd y (by decide)⟩
      rw [nI_1]
      by_cases y : s.1 = 0
      · have es := hs0 y
        rw [if_pos y] at e2
        refine ⟨fun w => absurd (by rw [y]; rfl) w, fun _ => ?_⟩
        rw [es] at h
        refine B_tell (by omega) h (by decide) _ (fun M1 L1 h1 f1 _ => ?_)
        refine B_tell (by omega) h1 (by simp) _ (fun M2 L2 h2 f2 _ => ?_)
        exact ih (e + 1) (by omega) (by omega) (s := (s.1 + 1, [nL p, nL e])) (by dsimp only; omega) (fun w => absurd w (by dsimp only; omega)) h2 (JS_fr hi (fun a i y => by rw [f2 a i (by omega), f1 a i (by omega)])) e2
      · rw [if_neg y] at e2
        refine ⟨fun _ => ?_, fun w => absurd w (nI_ne0 (by omega) (by omega))⟩
        exact ih (e + 1) (by omega) (by omega) (s := (s.1 + 1, s.2)) (by dsimp only; omega) (fun w => absurd w (by dsimp only; omega)) h hi e2
    · rw [if_neg z]
      rw [if_neg z] at e2
      exact ⟨fun y => absurd rfl y, fun _ => by rw [nI_1]; exact ih (e + 1) (by omega) (by omega) (by omega) hs0 h hi e2⟩
theorem R_wei1 (hd : 1 ≤ d) (hl : sa.length ≤ 10) (hh : ∀ p ∈ sa, 1 ≤ p.1 ∧ p.1 ≤ 12 ∧ p.2 ≤ 150) : ∀ n p, p + n = 13 → 1 ≤ p → ∀ {s : Nat × List Int64} {M : Nat → Nat → Int32} {ML : Nat → Nat → Int64}, s.1 ≤ 13 * p + 1 → (s.1 = 0 → s.2 = []) → BR g ts s.2 M0 L0 R0 M ML R → JS M sa → H218_14 d (nI s.1) (nI p) M ML R (RQ (nI (w_p sa n p s).1) (w_p sa n p s).2 M0 L0 R0) := by
  intro n
  induction n with
  | zero =>
    intro p hp hp1 s M ML hs hs0 h hi
    exact h218_14 ⟨fun _ => h.q, fun z => absurd ((nI_ltI (a := 12) (by decide) (by omega)).mpr (by omega)) z⟩
  | succ n ih =>
    intro p hp hp1 s M ML hs hs0 h hi
    refine h218_14 ⟨fun z => absurd ((nI_ltI (a := 12) (by decide) (by omega)).mp z) (by omega), fun _ => ?_⟩
    exact R_wei2 hd hl hh hp1 (by omega) (w_e sa p p 1 s) (fun M1 L1 b1 b2 h1 i1 => ih (p + 1) (by omega) (by omega) b1 b2 h1 i1) p 1 (by omega) (by omega) (by omega) hs0 h hi rfl
theorem R_weights (hd : 1 ≤ d) (hl : sa.length ≤ 10) (hh : ∀ p ∈ sa, 1 ≤ p.1 ∧ p.1 ≤ 12 ∧ p.2 ≤ 150) (h : IR g un kp tx ts rw he sa M ML R) : wI (d + 1) 218 [.ref 219] M ML R (RQ (nI (w_p sa 12 1 (0, [])).1) (w_p sa 12 1 (0, [])).2 M ML R) := by
  have hb := h.b.u (a := 219) (i := 5) (x := 0) (by omega)
  refine w218 (fun M1 e1 M2 e2 => ?_)
  subst e1 e2
  refine R_wei1 hd hl hh 12 1 (by omega) (by omega) (s := (0, [])) (by dsimp only; omega) (fun _ => rfl) hb.z (JS_fr h.2.2.2.2.2.2 (fun a i y => ?_))
  exact (fr_u2 (S := fun a i => a = 219 ∧ (i = 4 ∨ i = 5)) (fr_u (by omega)) (by omega)) a i (by omega)
/-! looks -/
theorem l_1r {s t : ls} {i e p : Nat} (hs : lsr s t) (he : 1 ≤ e) (hp : p ≤ 12) (hi : i ≤ 12) : lsr (l_1 sa i e p s) (l_1 sa i e p t) := by
  have hr := rel_132 he hp hi
  unfold l_1
  by_cases z : fBa sa e p = true
  · rw [if_pos z, if_pos z]
    refine ⟨fun j hj => ?_, ?_⟩
    · dsimp only
      by_cases y : j = p_rel e p i
      · subst y; rw [upd_same, upd_same, hs.1 _ (by omega)]
      · rw [upd_ne y, upd_ne y, hs.1 j hj]
    · dsimp only
      rw [hs.2, hs.1 _ (by omega)]
  · rw [if_neg z, if_neg z]
    exact hs
theorem c_s1 (hh : IS M sa) {i e p : Nat} (he : 1 ≤ e) (he2 : e ≤ 12) (hp : p ≤ 12) (hi : 1 ≤ i) (hi2 : i ≤ 12) (s : ls) : si_1 M sa.length (nI i) e p s = l_1 sa i e p s := by
  have hr := rel_132 he hp hi2
  unfold si_1
  dsimp only
  rw [n_rel he he2 hp hi (by omega), if_neg (nI_nneg (by omega)), if_neg (show ¬ (150 : Int32) < nI (p_rel e p i) from fun y => absurd ((nI_ltI (a := 150) (by decide) (by omega)).mp y) (by omega)), c_sfit hh he he2 hp sa.length 0 (by omega), nI_clamp (by omega), l_1]
  show (if (if fBa sa e p = true then (1 : Int32) else 0) = 0 then s else _) = _
  by_cases z : fBa sa e p = true
  · rw [if_pos z, if_pos z, if_neg (by decide)]
  · rw [if_neg z, if_neg z, if_pos rfl]
theorem c_se (hh : IS M sa) {i p : Nat} (hp : p ≤ 12) (hi : 1 ≤ i) (hi2 : i ≤ 12) : ∀ n e, 1 ≤ e → e + n ≤ 13 → ∀ s, si_e M sa.length (nI i) p n e s = l_e sa i p n e s := by
  intro n
  induction n with
  | zero => intro e _ _ s; rfl
  | succ n ih => intro e he he2 s; rw [si_e, l_e, c_s1 hh he (by omega) hp hi hi2, ih (e + 1) (by omega) (by omega)]
theorem c_sp (hh : IS M sa) {i : Nat} (hi : 1 ≤ i) (hi2 : i ≤ 12) : ∀ n p, 1 ≤ p → p + n ≤ 13 → ∀ s, si_p M sa.length (nI i) n p s = l_p sa i n p s := by
  intro n
  induction n with
  | zero => intro p _ _ s; rfl
  | succ n ih => intro p hp hp2 s; rw [si_p, l_p, c_se hh (by omega) hi hi2 p 1 (by omega) (by omega), ih (p + 1) (by omega) (by omega)]
theorem l_er {i p : Nat} (hp : p ≤ 12) (hi : i ≤ 12) : ∀ n e, 1 ≤ e → ∀ {s t : ls}, lsr s t → lsr (l_e sa i p n e s) (l_e sa i p n e t) := by
  intro n
  induction n with
  | zero => intro e _ s t h; exact h
  | succ n ih => intro e he s t h; exact ih (e + 1) (by omega) (l_1r h he hp hi)
theorem l_pr {i : Nat} (hi : i ≤ 12) : ∀ n p, p + n ≤ 13 → ∀ {s t : ls}, lsr s t → lsr (l_p sa i n p s) (l_p sa i n p t) := by
  intro n
  induction n with
  | zero => intro p _ s t h; exact h
  | succ n ih => intro p hp s t h; exact ih (p + 1) (by omega) (l_er (by omega) hi p 1 (by omega) h)
theorem C_alike {K : wK} {i : Nat} (hd : 3 ≤ d) (h : BC g ts rw M0 L0 M ML) (hh : IS M sa) (hi : 1 ≤ i) (hi2 : i ≤ 12) (hK : ∀ M1, BC g ts rw M0 L0 M1 ML → IS M1 sa → K (l_m sa i) M1 ML R) : wI d 33 [.ref 49, .int (nI i)] M ML R K := by
  have t := t_mostAlike M ML R sa.length hh.1 hh.2.2.1 (nI i)
  have e : (si_ma M sa.length (nI i)).2 = l_m sa i := by
    rw [si_ma, c_sp hh hi hi2 12 1 (by omega) (by omega)]
    exact (l_pr hi2 12 1 (by omega) (s := (jd_fi (M 52) 151 0, 0)) (t := (fun _ => 0, 0)) ⟨fun j hj => by dsimp only; rw [jd_fi, if_pos hj], rfl⟩).2
  rw [e] at t
  have f : fr (fun a _ => a = 52) M (fm_row M 52 (si_ma M sa.length (nI i)).1) := fr_row (fun _ => rfl)
  exact wI_of t hd (hK _ (h.f (f.mono (fun a i z => by omega))) (IS_fr hh (fun a i y => f a i (by omega))))
def lkb (x : Option (Nat × Int32)) : Int32 := match x with
  | none => -1
  | some y => nI y.1
def lkl (m : Int32) (x : Option (Nat × Int32)) : Int32 := match x with
  | none => m
  | some y => y.2
def lkA (x : Option (Nat × Int32)) : Int32 := match x with
  | none => -2
  | some y => if y.2 = 0 then -2 else nI y.1
def lkW (rw : List Int64) (x : Option (Nat × Int32)) : List Int64 := match x with
  | none => rw
  | some y => if y.2 = 0 then rw else [y.2.toInt64]
theorem C_looks1 (hd : 3 ≤ d) : ∀ n i, i + n = 13 → 1 ≤ i → ∀ {x : Option (Nat × Int32)} {M : Nat → Nat → Int32}, (∀ y, x = some y → y.1 ≤ 12) → (i = 13 → ∃ y, x = some y) → BC g ts rw M0 L0 M ML → IS M sa → H116_6 d (lkb x) (lkl 0 x) (nI i) M ML R (CQ (lkA (l_k sa n i x)) (lkW rw (l_k sa n i x)) M0 L0 R) := by
  intro n
  induction n with
  | zero =>
    intro i hi hi1 x M hx hs h hh
    refine h116_6 ⟨fun _ => ?_, fun z => absurd ((nI_ltI (a := 12) (by decide) (by omega)).mpr (by omega)) z⟩
    obtain ⟨y, rfl⟩ := hs (by omega)
    show (¬ y.2 = 0 → _) ∧ (y.2 = 0 → _)
    rw [l_k, lkA, lkW]
    refine ⟨fun z => ?_, fun z => ?_⟩
    · rw [if_neg z, if_neg z]
      refine B_clear (by omega) h (fun M1 h1 f1 => ?_)
      refine B_add (by omega) h1 (by decide) _ (fun M2 L2 h2 _ _ => ?_)
      exact h2.q
    · rw [if_pos z, if_pos z]
      exact h.q
  | succ n ih =>
    intro i hi hi1 x M hx hs h hh
    refine h116_6 ⟨fun z => absurd ((nI_ltI (a := 12) (by decide) (by omega)).mp z) (by omega), fun _ => ?_⟩
    refine C_alike hd h hh hi1 (by omega) (fun M1 h1 i1 => ?_)
    rw [nI_1]
    have new := ih (i + 1) (by omega) (by omega) (x := some (i, l_m sa i)) (fun y e => by cases e; dsimp only; omega) (fun _ => ⟨_, rfl⟩) h1 i1
    cases x with
    | none => exact ⟨fun _ => new, fun y => absurd rfl y⟩
    | some y =>
      have hy := hx y rfl
      refine ⟨fun z => absurd (show nI y.1 = -1 from z) (nI_nm1 (by omega)), fun _ => ?_⟩
      show (y.2 ≤ _ → _) ∧ (¬ y.2 ≤ _ → _)
      rw [l_k]
      refine ⟨fun z => ?_, fun z => ?_⟩
      · rw [if_pos z]
        exact ih (i + 1) (by omega) (by omega) (x := some y) hx (fun _ => ⟨_, rfl⟩) h1 i1
      · rw [if_neg z]
        exact new
theorem C_looks (hd : 3 ≤ d) (h : IC g un kp tx ts rw he sa M ML R) : wI (d + 1) 116 [.ref 0] M ML R (CQ (lkA (l_a sa)) (lkW rw (l_a sa)) M ML R) :=
  w116 (C_looks1 hd 12 1 (by omega) (by omega) (x := none) (fun y e => by cases e) (fun y => absurd y (by omega)) h.b h.2.2.2.2.2.2.2.1)
end sight
