/-! lags: the greatest and the least so far -/
abbrev es : Type := Int32 × Int32 × Int64 × Int64 × Int64 × Int64
def e_a (s : es) (t k : Int32) (u l : Int64) : es := if lg_cmp (u * s.2.2.2.1) (s.2.2.1 * l) ≤ 0 then s else (t, k, u, l, s.2.2.2.2.1, s.2.2.2.2.2)
def e_b (s : es) (u l : Int64) : es := if 0 ≤ lg_cmp (u * s.2.2.2.2.2) (s.2.2.2.2.1 * l) then s else (s.1, s.2.1, s.2.2.1, s.2.2.2.1, u, l)
def e_tk (s : es) (t k : Int32) (u l : Int64) : es := if s.1 = -1 then (t, k, u, l, u, l) else e_b (e_a s t k u l) u l
def eb1 (u l : Int64) : Prop := u.toInt.natAbs < 2 ^ 62 ∧ 0 < l.toInt ∧ l.toInt < 2 ^ 48
def eb (s : es) : Prop := eb1 s.2.2.1 s.2.2.2.1 ∧ eb1 s.2.2.2.2.1 s.2.2.2.2.2
theorem e_a_ok {s : es} {t k : Int32} {u l : Int64} (hs : eb s) (h : eb1 u l) : eb (e_a s t k u l) := by
  unfold e_a
  split
  · exact hs
  · exact ⟨h, hs.2⟩
theorem e_b_ok {s : es} {u l : Int64} (hs : eb s) (h : eb1 u l) : eb (e_b s u l) := by
  unfold e_b
  split
  · exact hs
  · exact ⟨hs.1, h⟩
theorem e_tk_ok {s : es} {t k : Int32} {u l : Int64} (hs : eb s) (h : eb1 u l) : eb (e_tk s t k u l) := by
  unfold e_tk
  split
  · exact ⟨h, h⟩
  · exact e_b_ok (e_a_ok hs h) h
theorem e_b_1 {s : es} {u l : Int64} : (e_b s u l).1 = s.1 := by
  unfold e_b
  split <;> rfl
theorem e_tk_ne {s : es} {t k : Int32} {u l : Int64} (ht : ¬ t = -1) : ¬ (e_tk s t k u l).1 = -1 := by
  unfold e_tk
  split
  · exact ht
  next z =>
    rw [e_b_1]
    unfold e_a
    split
    · exact z
    · exact ht
def q_l1 (gk : gr) (kk : Int32) : Nat → Nat → es → es
  | 0, _, s => s
  | n + 1, q, s => q_l1 gk kk n (q + 1) (if 0 < gk q then e_tk s (nI q) kk (lgI gk q).toInt64 (nL (gk (8 + q))) else s)
def q_ls (ts : List Nat) : Nat → Nat → gr → es → es
  | 0, _, _, s => s
  | n + 1, k, gk, s => q_ls ts n (k + 1) (g_go gk ts (-1)) (q_l1 (g_go gk ts (-1)) (nI k) 8 0 s)
theorem lg_eb {gk : gr} {B q : Nat} (hg : gok gk B) (hq : q < 8) (h0 : 0 < gk q) : eb1 (lgI gk q).toInt64 (nL (gk (8 + q))) := by
  have hl := hg.lo hq
  have hl0 := (hg.lo0 hq).mpr h0
  unfold eb1 nL
  rw [Int32.toInt_toInt64, Int32.toInt_toInt64, nI_toInt (by omega)]
  have := (lgI gk q).toInt_lt
  have := (lgI gk q).le_toInt
  omega
theorem q_l1_ok {gk : gr} {B : Nat} (hg : gok gk B) {kk : Int32} : ∀ n q s, q + n ≤ 8 → eb s → eb (q_l1 gk kk n q s) := by
  intro n
  induction n with
  | zero => intro q s _ h; exact h
  | succ n ih =>
    intro q s hq h
    refine ih (q + 1) _ (by omega) ?_
    by_cases z : 0 < gk q
    · rw [if_pos z]; exact e_tk_ok h (lg_eb hg (by omega) z)
    · rw [if_neg z]; exact h
theorem q_l1_ne {gk : gr} {kk : Int32} : ∀ n q s, q + n ≤ 8 → (¬ s.1 = -1 ∨ ∃ p, q ≤ p ∧ p < q + n ∧ 0 < gk p) → ¬ (q_l1 gk kk n q s).1 = -1 := by
  intro n
  induction n with
  | zero =>
    intro q s _ h
    rcases h with h | ⟨p, h1, h2, _⟩
    · exact h
    · omega
  | succ n ih =>
    intro q s hq h
    refine ih (q + 1) _ (by omega) ?_
    by_cases z : 0 < gk q
    · rw [if_pos z]
      exact Or.inl (e_tk_ne (nI_nm1 (by omega)))
    · rw [if_neg z]
      rcases h with h | ⟨p, h1, h2, h3⟩
      · exact Or.inl h
      · refine Or.inr ⟨p, ?_, by omega, h3⟩
        rcases Nat.eq_or_lt_of_le h1 with y | y
        · subst y; exact absurd h3 z
        · exact y
theorem fm_ul_at {M : Nat → Nat → Int64} {a i : Nat} {x : Int64} : fm_ul M a i x a i = x := by simp [fm_ul, vp_updL]
theorem fm_ul_ix {M : Nat → Nat → Int64} {a i j : Nat} {x : Int64} (h : ¬ j = i) : fm_ul M a i x a j = M a j := by simp [fm_ul, vp_updL, h]
theorem fr_ul {S : Nat → Nat → Prop} {M : Nat → Nat → Int64} {a i : Nat} {x : Int64} (h : S a i) : fr S M (fm_ul M a i x) := fun c j z => by
  by_cases e : c = a
  · subst e
    exact fm_ul_ix (fun e2 => z (by subst e2; exact h))
  · rw [fm_ul_off e]
/-- the class's extremes -/
def er (M : Nat → Nat → Int32) (ML : Nat → Nat → Int64) (s : es) : Prop := M 53 0 = s.1 ∧ (¬ s.1 = -1 → M 53 1 = s.2.1 ∧ ML 53 2 = s.2.2.1 ∧ ML 53 3 = s.2.2.2.1 ∧ ML 53 4 = s.2.2.2.2.1 ∧ ML 53 5 = s.2.2.2.2.2)
section lags
variable {d B : Nat} {g gk : gr} {ts tx : List Nat} {rw : List Int64} {un : List gr} {kp : Nat → Option gr} {he sa : List (Nat × Nat)} {M0 M : Nat → Nat → Int32} {L0 ML : Nat → Nat → Int64} {R0 R : Nat → Nat → Option Nat}
theorem er_a {s : es} {t k : Int32} {u l : Int64} (h : er M ML s) (hs : ¬ s.1 = -1) (ht : ¬ t = -1) : er (fm_u (fm_u M 53 0 t) 53 1 k) (fm_ul (fm_ul ML 53 2 u) 53 3 l) (t, k, u, l, s.2.2.2.2.1, s.2.2.2.2.2) := by
  obtain ⟨e1, e2⟩ := h
  obtain ⟨a1, a2, a3, a4, a5⟩ := e2 hs
  refine ⟨by rw [fm_u_ix (by decide), fm_u_at], fun _ => ⟨fm_u_at, ?_, fm_ul_at, ?_, ?_⟩⟩
  · rw [fm_ul_ix (by decide), fm_ul_at]
  · rw [fm_ul_ix (by decide), fm_ul_ix (by decide)]; exact a4
  · rw [fm_ul_ix (by decide), fm_ul_ix (by decide)]; exact a5
theorem er_b {s : es} {u l : Int64} (h : er M ML s) (hs : ¬ s.1 = -1) : er M (fm_ul (fm_ul ML 53 4 u) 53 5 l) (s.1, s.2.1, s.2.2.1, s.2.2.2.1, u, l) := by
  obtain ⟨e1, e2⟩ := h
  obtain ⟨a1, a2, a3, a4, a5⟩ := e2 hs
  refine ⟨e1, fun _ => ⟨a1, ?_, ?_, ?_, fm_ul_at⟩⟩
  · rw [fm_ul_ix (by decide), fm_ul_ix (by decide)]; exact a2
  · rw [fm_ul_ix (by decide), fm_ul_ix (by decide)]; exact a3
  · rw [fm_ul_ix (by decide), fm_ul_at]
theorem ex_1 {S : fm_S} {t k : Int32} {u l : Int64} (h : S.1 53 0 = -1) : ex_take S t k u l = ex_b (ex_a S t k u l) u l := by
  unfold ex_take
  rw [if_pos h]
theorem ex_2 {S : fm_S} {t k : Int32} {u l : Int64} (h : ¬ S.1 53 0 = -1) (y : lg_cmp (u * S.2.1 53 3) (S.2.1 53 2 * l) ≤ 0) : ex_take S t k u l = if 0 ≤ lg_cmp (u * S.2.1 53 5) (S.2.1 53 4 * l) then S else ex_b S u l := by
  unfold ex_take
  rw [if_neg h]
  simp only [y, if_true]
theorem ex_3 {S : fm_S} {t k : Int32} {u l : Int64} (h : ¬ S.1 53 0 = -1) (y : ¬ lg_cmp (u * S.2.1 53 3) (S.2.1 53 2 * l) ≤ 0) : ex_take S t k u l = if 0 ≤ lg_cmp (u * (ex_a S t k u l).2.1 53 5) ((ex_a S t k u l).2.1 53 4 * l) then ex_a S t k u l else ex_b (ex_a S t k u l) u l := by
  unfold ex_take
  rw [if_neg h]
  simp only [y, if_false]
theorem C_take {K : wKv} {s : es} {t k : Int32} {u l : Int64} (hd : 1 ≤ d) (h : BC g ts rw M0 L0 M ML) (he : er M ML s) (ht : ¬ t = -1) (hK : ∀ M1 L1, BC g ts rw M0 L0 M1 L1 → er M1 L1 (e_tk s t k u l) → fr (fun a _ => a = 53) M M1 → K M1 L1 R) : wV d 1 [.ref 53, .int t, .int k, .long u, .long l] M ML R K := by
  have t1 := t_etake (M, ML, R) t k u l
  have fa : ∀ M : Nat → Nat → Int32, fr (fun a _ => a = 53) M (fm_u (fm_u M 53 0 t) 53 1 k) := fun M => fr_u2 (fr_u rfl) rfl
  have fl : ∀ (ML : Nat → Nat → Int64) i j, fr (fun a _ => a = 53 ∨ a = 62) ML (fm_ul (fm_ul ML 53 i u) 53 j l) := fun ML i j => (fr_ul (Or.inl rfl)).tr (fr_ul (Or.inl rfl))
  by_cases z : s.1 = -1
  · rw [ex_1 (S := (M, ML, R)) (t := t) (k := k) (u := u) (l := l) (show M 53 0 = -1 by rw [he.1]; exact z)] at t1
    have e : e_tk s t k u l = (t, k, u, l, u, l) := by unfold e_tk; rw [if_pos z]
    rw [e] at hK
    have t1 : mj_big 1 1 [.ref 53, .int t, .int k, .long u, .long l] (fm_mk (M, ML, R)) none (fm_mk (fm_u (fm_u M 53 0 t) 53 1 k, fm_ul (fm_ul (fm_ul (fm_ul ML 53 2 u) 53 3 l) 53 4 u) 53 5 l, R)) := t1
    refine wV_of t1 hd (hK _ _ ((h.f ((fa M).mono (fun a i z => by omega))).frl ((fl _ 2 3).tr (fl _ 4 5))) ⟨by rw [fm_u_ix (by decide), fm_u_at], fun _ => ⟨fm_u_at, ?_, ?_, ?_, fm_ul_at⟩⟩ (fa M))
    · rw [fm_ul_ix (by decide), fm_ul_ix (by decide), fm_ul_ix (by decide), fm_ul_at]
    · rw [fm_ul_ix (by decide), fm_ul_ix (by decide), fm_ul_at]
    · rw [fm_ul_ix (by decide), fm_ul_at]
  · obtain ⟨a1, a2, a3, a4, a5⟩ := he.2 z
    have z' : ¬ M 53 0 = -1 := by rw [he.1]; exact z
    have e : e_tk s t k u l = e_b (e_a s t k u l) u l := by unfold e_tk; rw [if_neg z]
    rw [e] at hK
    by_cases y : lg_cmp (u * s.2.2.2.1) (s.2.2.1 * l) ≤ 0
    · rw [ex_2 (S := (M, ML, R)) (t := t) (k := k) (u := u) (l := l) z' (show lg_cmp (u * ML 53 3) (ML 53 2 * l) ≤ 0 by rw [a2, a3]; exact y)] at t1
      have e2 : e_a s t k u l = s := by unfold e_a; rw [if_pos y]
      rw [e2] at hK
      by_cases x : 0 ≤ lg_cmp (u * s.2.2.2.2.2) (s.2.2.2.2.1 * l)
      · rw [if_pos (show 0 ≤ lg_cmp (u * ML 53 5) (ML 53 4 * l) by rw [a4, a5]; exact x)] at t1
        have e3 : e_b s u l = s := by unfold e_b; rw [if_pos x]
        rw [e3] at hK
        exact wV_of t1 hd (hK _ _ h he fr.rfl)
      · rw [if_neg (show ¬ 0 ≤ lg_cmp (u * ML 53 5) (ML 53 4 * l) by rw [a4, a5]; exact x)] at t1
        have e3 : e_b s u l = (s.1, s.2.1, s.2.2.1, s.2.2.2.1, u, l) := by unfold e_b; rw [if_neg x]
        rw [e3] at hK
        have t1 : mj_big 1 1 [.ref 53, .int t, .int k, .long u, .long l] (fm_mk (M, ML, R)) none (fm_mk (M, fm_ul (fm_ul ML 53 4 u) 53 5 l, R)) := t1
        exact wV_of t1 hd (hK _ _ (h.frl (fl _ 4 5)) (er_b he z) fr.rfl)
    · rw [ex_3 (S := (M, ML, R)) (t := t) (k := k) (u := u) (l := l) z' (show ¬ lg_cmp (u * ML 53 3) (ML 53 2 * l) ≤ 0 by rw [a2, a3]; exact y)] at t1
      have e2 : e_a s t k u l = (t, k, u, l, s.2.2.2.2.1, s.2.2.2.2.2) := by unfold e_a; rw [if_neg y]
      rw [e2] at hK
      have he2 := er_a (t := t) (k := k) (u := u) (l := l) he z ht
      have h2 := (h.f ((fa M).mono (fun a i z => by omega))).frl (fl ML 2 3)
      have b5 : (ex_a (M, ML, R) t k u l).2.1 53 5 = s.2.2.2.2.2 := (he2.2 ht).2.2.2.2
      have b4 : (ex_a (M, ML, R) t k u l).2.1 53 4 = s.2.2.2.2.1 := (he2.2 ht).2.2.2.1
      by_cases x : 0 ≤ lg_cmp (u * s.2.2.2.2.2) (s.2.2.2.2.1 * l)
      · rw [if_pos (show 0 ≤ lg_cmp (u * (ex_a (M, ML, R) t k u l).2.1 53 5) ((ex_a (M, ML, R) t k u l).2.1 53 4 * l) by rw [b4, b5]; exact x)] at t1
        have e3 : e_b (t, k, u, l, s.2.2.2.2.1, s.2.2.2.2.2) u l = (t, k, u, l, s.2.2.2.2.1, s.2.2.2.2.2) := by unfold e_b; rw [if_pos x]
        rw [e3] at hK
        have t1 : mj_big 1 1 [.ref 53, .int t, .int k, .long u, .long l] (fm_mk (M, ML, R)) none (fm_mk (fm_u (fm_u M 53 0 t) 53 1 k, fm_ul (fm_ul ML 53 2 u) 53 3 l, R)) := t1
        exact wV_of t1 hd (hK _ _ h2 he2 (fa M))
      · rw [if_neg (show ¬ 0 ≤ lg_cmp (u * (ex_a (M, ML, R) t k u l).2.1 53 5) ((ex_a (M, ML, R) t k u l).2.1 53 4 * l) by rw [b4, b5]; exact x)] at t1
        have e3 : e_b (t, k, u, l, s.2.2.2.2.1, s.2.2.2.2.2) u l = (t, k, u, l, u, l) := by unfold e_b; rw [if_neg x]
        rw [e3] at hK
        have t1 : mj_big 1 1 [.ref 53, .int t, .int k, .long u, .long l] (fm_mk (M, ML, R)) none (fm_mk (fm_u (fm_u M 53 0 t) 53 1 k, fm_ul (fm_ul (fm_ul (fm_ul ML 53 2 u) 53 3 l) 53 4 u) 53 5 l, R)) := t1
        exact wV_of t1 hd (hK _ _ (h2.frl (fl _ 4 5)) (er_b he2 ht) (fa M))
def q_lsW (s : es) : List Int64 := [s.2.1.toInt64] ++ fW s.2.2.1 s.2.2.2.1 ++ fW s.2.2.2.2.1 s.2.2.2.2.2
theorem C_lags2 {K : wK} {N k : Nat} (hd : 5 ≤ d) (hg : gok gk B) (F : es) (hK : ∀ M1 L1, BC g ts rw M0 L0 M1 L1 → cr M1 23 gk → er M1 L1 F → H103_46 d (nI N) (nI k + 1) M1 L1 R K) : ∀ n q, q + n = 8 → ∀ {s : es} {M : Nat → Nat → Int32} {ML : Nat → Nat → Int64}, BC g ts rw M0 L0 M ML → cr M 23 gk → er M ML s → q_l1 gk (nI k) n q s = F → H103_65 d (nI N) (nI k) (nI q) M ML R K := by
  intro n
  induction n with
  | zero =>
    intro q hq s M ML h hc he e
    have e : s = F := e
    subst e
    exact h103_65 ⟨fun _ => hK M ML h hc he, fun z => absurd ((nI_leI (a := 8) (by decide) (by omega)).mpr (by omega)) z⟩
  | succ n ih =>
    intro q hq s M ML h hc he e
    rw [q_l1] at e
    refine h103_65 ⟨fun z => absurd ((nI_leI (a := 8) (by decide) (by omega)).mp z) (by omega), fun _ => ?_⟩
    rw [nI_1]
    refine C_th fm_W23 (by omega) hc hg _ (fun q' hq' e' z1 => ?_) (fun z1 => ?_)
    · have := nI_inj8 (by omega) hq' e'
      subst this
      rw [if_pos z1] at e
      refine ⟨fun y => absurd y (by decide), fun _ => ?_⟩
      refine C_lag fm_W23 (by omega) hc hq' z1 ⟨q, rfl, hq', ?_⟩
      have e3 : M 25 q = nI (gk (8 + q)) := (hc.2.2.2 q hq').1
      rw [e3]
      exact C_take (by omega) h he (nI_nm1 (by omega)) (fun M1 L1 h1 e1 f1 => ih (q + 1) (by omega) h1 (cr_fr hc (fun a i y1 y2 _ => f1 a i (by omega))) e1 e)
    · rw [if_neg (fun y => z1 ((th_nI (by omega)).mpr y))] at e
      exact ⟨fun _ => ih (q + 1) (by omega) h hc he e, fun y => absurd rfl y⟩
theorem C_lags1 (hd : 5 ≤ d) (hts : tsok ts) {N p : Nat} (hN : N ≤ 60) (hp : p < 8) (h0 : 0 < g p) : ∀ n k, k + n = N + 1 → ∀ {B : Nat} {gk : gr} {s : es} {M : Nat → Nat → Int32} {ML : Nat → Nat → Int64}, B + n < 2 ^ 21 → gok gk B → gk p = g p → eb s → (k = N + 1 → ¬ s.1 = -1) → BC g ts rw M0 L0 M ML → cr M 23 gk → er M ML s → H103_46 d (nI N) (nI k) M ML R (CQ (q_ls ts n k gk s).1 (q_lsW (q_ls ts n k gk s)) M0 L0 R) := by
  intro n
  induction n with
  | zero =>
    intro k hk B gk s M ML hB hg hgp hs hne h hc he
    refine h103_46 ⟨fun _ => ?_, fun z => absurd ((nI_ltI (by omega) (by omega)).mpr (by omega)) z⟩
    rw [q_ls]
    have hne := hne (by omega)
    obtain ⟨a1, a2, a3, a4, a5⟩ := he.2 hne
    refine B_clear (by omega) h (fun M1 h1 f1 => ?_)
    rw [f1 53 1 (by decide), a1]
    refine B_add (by omega) h1 (by decide) _ (fun M2 L2 h2 f2 f2' => ?_)
    rw [f2' 53 2 (by decide), f2' 53 3 (by decide), a2, a3]
    refine B_frac (by omega) h2 (by simp) hs.1.1 hs.1.2.1 hs.1.2.2 (fun M3 L3 h3 f3 f3' => ?_)
    rw [f3' 53 4 (by decide), f3' 53 5 (by decide), f2' 53 4 (by decide), f2' 53 5 (by decide), a4, a5]
    refine B_frac (by omega) h3 (by simp [fW]) hs.2.1 hs.2.2.1 hs.2.2.2 (fun M4 L4 h4 f4 _ => ?_)
    rw [f4 53 0 (by decide), f3 53 0 (by decide), f2 53 0 (by decide), f1 53 0 (by decide), he.1]
    exact h4.q
  | succ n ih =>
    intro k hk B gk s M ML hB hg hgp hs hne h hc he
    refine h103_46 ⟨fun z => absurd ((nI_ltI (by omega) (by omega)).mp z) (by omega), fun _ => ?_⟩
    rw [q_ls]
    refine B_go hd h hc hg (by omega) hts (-1) (fun M1 h1 c1 h13 h14 h15 f => ?_)
    have hg1 := gok_go hg ts (-1)
    have hp1 : g_go gk ts (-1) p = g p := by rw [g_go_lo (by omega)]; exact hgp
    refine C_lags2 hd hg1 (q_l1 (g_go gk ts (-1)) (nI k) 8 0 s) (fun M2 L2 h2 c2 e2 => ?_) 8 0 (by omega) h1 c1 (s := s) ?_ rfl
    · rw [nI_1]
      exact ih (k + 1) (by omega) (B := B + 1) (by omega) hg1 hp1 (q_l1_ok hg1 8 0 s (by omega) hs) (fun _ => q_l1_ne 8 0 s (by omega) (Or.inr ⟨p, by omega, by omega, by rw [hp1]; exact h0⟩)) h2 c2 e2
    · obtain ⟨a1, a2⟩ := he
      refine ⟨by rw [f 53 0 (by omega)]; exact a1, fun y => ?_⟩
      rw [f 53 1 (by omega)]
      exact a2 y
def es0 : es := (-1, 0, 0, 1, 0, 1)
theorem es0_ok : eb es0 := by
  unfold eb eb1 es0
  dsimp only
  decide
theorem ts_ne (h : ¬ g_ts g = 0) : ∃ p, p < 8 ∧ 0 < g p := by
  apply Classical.byContradiction
  intro z
  apply h
  refine (bt_z (g_ts_lt g)).mpr (fun k hk => ?_)
  rw [g_ts, bm_8 _ hk]
  exact decide_eq_false (fun y => z ⟨k, hk, y⟩)
theorem C_lags (hd : 5 ≤ d) (h : IC g un kp tx ts rw he sa M ML R) (hs : SO g un kp ts B) (hB : B < 2 ^ 20) (v : Int32) : (∀ n, 1 ≤ n → n ≤ 60 → v = nI n → wI (d + 1) 103 [.ref 0, .int v] M ML R (if g_ts g = 0 then CQ (-2) rw M ML R else CQ (q_ls ts n 1 g es0).1 (q_lsW (q_ls ts n 1 g es0)) M ML R)) ∧ (v < 1 ∨ 60 < v → wI (d + 1) 103 [.ref 0, .int v] M ML R (CQ (-1) rw M ML R)) := by
  constructor
  · rintro n h1 h2 rfl
    refine w103 ⟨fun z => absurd ((nI_leI (a := 1) (by decide) (by omega)).mpr (by omega)) (Int32.not_le.mpr z), fun _ => ⟨fun _ => ?_, fun z => absurd ((nI_leI (b := 60) (by omega) (by decide)).mpr (by omega)) z⟩⟩
    refine C_tset fm_W1 (by omega) h.2.1 hs.1 ?_
    have hl := g_ts_lt g
    by_cases z : g_ts g = 0
    · rw [if_pos z, z]
      exact ⟨fun y => absurd nI_0 y, fun _ => h.b.q⟩
    · rw [if_neg z]
      refine ⟨fun _ => ?_, fun y => absurd y (nI_ne0 (by omega) (by omega))⟩
      obtain ⟨p, hp, h0⟩ := ts_ne z
      refine wV_of (t_eclear (M, ML, R)) (by omega) ?_
      dsimp only
      refine B_later (by omega) (h.b.u (a := 53) (i := 0) (x := -1) (by omega)) (fun M1 b1 c1 f1 => ?_)
      exact C_lags1 hd hs.2.2.2 h2 hp h0 n 1 (by omega) (B := B) (by omega) hs.1 rfl es0_ok (fun y => absurd y (by omega)) b1 c1 ⟨by rw [f1 53 0 (by omega), fm_u_at]; rfl, fun y => absurd rfl y⟩
  · intro z
    exact w103 ⟨fun _ => h.b.q, fun y => ⟨fun y2 => absurd y2 (Int32.not_le.mpr (z.resolve_left y)), fun _ => h.b.q⟩⟩
/-! the reference's lags -/
abbrev Hl (d : Nat) (x1 : Int32) (s : es) (x12 x13 : Int32) (M : Nat → Nat → Int32) (ML : Nat → Nat → Int64) (R : Nat → Nat → Option Nat) (K : wK) : Prop := H199_80 d x1 s.1 s.2.1 s.2.2.1 s.2.2.2.1 s.2.2.2.2.1 s.2.2.2.2.2 x12 x13 M ML R K
theorem R_lags2 {K : wK} {N k : Nat} (hd : 7 ≤ d) (hg : gok gk B) (hr : rr (M 227) gk) (F : es) (hK : H199_61 d (nI N) F.1 F.2.1 F.2.2.1 F.2.2.2.1 F.2.2.2.2.1 F.2.2.2.2.2 (nI k + 1) M ML R K) : ∀ n q, q + n = 8 → ∀ {s : es}, q_l1 gk (nI k) n q s = F → Hl d (nI N) s (nI k) (nI q) M ML R K := by
  intro n
  induction n with
  | zero =>
    intro q hq s e
    have e : s = F := e
    subst e
    exact h199_80 ⟨fun _ => hK, fun z => absurd ((nI_leI (a := 8) (by decide) (by omega)).mpr (by omega)) z⟩
  | succ n ih =>
    intro q hq s e
    rw [q_l1] at e
    refine h199_80 ⟨fun z => absurd ((nI_leI (a := 8) (by decide) (by omega)).mp z) (by omega), fun _ => ?_⟩
    have hq8 : q < 8 := by omega
    refine R_th fm_N227 (by omega) hr hg hq8 ?_
    by_cases z1 : 0 < gk q
    · rw [if_pos z1] at e ⊢
      refine ⟨fun _ => ?_, fun y => absurd y (by decide)⟩
      refine R_lag fm_N227 (by omega) hr hq8 ⟨8 + q, ix8 q, by omega, ?_⟩
      rw [hr (8 + q) (by omega)]
      simp only [i1n, i0y, false_implies, true_and, and_true, not_false_eq_true, not_true_eq_false, true_implies]
      unfold e_tk at e
      by_cases z : s.1 = -1
      · rw [if_pos z] at e
        refine ⟨fun y => absurd z y, fun _ => ?_⟩
        have := ih (q + 1) (by omega) e
        rw [← nI_1] at this
        exact this
      · rw [if_neg z] at e
        refine ⟨fun _ => ?_, fun y => absurd y z⟩
        unfold e_a at e
        by_cases y : lg_cmp ((lgI gk q).toInt64 * s.2.2.2.1) (s.2.2.1 * nL (gk (8 + q))) ≤ 0
        · rw [if_pos y] at e
          refine ⟨fun _ => ?_, fun w => absurd y w⟩
          unfold e_b at e
          by_cases x : 0 ≤ lg_cmp ((lgI gk q).toInt64 * s.2.2.2.2.2) (s.2.2.2.2.1 * nL (gk (8 + q)))
          · rw [if_pos x] at e
            have := ih (q + 1) (by omega) e
            rw [← nI_1] at this
            exact ⟨fun _ => this, fun w => absurd x w⟩
          · rw [if_neg x] at e
            have := ih (q + 1) (by omega) e
            rw [← nI_1] at this
            exact ⟨fun w => absurd w x, fun _ => this⟩
        · rw [if_neg y] at e
          refine ⟨fun w => absurd w y, fun _ => ?_⟩
          unfold e_b at e
          dsimp only at e
          by_cases x : 0 ≤ lg_cmp ((lgI gk q).toInt64 * s.2.2.2.2.2) (s.2.2.2.2.1 * nL (gk (8 + q)))
          · rw [if_pos x] at e
            have := ih (q + 1) (by omega) e
            rw [← nI_1] at this
            exact ⟨fun _ => this, fun w => absurd x w⟩
          · rw [if_neg x] at e
            have := ih (q + 1) (by omega) e
            rw [← nI_1] at this
            exact ⟨fun w => absurd w x, fun _ => this⟩
    · rw [if_neg z1] at e ⊢
      have := ih (q + 1) (by omega) e
      rw [← nI_1] at this
      exact ⟨fun y => absurd rfl y, fun _ => this⟩
theorem R_lags1 (hd : 100 ≤ d) (hts : tsok ts) {N : Nat} (hN : N ≤ 60) : ∀ n k, k + n = N + 1 → ∀ {B : Nat} {gk : gr} {s : es} {M : Nat → Nat → Int32}, B + n < 2 ^ 21 → gok gk B → eb s → BR g ts rw M0 L0 R0 M ML R → rr (M 227) gk → H199_61 d (nI N) s.1 s.2.1 s.2.2.1 s.2.2.2.1 s.2.2.2.2.1 s.2.2.2.2.2 (nI k) M ML R (RQ (q_ls ts n k gk s).1 (q_lsW (q_ls ts n k gk s)) M0 L0 R0) := by
  intro n
  induction n with
  | zero =>
    intro k hk B gk s M hB hg hs h hc
    refine h199_61 ⟨fun _ M1 e1 => ?_, fun z => absurd ((nI_ltI (by omega) (by omega)).mpr (by omega)) z⟩
    subst e1
    rw [q_ls]
    refine B_tell (by omega) h.z (by decide) _ (fun M2 L2 h2 _ _ => ?_)
    refine B_tellPart hd h2 (by simp) hs.1.1 hs.1.2.1 hs.1.2.2 (fun M3 L3 h3 f3 f3' => ?_)
    refine B_tellPart hd h3 (by simp [fW]) hs.2.1 hs.2.2.1 hs.2.2.2 (fun M4 L4 h4 f4 _ => ?_)
    exact h4.q
  | succ n ih =>
    intro k hk B gk s M hB hg hs h hc
    refine h199_61 ⟨fun z => absurd ((nI_ltI (by omega) (by omega)).mp z) (by omega), fun _ => ?_⟩
    rw [q_ls]
    refine B_goSlot (by omega) h hc hg (by omega) hts (-1) (fun M1 h1 c1 h22 h23 f => ?_)
    have hg1 := gok_go hg ts (-1)
    refine R_lags2 (by omega) hg1 c1 (q_l1 (g_go gk ts (-1)) (nI k) 8 0 s) ?_ 8 0 (by omega) rfl
    rw [nI_1]
    exact ih (k + 1) (by omega) (B := B + 1) (by omega) hg1 (q_l1_ok hg1 8 0 s (by omega) hs) h1 c1
theorem R_lags (hd : 100 ≤ d) (h : IR g un kp tx ts rw he sa M ML R) (hs : SO g un kp ts B) (hB : B < 2 ^ 20) (v : Int32) : (∀ n, 1 ≤ n → n ≤ 60 → v = nI n → wI (d + 1) 199 [.ref 219, .int v] M ML R (if g_ts g = 0 then RQ (-2) rw M ML R else RQ (q_ls ts n 1 g es0).1 (q_lsW (q_ls ts n 1 g es0)) M ML R)) ∧ (v < 1 ∨ 60 < v → wI (d + 1) 199 [.ref 219, .int v] M ML R (RQ (-1) rw M ML R)) := by
  have hb := h.b.u (a := 219) (i := 5) (x := 0) (by omega)
  constructor
  · rintro n h1 h2 rfl
    refine w199 (fun M1 e1 => ?_)
    subst e1
    refine R_in (by omega) ?_
    rw [show md_in (nI n) 1 60 = 1 from in_y (lo := 1) (hi := 60) (by decide) h1 h2]
    refine ⟨fun _ => ?_, fun z => absurd z (by decide)⟩
    refine R_tset fm_N220 (by omega) hb.1 hs.1 ?_
    have hl := g_ts_lt g
    by_cases z : g_ts g = 0
    · rw [if_pos z, z]
      exact ⟨fun y => absurd nI_0 y, fun _ => hb.q⟩
    · rw [if_neg z]
      refine ⟨fun _ => ?_, fun y => absurd y (nI_ne0 (by omega) (by omega))⟩
      refine B_then (by omega) hb (fun M1 b1 c1 _ => ?_)
      exact R_lags1 hd hs.2.2.2 h2 n 1 (by omega) (B := B) (s := es0) (by omega) hs.1 es0_ok b1 c1
  · intro z
    refine w199 (fun M1 e1 => ?_)
    subst e1
    refine R_in (by omega) ?_
    rw [in_n z]
    exact ⟨fun y => absurd rfl y, fun _ => hb.q⟩
end lags
