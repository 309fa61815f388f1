/-! part -/
def q_pt (g : gr) (q i w : Nat) : Int32 := if w = 0 then nI (g_rel g q i) else if w = 1 then nI (g_dl g q i) else if w = 2 then nI (g_ov g q i) else if w = 3 then nI (g_gp g q i) else nI (g_dl g q i) - nI (g_rel g q i)
/-! sheet -/
def g_se (g : gr) (q e : Nat) : gr := fun k => if k = 24 + q then e else g k
theorem g_se_off {g : gr} {q e k : Nat} (h : ¬ k = 24 + q) : g_se g q e k = g k := by rw [g_se, if_neg h]
theorem g_se_cg {g : gr} {q e p : Nat} (hq : q < 8) (hp : p < 8) (i : Nat) : g_rel (g_se g q e) p i = g_rel g p i ∧ g_dl (g_se g q e) p i = g_dl g p i ∧ g_ov (g_se g q e) p i = g_ov g p i ∧ g_gp (g_se g q e) p i = g_gp g p i ∧ g_wt (g_se g q e) p = g_wt g p := g_cg (g_se_off (by omega)) (g_se_off (by omega)) (g_se_off (by omega)) i
theorem gok_se {g : gr} {B q e : Nat} (hg : gok g B) (hq : q < 8) (h0 : 0 < g q) (he : e ≤ 1) : gok (g_se g q e) B := by
  have hp := hg.p hq h0
  obtain ⟨h1, h2, h3, h4, h5, h6⟩ := hg
  have hw := g_ws_le (g := g) (h := g_se g q e) 8 (fun p hp => Nat.le_of_eq (g_se_cg hq hp 0).2.2.2.2)
  refine ⟨by rw [g_se_off (by omega)]; exact h1, by rw [g_se_off (by omega)]; exact h2, by rw [g_se_off (by omega)]; exact h3, by rw [g_se_off (by omega), g_se_off (by omega)]; exact h4, by rw [g_se_off (k := 40) (by omega)]; omega, fun p hp8 => ?_⟩
  by_cases y : p = q
  · subst y
    right
    obtain ⟨p1, p2, p3, p4, p5⟩ := hp
    unfold tk1
    rw [g_se_off (show ¬ p = 24 + p by omega), g_se_off (show ¬ 8 + p = 24 + p by omega), g_se_off (show ¬ 16 + p = 24 + p by omega), g_se_off (show ¬ 32 + p = 24 + p by omega), g_se_off (show ¬ 41 = 24 + p by omega)]
    refine ⟨p1, p2, p3, ?_, p5⟩
    rw [g_se, if_pos rfl]
    omega
  · unfold tk0 tk1
    rw [g_se_off (show ¬ p = 24 + q by omega), g_se_off (show ¬ 8 + p = 24 + q by omega), g_se_off (show ¬ 16 + p = 24 + q by omega), g_se_off (show ¬ 24 + p = 24 + q by omega), g_se_off (show ¬ 32 + p = 24 + q by omega), g_se_off (show ¬ 41 = 24 + q by omega)]
    exact h6 p hp8
/-- the entry at a place: 0 or 1 -/
def s_b (E : Nat) (kind f st : Int32) (k : Nat) : Nat := if E ≤ k then 0 else if cl_en kind (f + nI k * st) ≤ 0 then 0 else 1
def s_l (en : Nat → Nat) : Nat → Nat → gr × Nat × Nat → gr × Nat × Nat
  | 0, _, s => s
  | n + 1, q, s => s_l en n (q + 1) (if 0 < s.1 q then (g_se s.1 q (en s.2.1), s.2.1 + 1, s.2.2 + en s.2.1) else s)
theorem s_b_le (E : Nat) (kind f st : Int32) (k : Nat) : s_b E kind f st k ≤ 1 := by
  unfold s_b
  split
  · omega
  · split <;> omega
section sheet
variable {d B b r : Nat} {g gk g' u : gr} {ts tx tx' t' : List Nat} {rw rw' : List Int64} {un un' : List gr} {kp kp' : Nat → Option gr} {he sa : List (Nat × Nat)} {M0 M M1 : Nat → Nat → Int32} {L0 ML L1 : Nat → Nat → Int64} {R0 R R1 : Nat → Nat → Option Nat}
theorem C_part (hd : 3 ≤ d) (h : IC g un kp tx ts rw he sa M ML R) (hs : SO g un kp ts B) {q i w : Nat} (hq : q < 8) (h0 : 0 < g q) (hi : 1 ≤ i) (hi2 : i ≤ 200) (hw : w ≤ 4) : wI (d + 1) 79 [.ref 0, .int (nI q), .int (nI i), .int (nI w)] M ML R (CQ (q_pt g q i w) rw M ML R) := by
  have hb := h.b
  have wn : ∀ j, j < 5 → (nI w = nI j ↔ w = j) := fun j hj => nI_eq (by omega) (by omega)
  refine w79 (C_th fm_W1 (by omega) h.2.1 hs.1 _ (fun q' _ _ _ => ⟨fun y => absurd y (by decide), fun _ => ⟨fun y => absurd ((nI_ltI (b := 1) (by omega) (by decide)).mp y) (by omega), fun _ => ⟨fun _ => ⟨fun z => ?_, fun z => ?_, fun z => ?_, fun z => ?_, fun z => ?_, fun z0 z1 z2 z3 z4 => ?_⟩, fun y => absurd ((nI_leI (b := 200) (by omega) (by decide)).mpr hi2) y⟩⟩⟩) (fun z => absurd ((th_nI hq).mpr h0) z))
  · have := (wn 0 (by decide)).mp z; subst this
    exact C_rel fm_W1 (by omega) h.2.1 hs.1 hq h0 (by omega) (by omega) hb.q
  · have := (wn 1 (by decide)).mp z; subst this
    exact C_dl fm_W1 (by omega) h.2.1 hs.1 hq h0 (by omega) hb.q
  · have := (wn 2 (by decide)).mp z; subst this
    exact C_ov fm_W1 (by omega) h.2.1 hs.1 hq h0 (by omega) hb.q
  · have := (wn 3 (by decide)).mp z; subst this
    exact C_gp fm_W1 (by omega) h.2.1 hs.1 hq h0 (by omega) (by omega) hb.q
  · have := (wn 4 (by decide)).mp z; subst this
    exact C_dl fm_W1 (by omega) h.2.1 hs.1 hq h0 (by omega) (C_rel fm_W1 (by omega) h.2.1 hs.1 hq h0 (by omega) (by omega) hb.q)
  · have e0 : ¬ w = 0 := fun y => z0 ((wn 0 (by decide)).mpr y)
    have e1 : ¬ w = 1 := fun y => z1 ((wn 1 (by decide)).mpr y)
    have e2 : ¬ w = 2 := fun y => z2 ((wn 2 (by decide)).mpr y)
    have e3 : ¬ w = 3 := fun y => z3 ((wn 3 (by decide)).mpr y)
    have e4 : ¬ w = 4 := fun y => z4 ((wn 4 (by decide)).mpr y)
    omega
theorem R_part (hd : 3 ≤ d) (h : IR g un kp tx ts rw he sa M ML R) (hs : SO g un kp ts B) (hB : B < 2 ^ 20) (a b c : Int32) : (∀ q i w, q < 8 → 0 < g q → 1 ≤ i → i ≤ 200 → w ≤ 4 → a = nI q → b = nI i → c = nI w → wI (d + 1) 168 [.ref 219, .int a, .int b, .int c] M ML R (RQt 0 (q_pt g q i w) rw M ML R)) ∧ (¬ th g a ∨ (b < 1 ∨ 200 < b) ∨ (c < 0 ∨ 4 < c) → wI (d + 1) 168 [.ref 219, .int a, .int b, .int c] M ML R (RQt 1 0 rw M ML R)) := by
  have hb := h.b.u (a := 219) (i := 5) (x := 0) (by omega)
  constructor
  · rintro q i w hq h0 hi hi2 hw rfl rfl rfl
    have wn : ∀ j, j < 5 → (nI w = nI j ↔ w = j) := fun j hj => nI_eq (by omega) (by omega)
    refine w168 (fun M1 e1 => ?_)
    subst e1
    refine R_task (by omega) hb.1 hs.1 _ (fun q' _ _ _ => ⟨fun y => absurd y (by decide), fun _ => R_in (by omega) ?_⟩) (fun z => absurd ((th_nI hq).mpr h0) z)
    rw [show md_in (nI i) 1 200 = 1 from in_y (lo := 1) (hi := 200) (by decide) hi hi2]
    refine ⟨fun y => absurd y (by decide), fun _ => R_in (by omega) ?_⟩
    rw [show md_in (nI w) 0 4 = 1 from in_y (lo := 0) (hi := 4) (by decide) (by omega) hw]
    refine ⟨fun _ => ⟨fun z => ?_, fun z => ?_, fun z => ?_, fun z => ?_, fun z0 z1 z2 z3 => ?_⟩, fun y => absurd y (by decide)⟩
    · have := (wn 0 (by decide)).mp z; subst this
      exact R_rel fm_N220 (by omega) hb.1 hs.1 (by omega) hq h0 (by omega) (by omega) ⟨hb.q, fm_u_at⟩
    · have := (wn 1 (by decide)).mp z; subst this
      exact R_dl fm_N220 (by omega) hb.1 hs.1 (by omega) hq h0 (by omega) ⟨hb.q, fm_u_at⟩
    · have := (wn 2 (by decide)).mp z; subst this
      exact R_ov fm_N220 (by omega) hb.1 hs.1 hq h0 (by omega) ⟨hb.q, fm_u_at⟩
    · have := (wn 3 (by decide)).mp z; subst this
      exact R_gp fm_N220 (by omega) hb.1 hs.1 (by omega) hq h0 (by omega) (by omega) ⟨hb.q, fm_u_at⟩
    · have w4 : w = 4 := by
        have e0 : ¬ w = 0 := fun y => z0 ((wn 0 (by decide)).mpr y)
        have e1 : ¬ w = 1 := fun y => z1 ((wn 1 (by decide)).mpr y)
        have e2 : ¬ w = 2 := fun y => z2 ((wn 2 (by decide)).mpr y)
        have e3 : ¬ w = 3 := fun y => z3 ((wn 3 (by decide)).mpr y)
        omega
      subst w4
      exact R_len fm_N220 (by omega) hb.1 hs.1 (by omega) hq h0 (by omega) (by omega) ⟨hb.q, fm_u_at⟩
  · intro z
    refine w168 (fun M1 e1 => ?_)
    subst e1
    refine R_task (by omega) hb.1 hs.1 _ (fun q' hq' e h0' => ⟨fun y => absurd y (by decide), fun _ => R_in (by omega) ⟨fun _ => R_lost (A := 0) (by omega) hb, fun y1 => R_in (by omega) ⟨fun y2 => ?_, fun _ => R_lost (A := 0) (by omega) hb⟩⟩⟩) (fun _ => ⟨fun _ => R_lost (A := 0) (by omega) hb, fun y => absurd rfl y⟩)
    exfalso
    rcases z with z | z | z
    · exact z ⟨q', hq', e, h0'⟩
    · exact y1 (in_n z)
    · exact y2 (in_n z)
theorem cr_se (hc : cr M b g) {q e : Nat} (hq : q < 8) (h0 : 0 < g q) : cr (fm_u M (b + 5) q (nI e)) b (g_se g q e) := by
  obtain ⟨h1, h2, h3, h4⟩ := hc
  have row : ∀ i, fm_u M (b + 5) q (nI e) b i = M b i := fun i => by rw [fm_u_off (by omega)]
  have col : ∀ a p, ¬ p = q → fm_u M (b + 5) q (nI e) a p = M a p := fun a p hp => by rw [fm_u_col hp]
  refine ⟨by rw [row, h1, g_se_off (by omega)], by rw [row, h2, g_se_off (by omega)], by rw [row, h3, g_se_off (by omega)], fun p hp => ?_⟩
  have cg := g_se_cg (g := g) (q := q) (p := p) (e := e) hq hp
  have nx : g_nx (g_se g q e) p = g_nx g p := by unfold g_nx; rw [g_se_off (by omega)]
  by_cases y : p = q
  · subst y
    obtain ⟨a1, a2, a3, a4, a5⟩ := h4 p hp
    obtain ⟨b1, b2, b3, b4, b5, b6, b7, b8⟩ := a5 h0
    have off : ∀ j, ¬ j = 5 → fm_u M (b + 5) p (nI e) (b + j) = M (b + j) := fun j hj => fm_u_off2 hj
    unfold ct
    rw [off 1 (by decide), off 2 (by decide), off 3 (by decide), off 4 (by decide), off 6 (by decide), off 7 (by decide), off 8 (by decide), off 9 (by decide), off 10 (by decide), nx, (cg _).1, (cg _).2.1, (cg _).2.2.1, (cg _).2.2.2.1, (cg 0).2.2.2.2, g_se_off (show ¬ 8 + p = 24 + p by omega), g_se_off (show ¬ 41 = 24 + p by omega), g_se_off (show ¬ p = 24 + p by omega), g_se_off (show ¬ 16 + p = 24 + p by omega), g_se_off (show ¬ 32 + p = 24 + p by omega)]
    refine ⟨a1, a2, a3, a4, fun _ => ⟨b1, b2, ?_, b4, b5, b6, b7, b8⟩⟩
    rw [fm_u_at, g_se, if_pos rfl]
  · have h := ct_cg (M' := fm_u M (b + 5) q (nI e)) (fun j _ _ => col _ _ y) (h4 p hp)
    unfold ct at h ⊢
    rw [nx, (cg _).1, (cg _).2.1, (cg _).2.2.1, (cg _).2.2.2.1, (cg 0).2.2.2.2, g_se_off (show ¬ 8 + p = 24 + q by omega), g_se_off (show ¬ 41 = 24 + q by omega), g_se_off (show ¬ p = 24 + q by omega), g_se_off (show ¬ 16 + p = 24 + q by omega), g_se_off (show ¬ 24 + p = 24 + q by omega), g_se_off (show ¬ 32 + p = 24 + q by omega)]
    exact h
theorem C_sh1 {kind n f st : Int32} {E : Nat} (hd : 1 ≤ d) (hE : E ≤ 8) (F : gr × Nat × Nat) {K : wK} (hK : ∀ M1, cr M1 1 F.1 → fr (fun a _ => a = 6) M0 M1 → (¬ kind = 3 → K (nI F.2.2) M1 ML R) ∧ (kind = 3 → K (-3) M1 ML R)) : ∀ m q, q + m = 8 → ∀ {s : gr × Nat × Nat} {B : Nat} {M : Nat → Nat → Int32}, gok s.1 B → s.2.1 ≤ q → cr M 1 s.1 → fr (fun a _ => a = 6) M0 M → s_l (s_b E kind f st) m q s = F → H80_50 d kind n f st (nI E) (nI s.2.1) (nI s.2.2) (nI q) M ML R K := by
  intro m
  induction m with
  | zero =>
    intro q hq s B M hg hp hc hf e
    have e : s = F := e
    subst e
    exact h80_50 ⟨fun _ => hK M hc hf, fun z => absurd ((nI_leI (a := 8) (by decide) (by omega)).mpr (by omega)) z⟩
  | succ m ih =>
    intro q hq s B M hg hp hc hf e
    rw [s_l] at e
    refine h80_50 ⟨fun z => absurd ((nI_leI (a := 8) (by decide) (by omega)).mp z) (by omega), fun _ => ?_⟩
    have hq8 : q < 8 := by omega
    refine C_th fm_W1 hd hc hg _ (fun q' hq' e' h0 => ?_) (fun z => ?_)
    · have := nI_inj8 hq8 hq' e'
      subst this
      rw [if_pos h0] at e
      refine ⟨fun y => absurd y (by decide), fun _ => ?_⟩
      have go : ∀ x : Nat, s_b E kind f st s.2.1 = x → x ≤ 1 → ∀ M2, M2 = fm_u M 6 q (nI x) → H80_50 d kind n f st (nI E) (nI s.2.1 + 1) (nI s.2.2 + M2 6 q) (nI q + 1) M2 ML R K := fun x ex hx M2 e2 => by
        subst e2
        rw [fm_u_at, nI_add, nI_1, nI_1]
        rw [ex] at e
        exact ih (q + 1) (by omega) (s := (g_se s.1 q x, s.2.1 + 1, s.2.2 + x)) (gok_se hg hq8 h0 hx) (by dsimp only; omega) (cr_se hc hq8 h0) (fr_u2 hf rfl) e
      refine ⟨fun y => ?_, fun y => ?_⟩
      · have y2 := (nI_leI (by omega) (by omega)).mp y
        exact ⟨fun _ => ⟨q, rfl, hq8, fun M2 e2 => ⟨q, rfl, hq8, go 0 (by unfold s_b; rw [if_pos y2]) (by omega) M2 e2⟩⟩, fun w => absurd rfl w⟩
      · have y2 : ¬ E ≤ s.2.1 := fun w => y ((nI_leI (by omega) (by omega)).mpr w)
        refine wI_of (t_entry _ kind (f + nI s.2.1 * st)) hd ⟨fun w => ?_, fun w => ?_⟩
        · exact ⟨fun _ => ⟨q, rfl, hq8, fun M2 e2 => ⟨q, rfl, hq8, go 0 (by unfold s_b; rw [if_neg y2, if_pos w]) (by omega) M2 e2⟩⟩, fun w => absurd rfl w⟩
        · exact ⟨fun v => absurd v (by decide), fun _ => ⟨q, rfl, hq8, fun M2 e2 => ⟨q, rfl, hq8, go 1 (by unfold s_b; rw [if_neg y2, if_neg w]) (by omega) M2 e2⟩⟩⟩
    · rw [if_neg (fun y => z ((th_nI hq8).mpr y))] at e
      rw [nI_1]
      exact ⟨fun _ => ih (q + 1) (by omega) hg (by omega) hc hf e, fun y => absurd rfl y⟩
theorem s_l_ok {en : Nat → Nat} (he : ∀ k, en k ≤ 1) : ∀ m q, q + m ≤ 8 → ∀ {s : gr × Nat × Nat} {B : Nat}, gok s.1 B → gok (s_l en m q s).1 B := by
  intro m
  induction m with
  | zero => intro q _ s B h; exact h
  | succ m ih =>
    intro q hq s B h
    rw [s_l]
    by_cases z : 0 < s.1 q
    · rw [if_pos z]
      exact ih (q + 1) (by omega) (s := (g_se s.1 q (en s.2.1), s.2.1 + 1, s.2.2 + en s.2.1)) (gok_se h (by omega) z (he _))
    · rw [if_neg z]
      exact ih (q + 1) (by omega) h
def q_sh2 (g : gr) (E : Nat) (kind f st : Int32) : gr × Nat × Nat := s_l (s_b E kind f st) 8 0 (g, 0, 0)
theorem C_sheetY {kind n f st : Int32} {E : Nat} (hd : 1 ≤ d) (hE : E ≤ 8) (h : IC g un kp tx ts rw he sa M ML R) (hs : SO g un kp ts B) : H80_50 d kind n f st (nI E) 0 0 0 M ML R (if kind = 3 then CK (-3) (q_sh2 g E kind f st).1 un kp tx ts rw he sa M ML R else CK (nI (q_sh2 g E kind f st).2.2) (q_sh2 g E kind f st).1 un kp tx ts rw he sa M ML R) := by
  refine C_sh1 hd hE (q_sh2 g E kind f st) (fun M1 c1 f1 => ?_) 8 0 (by omega) (s := (g, 0, 0)) hs.1 (by dsimp only; omega) h.2.1 fr.rfl rfl
  have ic : IC (q_sh2 g E kind f st).1 un kp tx ts rw he sa M1 ML R := h.w0 (f1.mono (fun a i z => by omega)) (fun i => f1 _ i (by omega)) c1 (IP_fr h.p (fun a i y => f1 a i (by omega)))
  by_cases z : kind = 3
  · rw [if_pos z]
    exact ⟨fun y => absurd z y, fun _ => ⟨rfl, ic, f1.mono (fun a i z => by omega), fr.rfl, rfl⟩⟩
  · rw [if_neg z]
    exact ⟨fun _ => ⟨rfl, ic, f1.mono (fun a i z => by omega), fr.rfl, rfl⟩, fun y => absurd y z⟩
theorem R_sh1 {n f st : Int32} {kind E : Nat} (hd : 1 ≤ d) (hk : kind ≤ 3) (hkE : kind < 3 → n = nI E) (hk3 : kind = 3 → E = 0) (hE : E ≤ 8) (F : gr × Nat × Nat) {K : wK} (hK : ∀ M1, rr (M1 220) F.1 → fr (fun a _ => a = 220) M0 M1 → (¬ nI kind = 3 → K (nI F.2.2) M1 ML R) ∧ (nI kind = 3 → K (-3) M1 ML R)) : ∀ m q, q + m = 8 → ∀ {s : gr × Nat × Nat} {B : Nat} {M : Nat → Nat → Int32} {x5 : Int32}, gok s.1 B → s.2.1 ≤ q → x5 = f + nI s.2.1 * st → rr (M 220) s.1 → fr (fun a _ => a = 220) M0 M → s_l (s_b E (nI kind) f st) m q s = F → H169_46 d (nI kind) n f st x5 (nI s.2.1) (nI s.2.2) (nI q) M ML R K := by
  have kn : ∀ j, j < 4 → (nI kind = nI j ↔ kind = j) := fun j hj => nI_eq (by omega) (by omega)
  intro m
  induction m with
  | zero =>
    intro q hq s B M x5 hg hp hx hc hf e
    have e : s = F := e
    subst e
    exact h169_46 ⟨fun _ => hK M hc hf, fun z => absurd ((nI_leI (a := 8) (by decide) (by omega)).mpr (by omega)) z⟩
  | succ m ih =>
    intro q hq s B M x5 hg hp hx hc hf e
    rw [s_l] at e
    refine h169_46 ⟨fun z => absurd ((nI_leI (a := 8) (by decide) (by omega)).mp z) (by omega), fun _ => ?_⟩
    have hq8 : q < 8 := by omega
    refine R_th fm_N220 hd hc hg hq8 ?_
    by_cases h0 : 0 < s.1 q
    · rw [if_pos h0] at e ⊢
      refine ⟨fun _ => ?_, fun y => absurd y (by decide)⟩
      have hx2 : x5 + st = f + nI (s.2.1 + 1) * st := by rw [hx, ← nI_1, Int32.add_mul, Int32.one_mul, Int32.add_assoc]
      have go : ∀ x : Nat, s_b E (nI kind) f st s.2.1 = x → x ≤ 1 → ∀ M2, M2 = fm_u M 220 (24 + q) (nI x) → H169_46 d (nI kind) n f st (x5 + st) (nI s.2.1 + 1) (nI s.2.2 + M2 220 (24 + q)) (nI q + 1) M2 ML R K := fun x ex hxx M2 e2 => by
        subst e2
        rw [fm_u_at, nI_add, nI_1, nI_1]
        rw [ex] at e
        refine ih (q + 1) (by omega) (s := (g_se s.1 q x, s.2.1 + 1, s.2.2 + x)) (gok_se hg hq8 h0 hxx) (by dsimp only; omega) hx2 (fun j hj => ?_) (fr_u2 hf rfl) e
        by_cases w : j = 24 + q
        · subst w; rw [fm_u_at]; show nI x = nI (g_se s.1 q x (24 + q)); rw [g_se, if_pos rfl]
        · rw [fm_u_ix w]; show M 220 j = nI (g_se s.1 q x j); rw [g_se_off w]; exact hc j hj
      have fin : ∀ x : Nat, s_b E (nI kind) f st s.2.1 = x → x ≤ 1 → ∃ k2, ((24 : Int32) + nI q) = nI k2 ∧ k2 < 43 ∧ (∀ M2, M2 = fm_u M 220 k2 (nI x) → (∃ k3, ((24 : Int32) + nI q) = nI k3 ∧ k3 < 43 ∧ H169_46 d (nI kind) n f st (x5 + st) (nI s.2.1 + (1 : Int32)) (nI s.2.2 + (M2 220 k3)) (nI q + (1 : Int32)) M2 ML R K)) := fun x ex hxx => ⟨24 + q, ix24 q, by omega, fun M2 e2 => ⟨24 + q, ix24 q, by omega, go x ex hxx M2 e2⟩⟩
      have sb : kind < 3 → ∀ y : Int32, cl_en (nI kind) x5 = y → (n ≤ nI s.2.1 → s_b E (nI kind) f st s.2.1 = 0) ∧ (¬ n ≤ nI s.2.1 → y ≤ 0 → s_b E (nI kind) f st s.2.1 = 0) ∧ (¬ n ≤ nI s.2.1 → ¬ y ≤ 0 → s_b E (nI kind) f st s.2.1 = 1) := fun k3 y ey => by
        have hn := hkE k3
        rw [hn, ← ey, hx]
        unfold s_b
        refine ⟨fun w => by rw [if_pos ((nI_leI (by omega) (by omega)).mp w)], fun w v => by rw [if_neg (fun u => w ((nI_leI (by omega) (by omega)).mpr u)), if_pos v], fun w v => by rw [if_neg (fun u => w ((nI_leI (by omega) (by omega)).mpr u)), if_neg v]⟩
      refine ⟨fun k0 => ⟨fun k1 => ⟨fun k3 => ?_, fun k3 => ?_⟩, fun k1 => ⟨fun k3 => ?_, fun _ => ?_⟩⟩, fun k0 => ⟨fun k3 => ?_, fun _ => ?_⟩⟩
      · have : kind = 3 := by have := (nI_leI (a := 3) (by decide) (by omega)).mp k3; omega
        exact fin 0 (by unfold s_b; rw [hk3 this, if_pos (by omega)]) (by omega)
      · have kl : kind < 3 := Nat.lt_of_not_le (fun y => k3 ((nI_leI (a := 3) (by decide) (by omega)).mpr y))
        have k2 : kind = 2 := by
          have a0 : ¬ kind = 0 := fun y => k0 ((kn 0 (by decide)).mpr y)
          have a1 : ¬ kind = 1 := fun y => k1 ((kn 1 (by decide)).mpr y)
          omega
        obtain ⟨s1, s2, s3⟩ := sb kl x5 (by rw [k2]; rfl)
        exact ⟨fun w => fin 0 (s1 w) (by omega), fun w => ⟨fun v => fin 0 (s2 w v) (by omega), fun v => fin 1 (s3 w v) (by omega)⟩⟩
      · have := (kn 1 (by decide)).mp k1
        subst this
        exact absurd k3 (by decide)
      · have := (kn 1 (by decide)).mp k1
        subst this
        obtain ⟨s1, s2, s3⟩ := sb (by decide) x5.toInt16.toInt32 rfl
        exact ⟨fun w => fin 0 (s1 w) (by omega), fun w => ⟨fun v => fin 0 (s2 w v) (by omega), fun v => fin 1 (s3 w v) (by omega)⟩⟩
      · have := (kn 0 (by decide)).mp k0
        subst this
        exact absurd k3 (by decide)
      · have := (kn 0 (by decide)).mp k0
        subst this
        obtain ⟨s1, s2, s3⟩ := sb (by decide) x5.toInt8.toInt32 rfl
        exact ⟨fun w => fin 0 (s1 w) (by omega), fun w => ⟨fun v => fin 0 (s2 w v) (by omega), fun v => fin 1 (s3 w v) (by omega)⟩⟩
    · rw [if_neg h0] at e ⊢
      exact ⟨fun y => absurd rfl y, fun _ => by rw [show nI q + 1 = nI (q + 1) from nI_add q 1]; exact ih (q + 1) (by omega) hg (by omega) hx hc hf e⟩
theorem R_sheetY {n f st : Int32} {kind E : Nat} (hd : 1 ≤ d) (hk : kind ≤ 3) (hkE : kind < 3 → n = nI E) (hk3 : kind = 3 → E = 0) (hE : E ≤ 8) (h : IR g un kp tx ts rw he sa M ML R) (hs : SO g un kp ts B) : H169_46 d (nI kind) n f st f 0 0 0 (fm_u M 219 5 0) ML R (if nI kind = 3 then RK (-3) (q_sh2 g E (nI kind) f st).1 un kp tx ts rw he sa M ML R else RK (nI (q_sh2 g E (nI kind) f st).2.2) (q_sh2 g E (nI kind) f st).1 un kp tx ts rw he sa M ML R) := by
  have h1 := h.t0
  refine R_sh1 hd hk hkE hk3 hE (q_sh2 g E (nI kind) f st) (fun M1 c1 f1 => ?_) 8 0 (by omega) (s := (g, 0, 0)) hs.1 (by dsimp only; omega) ?_ h1.1 fr.rfl rfl
  · have ic : IR (q_sh2 g E (nI kind) f st).1 un kp tx ts rw he sa M1 ML R := h1.w (f1.mono (fun a i z => by omega)) c1 (JP_fr h1.p (fun a i y => f1 a i (by omega))) (JW_fr h1.2.2.2.2.1 (f1 _ _ (by omega)) (fun _ => rfl))
    by_cases z : nI kind = 3
    · rw [if_pos z]
      exact ⟨fun y => absurd z y, fun _ => ⟨rfl, ic, t0_fr.tr (f1.mono (fun a i z => by omega)), fr.rfl, fr.rfl⟩⟩
    · rw [if_neg z]
      exact ⟨fun _ => ⟨rfl, ic, t0_fr.tr (f1.mono (fun a i z => by omega)), fr.rfl, fr.rfl⟩, fun y => absurd y z⟩
  · show f = f + nI 0 * st
    rw [nI_0, Int32.zero_mul, Int32.add_zero]
/-- what sheet answers, what the world is then -/
def q_shE (kind : Int32) (n : Nat) : Nat := if kind = 3 then 0 else n
theorem C_sheet (hd : 1 ≤ d) (h : IC g un kp tx ts rw he sa M ML R) (hs : SO g un kp ts B) (a v f st : Int32) : (∀ kind E, kind ≤ 3 → E ≤ 8 → a = nI kind → v ≤ 8 → (kind < 3 → v = nI E) → (kind = 3 → E = 0) → wI (d + 1) 80 [.ref 0, .int a, .int v, .int f, .int st] M ML R (if a = 3 then CK (-3) (q_sh2 g E a f st).1 un kp tx ts rw he sa M ML R else CK (nI (q_sh2 g E a f st).2.2) (q_sh2 g E a f st).1 un kp tx ts rw he sa M ML R)) ∧ ((a < 0 ∨ 3 < a) ∨ ¬ v ≤ 8 → wI (d + 1) 80 [.ref 0, .int a, .int v, .int f, .int st] M ML R (CK (-1) g un kp tx ts rw he sa M ML R)) ∧ (∀ kind, kind < 3 → a = nI kind → v < 0 → wI (d + 1) 80 [.ref 0, .int a, .int v, .int f, .int st] M ML R (CK (-2) g un kp tx ts rw he sa M ML R)) := by
  refine ⟨?_, fun z => ?_, ?_⟩
  · rintro kind E hk hE rfl hv hkE hk3
    refine w80 ⟨fun z => absurd z (nI_nneg (by omega)), fun _ => ⟨fun z => absurd ((nI_ltI (a := 3) (by decide) (by omega)).mp z) (by omega), fun _ => ⟨fun _ => ⟨fun z => ⟨fun y => absurd z y, fun _ => ?_⟩, fun z => ?_⟩, fun y => absurd hv y⟩⟩⟩
    · have k3 : kind = 3 := (nI_eq (b := 3) (by omega) (by decide)).mp z
      have := hk3 k3
      subst this
      exact C_sheetY hd hE h hs
    · have k3 : kind < 3 := by
        have : ¬ kind = 3 := fun y => z (by rw [y]; rfl)
        omega
      have := hkE k3
      subst this
      exact ⟨fun _ => ⟨fun _ => C_sheetY hd hE h hs, fun y => absurd y z⟩, fun y => absurd ((nI_leI (a := 0) (by decide) (by omega)).mpr (by omega)) y⟩
  · refine w80 ⟨fun _ => h.qk, fun y1 => ⟨fun _ => h.qk, fun y2 => ⟨fun y3 => ?_, fun _ => h.qk⟩⟩⟩
    exfalso
    rcases z with (z | z) | z
    · exact y1 z
    · exact y2 z
    · exact z y3
  · rintro kind hk rfl hv
    have hv8 : v ≤ 8 := Int32.le_of_lt (Int32.lt_of_lt_of_le hv (by decide))
    have n3 : ¬ nI kind = 3 := fun y => absurd ((nI_eq (b := 3) (by omega) (by decide)).mp y) (by omega)
    exact w80 ⟨fun z => absurd z (nI_nneg (by omega)), fun _ => ⟨fun z => absurd ((nI_ltI (a := 3) (by decide) (by omega)).mp z) (by omega), fun _ => ⟨fun _ => ⟨fun z => absurd z n3, fun _ => ⟨fun y => absurd hv (Int32.not_lt.mpr y), fun _ => h.qk⟩⟩, fun y => absurd hv8 y⟩⟩⟩
theorem R_sheet (hd : 1 ≤ d) (h : IR g un kp tx ts rw he sa M ML R) (hs : SO g un kp ts B) (a v f st : Int32) : (∀ kind E, kind ≤ 3 → E ≤ 8 → a = nI kind → v ≤ 8 → (kind < 3 → v = nI E) → (kind = 3 → E = 0) → wI (d + 1) 169 [.ref 219, .int a, .int v, .int f, .int st] M ML R (if a = 3 then RK (-3) (q_sh2 g E a f st).1 un kp tx ts rw he sa M ML R else RK (nI (q_sh2 g E a f st).2.2) (q_sh2 g E a f st).1 un kp tx ts rw he sa M ML R)) ∧ ((a < 0 ∨ 3 < a) ∨ ¬ v ≤ 8 → wI (d + 1) 169 [.ref 219, .int a, .int v, .int f, .int st] M ML R (RK (-1) g un kp tx ts rw he sa M ML R)) ∧ (∀ kind, kind < 3 → a = nI kind → v < 0 → wI (d + 1) 169 [.ref 219, .int a, .int v, .int f, .int st] M ML R (RK (-2) g un kp tx ts rw he sa M ML R)) := by
  have no : ∀ A, RK A g un kp tx ts rw he sa M ML R A (fm_u M 219 5 0) ML R := fun A => ⟨rfl, h.t0, t0_fr, fr.rfl, fr.rfl⟩
  refine ⟨?_, fun z => ?_, ?_⟩
  · rintro kind E hk hE rfl hv hkE hk3
    refine w169 (fun M1 e1 => ?_)
    subst e1
    refine R_in (by omega) ?_
    rw [show md_in (nI kind) 0 3 = 1 from in_y (lo := 0) (hi := 3) (by decide) (by omega) hk]
    refine ⟨fun y => absurd y (by decide), fun _ => ⟨fun _ => ⟨fun z => R_sheetY hd hk hkE hk3 hE h hs, fun z => ?_⟩, fun y => absurd hv y⟩⟩
    have k3 : kind < 3 := Nat.lt_of_not_le (fun y => z ((nI_leI (a := 3) (by decide) (by omega)).mpr y))
    have := hkE k3
    subst this
    exact ⟨fun _ => R_sheetY hd hk hkE hk3 hE h hs, fun y => absurd ((nI_leI (a := 0) (by decide) (by omega)).mpr (by omega)) y⟩
  · refine w169 (fun M1 e1 => ?_)
    subst e1
    refine R_in (by omega) ⟨fun _ => no _, fun y1 => ⟨fun y2 => ?_, fun _ => no _⟩⟩
    exfalso
    rcases z with z | z
    · exact y1 (in_n z)
    · exact z y2
  · rintro kind hk rfl hv
    have hv8 : v ≤ 8 := Int32.le_of_lt (Int32.lt_of_lt_of_le hv (by decide))
    refine w169 (fun M1 e1 => ?_)
    subst e1
    refine R_in (by omega) ?_
    rw [show md_in (nI kind) 0 3 = 1 from in_y (lo := 0) (hi := 3) (by decide) (by omega) (by omega)]
    exact ⟨fun y => absurd y (by decide), fun _ => ⟨fun _ => ⟨fun z => absurd ((nI_leI (a := 3) (by decide) (by omega)).mp z) (by omega), fun _ => ⟨fun y => absurd hv (Int32.not_lt.mpr y), fun _ => no _⟩⟩, fun y => absurd hv8 y⟩⟩
end sheet
