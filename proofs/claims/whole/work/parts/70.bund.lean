/-! what stands while a question is answered -/
def BC (g : gr) (ts : List Nat) (rw : List Int64) (M0 : Nat → Nat → Int32) (L0 : Nat → Nat → Int64) (M : Nat → Nat → Int32) (ML : Nat → Nat → Int64) : Prop := cr M 1 g ∧ tr M 40 ts ∧ IW M ML rw ∧ fr CS M0 M ∧ fr CL L0 ML
def BR (g : gr) (ts : List Nat) (rw : List Int64) (M0 : Nat → Nat → Int32) (L0 : Nat → Nat → Int64) (R0 : Nat → Nat → Option Nat) (M : Nat → Nat → Int32) (ML : Nat → Nat → Int64) (R : Nat → Nat → Option Nat) : Prop := rr (M 220) g ∧ JT M R ts ∧ JW M ML rw ∧ fr RS M0 M ∧ fr RLg L0 ML ∧ fr RR R0 R
/-- a class's scratch but the ROW -/
abbrev CT (a i : Nat) : Prop := (a = 1 ∧ 13 ≤ i) ∨ (12 ≤ a ∧ a ≤ 33) ∨ (a = 38 ∧ 2 ≤ i) ∨ a = 42 ∨ a = 43 ∨ (52 ≤ a ∧ a ≤ 64)
abbrev RT (a i : Nat) : Prop := (a = 219 ∧ ¬ i = 2 ∧ ¬ i = 4 ∧ ¬ i = 8 ∧ ¬ i = 19 ∧ ¬ i = 36 ∧ ¬ i = 39) ∨ a = 223 ∨ a = 224 ∨ (226 ≤ a ∧ a ≤ 235) ∨ a = 240 ∨ a = 241 ∨ a = 245
section bund
variable {d B : Nat} {g gk : gr} {ts : List Nat} {rw : List Int64} {M0 M M1 : Nat → Nat → Int32} {L0 ML L1 : Nat → Nat → Int64} {R0 R R1 : Nat → Nat → Option Nat}
theorem BC.f (h : BC g ts rw M0 L0 M ML) (f : fr CT M M1) : BC g ts rw M0 L0 M1 ML := by
  obtain ⟨h1, h2, h3, h4, h5⟩ := h
  exact ⟨cr_fr h1 (fun a i y1 y2 y3 => f a i (by omega)), tr_fr h2 (fun a i y => f a i (by omega)), IW_fr h3 (fun i => f _ i (by omega)) (fun _ => rfl), h4.tr (f.mono (fun a i z => by omega)), h5⟩
theorem BC.frl (h : BC g ts rw M0 L0 M ML) (f : fr (fun a _ => a = 53 ∨ a = 62) ML L1) : BC g ts rw M0 L0 M L1 := by
  obtain ⟨h1, h2, h3, h4, h5⟩ := h
  exact ⟨h1, h2, IW_fr h3 (fun _ => rfl) (fun i => f _ i (by omega)), h4, h5.tr (f.mono (fun a i z => by omega))⟩
theorem BC.u (h : BC g ts rw M0 L0 M ML) {a i : Nat} {x : Int32} (k : CT a i) : BC g ts rw M0 L0 (fm_u M a i x) ML := h.f (fr_u k)
theorem BC.q (h : BC g ts rw M0 L0 M ML) {A : Int32} : CQ A rw M0 L0 R A M ML R := ⟨rfl, h.2.2.1, h.2.2.2.1, h.2.2.2.2, rfl⟩
theorem BR.f (h : BR g ts rw M0 L0 R0 M ML R) (f : fr RT M M1) : BR g ts rw M0 L0 R0 M1 ML R := by
  obtain ⟨h1, h2, h3, h4, h5, h6⟩ := h
  exact ⟨rr_fr h1 (fun i => f _ i (by omega)), JT_fr h2 (fun a i y => f a i (by omega)) rfl rfl, JW_fr h3 (f _ _ (by omega)) (fun _ => rfl), h4.tr (f.mono (fun a i z => by omega)), h5, h6⟩
theorem BR.frl (h : BR g ts rw M0 L0 R0 M ML R) (f : fr (fun a i => a = 219 ∧ 9 ≤ i ∧ i ≤ 10) ML L1) : BR g ts rw M0 L0 R0 M L1 R := by
  obtain ⟨h1, h2, h3, h4, h5, h6⟩ := h
  exact ⟨h1, h2, JW_fr h3 rfl (fun i => f _ i (by omega)), h4, h5.tr (f.mono (fun a i z => by omega)), h6⟩
theorem BR.u (h : BR g ts rw M0 L0 R0 M ML R) {a i : Nat} {x : Int32} (k : RT a i) : BR g ts rw M0 L0 R0 (fm_u M a i x) ML R := h.f (fr_u k)
theorem BR.z (h : BR g ts rw M0 L0 R0 M ML R) : BR g ts [] M0 L0 R0 (fm_u M 219 4 0) ML R := by
  obtain ⟨h1, h2, h3, h4, h5, h6⟩ := h
  have f : fr (fun a i => a = 219 ∧ i = 4) M (fm_u M 219 4 0) := fr_u ⟨rfl, rfl⟩
  exact ⟨rr_fr h1 (fun i => f _ i (by omega)), JT_fr h2 (fun a i y => f a i (by omega)) rfl rfl, JW_0 fm_u_at, h4.tr (f.mono (fun a i z => by omega)), h5, h6⟩
theorem BR.q (h : BR g ts rw M0 L0 R0 M ML R) {A : Int32} : RQ A rw M0 L0 R0 A M ML R := ⟨rfl, h.2.2.1, h.2.2.2.1, h.2.2.2.2.1, h.2.2.2.2.2⟩
theorem IC.b {un : List gr} {kp : Nat → Option gr} {tx : List Nat} {he sa : List (Nat × Nat)} (h : IC g un kp tx ts rw he sa M ML R) : BC g ts rw M ML M ML := ⟨h.2.1, h.2.2.2.2.1, h.2.2.2.2.2.1, fr.rfl, fr.rfl⟩
theorem IR.b {un : List gr} {kp : Nat → Option gr} {tx : List Nat} {he sa : List (Nat × Nat)} (h : IR g un kp tx ts rw he sa M ML R) : BR g ts rw M ML R M ML R := ⟨h.1, h.2.2.2.1, h.2.2.2.2.1, fr.rfl, fr.rfl, fr.rfl⟩
theorem B_clear {K : wKv} (hd : 1 ≤ d) (h : BC g ts rw M0 L0 M ML) (hK : ∀ M1, BC g ts [] M0 L0 M1 ML → fr (fun a _ => a = 44) M M1 → K M1 ML R) : wV d 15 [.ref 44] M ML R K := by
  obtain ⟨h1, h2, h3, h4, h5⟩ := h
  exact C_clear hd (fun M1 w f => hK M1 ⟨cr_fr h1 (fun a i y1 y2 y3 => f a i (by omega)), tr_fr h2 (fun a i y => f a i (by omega)), w, h4.tr (f.mono (fun a i z => by omega)), h5⟩ f)
theorem B_add {K : wKv} (hd : 1 ≤ d) (h : BC g ts rw M0 L0 M ML) (h8 : rw.length < 8) (v : Int64) (hK : ∀ M1 L1, BC g ts (rw ++ [v]) M0 L0 M1 L1 → fr (fun a _ => a = 44) M M1 → fr (fun a _ => a = 45) ML L1 → K M1 L1 R) : wV d 16 [.ref 44, .long v] M ML R K := by
  obtain ⟨h1, h2, h3, h4, h5⟩ := h
  exact C_add hd h3 h8 v (fun M1 L1 w f f2 => hK M1 L1 ⟨cr_fr h1 (fun a i y1 y2 y3 => f a i (by omega)), tr_fr h2 (fun a i y => f a i (by omega)), w, h4.tr (f.mono (fun a i z => by omega)), h5.tr (f2.mono (fun a i z => by omega))⟩ f f2)
theorem B_tell {K : wKv} (hd : 1 ≤ d) (h : BR g ts rw M0 L0 R0 M ML R) (h8 : rw.length < 16) (v : Int64) (hK : ∀ M1 L1, BR g ts (rw ++ [v]) M0 L0 R0 M1 L1 R → fr (fun a i => a = 219 ∧ i = 4) M M1 → fr (fun a _ => a = 222) ML L1 → K M1 L1 R) : wV d 135 [.ref 219, .long v] M ML R K := by
  obtain ⟨h1, h2, h3, h4, h5, h6⟩ := h
  exact R_tell hd h3 h8 v (fun M1 L1 w f f2 => hK M1 L1 ⟨rr_fr h1 (fun i => f _ i (by omega)), JT_fr h2 (fun a i y => f a i (by omega)) rfl rfl, w, h4.tr (f.mono (fun a i z => by omega)), h5.tr (f2.mono (fun a i z => by omega)), h6⟩ f f2)
/-- later: now is copied there; a SLOT goes by there -/
theorem B_later {K : wKv} (hd : 1 ≤ d) (h : BC g ts rw M0 L0 M ML) (hK : ∀ M1, BC g ts rw M0 L0 M1 ML → cr M1 23 g → fr (fun a _ => 23 ≤ a ∧ a ≤ 33) M M1 → K M1 ML R) : wV d 48 [.ref 23, .ref 1] M ML R K :=
  C_copy fm_W23 fm_W1 (by omega) hd h.1 (fun M1 c f _ => by
    have f2 : fr (fun a _ => 23 ≤ a ∧ a ≤ 33) M M1 := fr_off (fun a => 23 ≤ a ∧ a ≤ 33) (fun a ha => f a (by omega)) (fun a i y => y)
    exact hK M1 (h.f (f2.mono (fun a i z => by omega))) c f2)
theorem B_go {K : wKv} (hd : 5 ≤ d) (h : BC g ts rw M0 L0 M ML) (hc : cr M 23 gk) (hg : gok gk B) (hB : B < 2 ^ 21) (hts : tsok ts) (held : Int32) (hK : ∀ M1, BC g ts rw M0 L0 M1 ML → cr M1 23 (g_go gk ts held) → M1 23 13 = nI (g_rn gk ts held) → M1 23 14 = nI (bc (g_w gk held)) → M1 23 15 = nI (g_ms (g_d2 gk (g_rn gk ts held)) 8) → fr (fun a _ => 23 ≤ a ∧ a ≤ 33) M M1 → K M1 ML R) : wV d 63 [.ref 23, .ref 40, .int held] M ML R K :=
  C_go fm_W23 fm_T40 (by omega) hd hc hg hB h.2.1 hts held (fun M1 c h13 h14 h15 _ f => by
    have f2 : fr (fun a _ => 23 ≤ a ∧ a ≤ 33) M M1 := fr_off (fun a => 23 ≤ a ∧ a ≤ 33) (fun a ha => f a (by omega)) (fun a i y => y)
    exact hK M1 (h.f (f2.mono (fun a i z => by omega))) c h13 h14 h15 f2)
theorem B_then {K : wKv} (hd : 1 ≤ d) (h : BR g ts rw M0 L0 R0 M ML R) (hK : ∀ M1, BR g ts rw M0 L0 R0 M1 ML R → rr (M1 227) g → fr (fun a _ => a = 227) M M1 → K M1 ML R) : wV d 170 [.ref 220, .ref 227, .int 0] M ML R K :=
  R_then hd h.1 (fun M1 c f => hK M1 (h.f (f.mono (fun a i z => by omega))) c f)
theorem B_goSlot {K : wK} (hd : 7 ≤ d) (h : BR g ts rw M0 L0 R0 M ML R) (ha : rr (M 227) gk) (hg : gok gk B) (hB : B < 2 ^ 21) (hts : tsok ts) (kept : Int32) (hK : ∀ M1, BR g ts rw M0 L0 R0 M1 ML R → rr (M1 227) (g_go gk ts kept) → M1 219 22 = nI (bc (g_w gk kept)) → M1 219 23 = nI (g_ms (g_d2 gk (g_rn gk ts kept)) 8) → fr (fun a i => (a = 219 ∧ (i = 22 ∨ i = 23)) ∨ a = 223 ∨ a = 227) M M1 → K (nI (g_rn gk ts kept)) M1 ML R) : wI d 172 [.ref 219, .ref 227, .int kept] M ML R K :=
  R_go fm_N227 (by omega) hd h.2.1 hts ha hg hB kept (fun M1 f h22 h23 hr => hK M1 (h.f (f.mono (fun a i z => by omega))) hr h22 h23 f)
end bund
def g_nw (g : gr) (ts : List Nat) : gr := g_go g ts (-1)
theorem g_go_41 (g : gr) (ts : List Nat) (held : Int32) : g_go g ts held 41 = g 41 + 1 := g_st_41
theorem g_go_lo {g : gr} {ts : List Nat} {held : Int32} {k : Nat} (h : k < 32 ∨ k = 40) : g_go g ts held k = g k := g_st_lo h
theorem g_go_42 (g : gr) (ts : List Nat) (held : Int32) : g_go g ts held 42 = g 42 + bc (g_ms (g_d2 g (g_rn g ts held)) 8) := g_st_42
/-- misses: none, or where and who -/
def q_ms (ts : List Nat) (rw : List Int64) : Nat → gr → Int32 × List Int64
  | 0, _ => (-2, rw)
  | n + 1, g => if g_ms (g_d2 g (g_rn g ts (-1))) 8 = 0 then q_ms ts rw n (g_go g ts (-1)) else (nI (g 41), [nL (g_ms (g_d2 g (g_rn g ts (-1))) 8)])
section misses
variable {d B : Nat} {g gk : gr} {ts : List Nat} {rw : List Int64} {M0 M : Nat → Nat → Int32} {L0 ML : Nat → Nat → Int64} {R0 R : Nat → Nat → Option Nat}
theorem g_ms_lt (g : gr) : g_ms g 8 < 256 := bm_lt _ 8 (by omega)
theorem H_misses (hd : 5 ≤ d) (hts : tsok ts) : ∀ n k, k + n = 99 → ∀ {B : Nat} {gk : gr} {M : Nat → Nat → Int32}, B + n < 2 ^ 21 → gok gk B → BC g ts rw M0 L0 M ML → cr M 23 gk → H98_13 d (nI k) M ML R (CQ (q_ms ts rw n gk).1 (q_ms ts rw n gk).2 M0 L0 R) := by
  intro n
  induction n with
  | zero =>
    intro k hk B gk M hB hg h hc
    refine h98_13 ⟨fun _ => h.q, fun z => absurd ((nI_leI (a := 99) (by decide) (by omega)).mpr (by omega)) z⟩
  | succ n ih =>
    intro k hk B gk M hB hg h hc
    refine h98_13 ⟨fun z => absurd ((nI_leI (a := 99) (by decide) (by omega)).mp z) (by omega), fun _ => ?_⟩
    refine B_go hd h hc hg (by omega) hts (-1) (fun M1 h1 c1 h13 h14 h15 f => ?_)
    rw [q_ms]
    have hl := g_ms_lt (g_d2 gk (g_rn gk ts (-1)))
    by_cases z : g_ms (g_d2 gk (g_rn gk ts (-1))) 8 = 0
    · rw [if_pos z, nI_1]
      refine ⟨fun _ => ih (k + 1) (by omega) (B := B + 1) (by omega) (gok_go hg ts (-1)) h1 c1, fun y => absurd (by rw [h15, z]; rfl) y⟩
    · rw [if_neg z]
      refine ⟨fun y => absurd y (by rw [h15]; exact nI_ne0 (by omega) (by omega)), fun _ => ?_⟩
      refine B_clear (by omega) h1 (fun M2 h2 f2 => ?_)
      refine B_add (by omega) h2 (by decide) _ (fun M3 L3 h3 f3 _ => ?_)
      rw [f2 23 15 (by decide), h15] at h3
      rw [hc.2.1]
      exact h3.q
theorem C_misses {un : List gr} {kp : Nat → Option gr} {tx : List Nat} {he sa : List (Nat × Nat)} (hd : 5 ≤ d) (h : IC g un kp tx ts rw he sa M ML R) (hs : SO g un kp ts B) (hB : B < 2 ^ 20) : wI (d + 1) 98 [.ref 0] M ML R (CQ (q_ms ts rw 99 g).1 (q_ms ts rw 99 g).2 M ML R) := by
  refine w98 (B_later (by omega) h.b (fun M1 h1 c1 f1 => ?_))
  exact H_misses hd hs.2.2.2 99 0 (by omega) (B := B) (by omega) hs.1 h1 c1
theorem R_misses1 (hd : 7 ≤ d) (hts : tsok ts) (hg0 : g 41 < 2 ^ 21) : ∀ n k, k + n = 99 → ∀ {B : Nat} {gk : gr} {M : Nat → Nat → Int32}, B + n < 2 ^ 21 → gok gk B → gk 41 = g 41 + k → BR g ts rw M0 L0 R0 M ML R → rr (M 227) gk → H195_19 d (nI k) M ML R (RQ (q_ms ts rw n gk).1 (q_ms ts rw n gk).2 M0 L0 R0) := by
  intro n
  induction n with
  | zero =>
    intro k hk B gk M hB hg hk2 h hc
    refine h195_19 ⟨fun _ => h.q, fun z => absurd ((nI_leI (a := 99) (by decide) (by omega)).mpr (by omega)) z⟩
  | succ n ih =>
    intro k hk B gk M hB hg hk2 h hc
    refine h195_19 ⟨fun z => absurd ((nI_leI (a := 99) (by decide) (by omega)).mp z) (by omega), fun _ => ?_⟩
    refine B_goSlot hd h hc hg (by omega) hts (-1) (fun M1 h1 c1 h22 h23 f => ?_)
    rw [q_ms]
    have hl := g_ms_lt (g_d2 gk (g_rn gk ts (-1)))
    by_cases z : g_ms (g_d2 gk (g_rn gk ts (-1))) 8 = 0
    · rw [if_pos z, nI_1]
      refine ⟨fun y => absurd (by rw [h23, z]; rfl) y, fun _ => ih (k + 1) (by omega) (B := B + 1) (by omega) (gok_go hg ts (-1)) (by rw [g_go_41]; omega) h1 c1⟩
    · rw [if_neg z]
      refine ⟨fun _ M2 e2 => ?_, fun y => absurd y (by rw [h23]; exact nI_ne0 (by omega) (by omega))⟩
      subst e2
      refine B_tell (by omega) h1.z (by decide) _ (fun M3 L3 h3 f3 _ => ?_)
      rw [fm_u_ix (by decide), h23] at h3
      rw [h3.1 41 (by omega), nI_add, ← hk2]
      exact h3.q
theorem R_misses {un : List gr} {kp : Nat → Option gr} {tx : List Nat} {he sa : List (Nat × Nat)} (hd : 7 ≤ d) (h : IR g un kp tx ts rw he sa M ML R) (hs : SO g un kp ts B) (hB : B < 2 ^ 20) : wI (d + 1) 195 [.ref 219] M ML R (RQ (q_ms ts rw 99 g).1 (q_ms ts rw 99 g).2 M ML R) := by
  refine w195 (fun M1 e1 => ?_)
  subst e1
  refine B_then (by omega) (h.b.u (by omega)) (fun M2 h2 c2 f2 => ?_)
  exact R_misses1 hd hs.2.2.2 (by have := hs.1.2.2.1; omega) 99 0 (by omega) (B := B) (by omega) hs.1 rfl h2 c2
end misses
