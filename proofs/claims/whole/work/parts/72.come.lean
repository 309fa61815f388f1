section come2
variable {d B : Nat} {g gk : gr} {ts tx : List Nat} {rw : List Int64} {un : List gr} {kp : Nat → Option gr} {he sa : List (Nat × Nat)} {M0 M : Nat → Nat → Int32} {L0 ML : Nat → Nat → Int64} {R0 R : Nat → Nat → Option Nat}
/-! share -/
def q_sh (ts : List Nat) (q : Nat) : Nat → gr → Int32 → Int32 → Int32 → Int32 → Int32 → Int32 × Int32 × Int32
  | 0, _, x3, _, _, x6, x7 => (x3, x6, x7)
  | n + 1, gk, x3, x4, x5, x6, x7 => if (g_rn gk ts (-1)).testBit q = true then q_sh ts q n (g_go gk ts (-1)) (x3 + 1) (x4 + 1) 0 (jd_max x6 (x4 + 1)) (jd_max x7 0) else q_sh ts q n (g_go gk ts (-1)) (x3 + 0) 0 (x5 + 1) (jd_max x6 0) (jd_max x7 (x5 + 1))
def q_shW (s : Int32 × Int32 × Int32) : List Int64 := [s.2.1.toInt64, s.2.2.toInt64]
theorem C_share1 (hd : 5 ≤ d) (hts : tsok ts) {q N : Nat} (hq : q < 8) (hN : N ≤ 60) : ∀ n k, k + n = N → ∀ {B : Nat} {gk : gr} {M : Nat → Nat → Int32} {x3 x4 x5 x6 x7 : Int32}, B + n < 2 ^ 21 → gok gk B → BC g ts rw M0 L0 M ML → cr M 23 gk → H100_52 d (nI q) (nI N) x3 x4 x5 x6 x7 (nI k) M ML R (CQ (q_sh ts q n gk x3 x4 x5 x6 x7).1 (q_shW (q_sh ts q n gk x3 x4 x5 x6 x7)) M0 L0 R) := by
  intro n
  induction n with
  | zero =>
    intro k hk B gk M x3 x4 x5 x6 x7 hB hg h hc
    refine h100_52 ⟨fun _ => ?_, fun z => absurd ((nI_leI (by omega) (by omega)).mpr (by omega)) z⟩
    refine B_clear (by omega) h (fun M1 h1 _ => ?_)
    refine B_add (by omega) h1 (by decide) _ (fun M2 L2 h2 _ _ => ?_)
    refine B_add (by omega) h2 (by simp) _ (fun M3 L3 h3 _ _ => ?_)
    exact h3.q
  | succ n ih =>
    intro k hk B gk M x3 x4 x5 x6 x7 hB hg h hc
    refine h100_52 ⟨fun z => absurd ((nI_leI (by omega) (by omega)).mp z) (by omega), fun _ => ?_⟩
    refine B_go hd h hc hg (by omega) hts (-1) (fun M1 h1 c1 h13 h14 h15 f => ?_)
    refine C_run fm_W23 (by omega) (g_rn_lt _ _ _) h13 hq ?_
    rw [q_sh]
    have hg1 := gok_go hg ts (-1)
    by_cases z : (g_rn gk ts (-1)).testBit q = true
    · rw [if_pos z, if_pos z]
      simp only [i1n, false_implies, true_and, not_false_eq_true, true_implies]
      refine R_max (by omega) (R_max (by omega) ?_)
      rw [nI_1]
      exact ih (k + 1) (by omega) (B := B + 1) (by omega) hg1 h1 c1
    · rw [if_neg z, if_neg z]
      simp only [i0y, not_true_eq_false, false_implies, and_true, true_implies]
      refine R_max (by omega) (R_max (by omega) ?_)
      rw [nI_1]
      exact ih (k + 1) (by omega) (B := B + 1) (by omega) hg1 h1 c1
theorem C_share (hd : 5 ≤ d) (h : IC g un kp tx ts rw he sa M ML R) (hs : SO g un kp ts B) (hB : B < 2 ^ 20) (t v : Int32) : (∀ q i, q < 8 → t = nI q → 0 < g q → 1 ≤ i → i ≤ 60 → v = nI i → wI (d + 1) 100 [.ref 0, .int t, .int v] M ML R (CQ (q_sh ts q i g 0 0 0 0 0).1 (q_shW (q_sh ts q i g 0 0 0 0 0)) M ML R)) ∧ (¬ th g t ∨ v < 1 ∨ 60 < v → wI (d + 1) 100 [.ref 0, .int t, .int v] M ML R (CQ (-1) rw M ML R)) := by
  constructor
  · rintro q i hq rfl h0 h1 h2 rfl
    refine w100 (C_th fm_W1 (by omega) h.2.1 hs.1 _ (fun q' hq' e h0' => ?_) (fun z => absurd ((th_nI hq).mpr h0) z))
    refine ⟨fun z => absurd z (by decide), fun _ => ⟨fun z => absurd ((nI_leI (a := 1) (by decide) (by omega)).mpr (by omega)) (Int32.not_le.mpr z), fun _ => ⟨fun _ => ?_, fun z => absurd ((nI_leI (b := 60) (by omega) (by decide)).mpr (by omega)) z⟩⟩⟩
    refine B_later (by omega) h.b (fun M1 h1 c1 _ => ?_)
    exact C_share1 hd hs.2.2.2 hq h2 i 0 (by omega) (B := B) (by omega) hs.1 h1 c1
  · intro z
    refine w100 (C_th fm_W1 (by omega) h.2.1 hs.1 _ (fun q' hq' e h0' => ?_) (fun _ => ⟨fun _ => h.b.q, fun y => absurd rfl y⟩))
    subst e
    have z := z.resolve_left (fun y => y ((th_nI hq').mpr h0'))
    exact ⟨fun y => absurd y (by decide), fun _ => ⟨fun _ => h.b.q, fun y => ⟨fun y2 => absurd y2 (Int32.not_le.mpr (z.resolve_left y)), fun _ => h.b.q⟩⟩⟩
theorem R_share1 (hd : 7 ≤ d) (hts : tsok ts) {q N : Nat} (hq : q < 8) (hN : N ≤ 60) : ∀ n k, k + n = N → ∀ {B : Nat} {gk : gr} {M : Nat → Nat → Int32} {x3 x4 x5 x6 x7 : Int32}, B + n < 2 ^ 21 → gok gk B → BR g ts rw M0 L0 R0 M ML R → rr (M 227) gk → H197_54 d (nI q) (nI N) x3 x4 x5 x6 x7 (nI k) M ML R (RQ (q_sh ts q n gk x3 x4 x5 x6 x7).1 (q_shW (q_sh ts q n gk x3 x4 x5 x6 x7)) M0 L0 R0) := by
  intro n
  induction n with
  | zero =>
    intro k hk B gk M x3 x4 x5 x6 x7 hB hg h hc
    refine h197_54 ⟨fun _ M1 e1 => ?_, fun z => absurd ((nI_leI (by omega) (by omega)).mpr (by omega)) z⟩
    subst e1
    refine B_tell (by omega) h.z (by decide) _ (fun M2 L2 h2 _ _ => ?_)
    refine B_tell (by omega) h2 (by simp) _ (fun M3 L3 h3 _ _ => ?_)
    exact h3.q
  | succ n ih =>
    intro k hk B gk M x3 x4 x5 x6 x7 hB hg h hc
    refine h197_54 ⟨fun z => absurd ((nI_leI (by omega) (by omega)).mp z) (by omega), fun _ => ?_⟩
    refine B_goSlot hd h hc hg (by omega) hts (-1) (fun M1 h1 c1 h22 h23 f => ?_)
    refine R_has (by omega) (g_rn_lt _ _ _) hq ?_
    rw [q_sh]
    have hg1 := gok_go hg ts (-1)
    by_cases z : (g_rn gk ts (-1)).testBit q = true
    · rw [if_pos z, if_pos z]
      simp only [i1n, false_implies, true_and, not_false_eq_true, true_implies]
      refine R_max (by omega) (R_max (by omega) ?_)
      rw [nI_1]
      exact ih (k + 1) (by omega) (B := B + 1) (by omega) hg1 h1 c1
    · rw [if_neg z, if_neg z]
      simp only [i0y, not_true_eq_false, false_implies, and_true, true_implies]
      refine R_max (by omega) (R_max (by omega) ?_)
      rw [nI_1]
      exact ih (k + 1) (by omega) (B := B + 1) (by omega) hg1 h1 c1
theorem R_share (hd : 7 ≤ d) (h : IR g un kp tx ts rw he sa M ML R) (hs : SO g un kp ts B) (hB : B < 2 ^ 20) (t v : Int32) : (∀ q i, q < 8 → t = nI q → 0 < g q → 1 ≤ i → i ≤ 60 → v = nI i → wI (d + 1) 197 [.ref 219, .int t, .int v] M ML R (RQ (q_sh ts q i g 0 0 0 0 0).1 (q_shW (q_sh ts q i g 0 0 0 0 0)) M ML R)) ∧ (¬ th g t ∨ v < 1 ∨ 60 < v → wI (d + 1) 197 [.ref 219, .int t, .int v] M ML R (RQ (-1) rw M ML R)) := by
  have hb := h.b.u (a := 219) (i := 5) (x := 0) (by omega)
  constructor
  · rintro q i hq rfl h0 h1 h2 rfl
    refine w197 (fun M1 e1 => ?_)
    subst e1
    refine R_task (by omega) hb.1 hs.1 _ (fun q' hq' e h0' => ?_) (fun z => absurd ((th_nI hq).mpr h0) z)
    refine ⟨fun z => absurd z (by decide), fun _ => R_in (by omega) ?_⟩
    rw [show md_in (nI i) 1 60 = 1 from in_y (lo := 1) (hi := 60) (by decide) h1 h2]
    refine ⟨fun _ => ?_, fun z => absurd z (by decide)⟩
    refine B_then (by omega) hb (fun M1 h1 c1 _ => ?_)
    exact R_share1 hd hs.2.2.2 hq h2 i 0 (by omega) (B := B) (by omega) hs.1 h1 c1
  · intro z
    refine w197 (fun M1 e1 => ?_)
    subst e1
    refine R_task (by omega) hb.1 hs.1 _ (fun q' hq' e h0' => ?_) (fun _ => ⟨fun _ => hb.q, fun y => absurd rfl y⟩)
    subst e
    have z := z.resolve_left (fun y => y ((th_nI hq').mpr h0'))
    refine ⟨fun y => absurd y (by decide), fun _ => R_in (by omega) ?_⟩
    rw [in_n z]
    exact ⟨fun y => absurd rfl y, fun _ => hb.q⟩
/-! waits -/
/-- whether a miss comes, the next PART of q being kept while k < w -/
def q_mk (ts : List Nat) (q w : Nat) : Nat → Nat → gr → Bool
  | 0, _, _ => false
  | n + 1, k, gk => if g_ms (g_d2 gk (g_rn gk ts (if w ≤ k then -1 else nI q))) 8 = 0 then q_mk ts q w n (k + 1) (g_go gk ts (if w ≤ k then -1 else nI q)) else true
theorem C_mk1 {K : wK} (hd : 5 ≤ d) (hts : tsok ts) {q w : Nat} (hw : w ≤ 12) (b : Bool) (hK : ∀ M1, BC g ts rw M0 L0 M1 ML → K (if b = true then 1 else 0) M1 ML R) : ∀ n k, k + n = 60 → ∀ {B : Nat} {gk : gr} {M : Nat → Nat → Int32}, B + n < 2 ^ 21 → gok gk B → BC g ts rw M0 L0 M ML → cr M 23 gk → q_mk ts q w n k gk = b → H106_13 d (nI q) (nI w) (nI k) M ML R K := by
  intro n
  induction n with
  | zero =>
    intro k hk B gk M hB hg h hc e
    have e : false = b := e
    subst e
    exact h106_13 ⟨fun _ => hK M h, fun z => absurd ((nI_leI (a := 60) (by decide) (by omega)).mpr (by omega)) z⟩
  | succ n ih =>
    intro k hk B gk M hB hg h hc e
    rw [q_mk] at e
    have fin : ∀ held M1, g_ms (g_d2 gk (g_rn gk ts held)) 8 = g_ms (g_d2 gk (g_rn gk ts (if w ≤ k then -1 else nI q))) 8 → g_go gk ts held = g_go gk ts (if w ≤ k then -1 else nI q) → BC g ts rw M0 L0 M1 ML → cr M1 23 (g_go gk ts held) → M1 23 15 = nI (g_ms (g_d2 gk (g_rn gk ts held)) 8) → (M1 23 15 = 0 → H106_13 d (nI q) (nI w) (nI k + 1) M1 ML R K) ∧ (¬ M1 23 15 = 0 → K 1 M1 ML R) := by
      intro held M1 e1 e2 h1 c1 h15
      have hl := g_ms_lt (g_d2 gk (g_rn gk ts held))
      rw [← e1, ← e2] at e
      by_cases z : g_ms (g_d2 gk (g_rn gk ts held)) 8 = 0
      · rw [if_pos z] at e
        rw [nI_1]
        exact ⟨fun _ => ih (k + 1) (by omega) (B := B + 1) (by omega) (gok_go hg ts held) h1 c1 e, fun y => absurd (by rw [h15, z]; rfl) y⟩
      · rw [if_neg z] at e
        subst e
        exact ⟨fun y => absurd y (by rw [h15]; exact nI_ne0 (by omega) (by omega)), fun _ => hK M1 h1⟩
    refine h106_13 ⟨fun z => absurd ((nI_leI (a := 60) (by decide) (by omega)).mp z) (by omega), fun _ => ⟨fun z => ?_, fun z => ?_⟩⟩
    · have z2 := (nI_leI (by omega) (by omega)).mp z
      refine B_go hd h hc hg (by omega) hts (-1) (fun M1 h1 c1 h13 h14 h15 f => fin (-1) M1 (by rw [if_pos z2]) (by rw [if_pos z2]) h1 c1 h15)
    · have z2 : ¬ w ≤ k := fun y => z ((nI_leI (by omega) (by omega)).mpr y)
      refine B_go hd h hc hg (by omega) hts (nI q) (fun M1 h1 c1 h13 h14 h15 f => fin (nI q) M1 (by rw [if_neg z2]) (by rw [if_neg z2]) h1 c1 h15)
/-- the most SLOTS that it can wait: from w on, x before -/
def q_wt (g : gr) (ts : List Nat) (q : Nat) : Nat → Nat → Int32 → Int32
  | 0, _, x => x
  | n + 1, w, x => if q_mk ts q w 60 0 g = true then x else q_wt g ts q n (w + 1) (nI w)
theorem C_waits1 (hd : 5 ≤ d) (hts : tsok ts) (hg : gok g B) (hB : B < 2 ^ 20) {q : Nat} : ∀ n w, w + n = 13 → ∀ {M : Nat → Nat → Int32} {x : Int32}, BC g ts rw M0 L0 M ML → H105_18 (d + 1) (nI q) x (nI w) M ML R (CQ (q_wt g ts q n w x) rw M0 L0 R) := by
  intro n
  induction n with
  | zero =>
    intro w hw M x h
    exact h105_18 ⟨fun _ => h.q, fun z => absurd ((nI_ltI (a := 12) (by decide) (by omega)).mpr (by omega)) z⟩
  | succ n ih =>
    intro w hw M x h
    refine h105_18 ⟨fun z => absurd ((nI_ltI (a := 12) (by decide) (by omega)).mp z) (by omega), fun _ => ?_⟩
    refine w106 (B_later (by omega) h (fun M1 h1 c1 _ => ?_))
    refine C_mk1 hd hts (by omega) (q_mk ts q w 60 0 g) (fun M2 h2 => ?_) 60 0 (by omega) (B := B) (by omega) hg h1 c1 rfl
    rw [q_wt]
    by_cases z : q_mk ts q w 60 0 g = true
    · rw [if_pos z, if_pos z]
      exact ⟨fun y => absurd y (by decide), fun _ => h2.q⟩
    · rw [if_neg z, if_neg z, nI_1]
      exact ⟨fun _ => ih (w + 1) (by omega) h2, fun y => absurd rfl y⟩
theorem C_waits (hd : 5 ≤ d) (h : IC g un kp tx ts rw he sa M ML R) (hs : SO g un kp ts B) (hB : B < 2 ^ 20) (t : Int32) : (∀ q, q < 8 → t = nI q → 0 < g q → wI (d + 2) 105 [.ref 0, .int t] M ML R (CQ (q_wt g ts q 13 0 (-2)) rw M ML R)) ∧ (¬ th g t → wI (d + 2) 105 [.ref 0, .int t] M ML R (CQ (-1) rw M ML R)) := by
  constructor
  · rintro q hq rfl h0
    refine w105 (C_th fm_W1 (by omega) h.2.1 hs.1 _ (fun q' hq' e h0' => ⟨fun _ => ?_, fun z => absurd z (by decide)⟩) (fun z => absurd ((th_nI hq).mpr h0) z))
    exact C_waits1 hd hs.2.2.2 hs.1 hB 13 0 (by omega) h.b
  · intro z
    refine w105 (C_th fm_W1 (by omega) h.2.1 hs.1 _ (fun q' hq' e h0' => absurd ⟨q', hq', e, h0'⟩ z) (fun _ => ⟨fun y => absurd rfl y, fun _ => h.b.q⟩))
/-- the reference's inner loop: x3 tells whether none was missed so far -/
theorem R_mk1 {K : wK} (hd : 7 ≤ d) (hts : tsok ts) {q w : Nat} (hw : w ≤ 12) (b : Bool) (hK : ∀ M1, BR g ts rw M0 L0 R0 M1 ML R → (if b = true then (¬ nI w = 0 → K (nI w - 1) M1 ML R) ∧ (nI w = 0 → K (-2) M1 ML R) else H204_17 d (nI q) (nI (w + 1)) M1 ML R K)) : ∀ n k, k + n = 60 → ∀ {B : Nat} {gk : gr} {M : Nat → Nat → Int32}, B + n < 2 ^ 21 → gok gk B → BR g ts rw M0 L0 R0 M ML R → rr (M 227) gk → q_mk ts q w n k gk = b → H204_40 d (nI q) (nI w) 1 (nI k) M ML R K := by
  have bad : ∀ (k : Nat) (M1 : Nat → Nat → Int32), BR g ts rw M0 L0 R0 M1 ML R → b = true → H204_40 d (nI q) (nI w) 0 (nI k) M1 ML R K := by
    intro k M1 h1 hb
    have h2 := hK M1 h1
    rw [if_pos hb] at h2
    exact h204_40 ⟨fun _ => ⟨fun y => absurd rfl y, fun _ => h2⟩, fun _ => ⟨fun _ => ⟨fun y => absurd rfl y, fun _ => h2⟩, fun y => absurd rfl y⟩⟩
  intro n
  induction n with
  | zero =>
    intro k hk B gk M hB hg h hc e
    have e : false = b := e
    subst e
    have h2 := hK M h
    rw [if_neg (by decide)] at h2
    refine h204_40 ⟨fun _ => ⟨fun _ => by rw [nI_1]; exact h2, fun y => absurd y (by decide)⟩, fun z => absurd ((nI_leI (a := 60) (by decide) (by omega)).mpr (by omega)) z⟩
  | succ n ih =>
    intro k hk B gk M hB hg h hc e
    rw [q_mk] at e
    have fin : ∀ held M1, g_ms (g_d2 gk (g_rn gk ts held)) 8 = g_ms (g_d2 gk (g_rn gk ts (if w ≤ k then -1 else nI q))) 8 → g_go gk ts held = g_go gk ts (if w ≤ k then -1 else nI q) → BR g ts rw M0 L0 R0 M1 ML R → rr (M1 227) (g_go gk ts held) → M1 219 23 = nI (g_ms (g_d2 gk (g_rn gk ts held)) 8) → (¬ M1 219 23 = 0 → H204_40 d (nI q) (nI w) 0 (nI k + 1) M1 ML R K) ∧ (M1 219 23 = 0 → H204_40 d (nI q) (nI w) 1 (nI k + 1) M1 ML R K) := by
      intro held M1 e1 e2 h1 c1 h15
      have hl := g_ms_lt (g_d2 gk (g_rn gk ts held))
      rw [← e1, ← e2] at e
      rw [nI_1]
      by_cases z : g_ms (g_d2 gk (g_rn gk ts held)) 8 = 0
      · rw [if_pos z] at e
        exact ⟨fun y => absurd (by rw [h15, z]; rfl) y, fun _ => ih (k + 1) (by omega) (B := B + 1) (by omega) (gok_go hg ts held) h1 c1 e⟩
      · rw [if_neg z] at e
        exact ⟨fun _ => bad (k + 1) M1 h1 e.symm, fun y => absurd y (by rw [h15]; exact nI_ne0 (by omega) (by omega))⟩
    refine h204_40 ⟨fun z => absurd ((nI_leI (a := 60) (by decide) (by omega)).mp z) (by omega), fun _ => ⟨fun y => absurd y (by decide), fun _ => ⟨fun z => ?_, fun z => ?_⟩⟩⟩
    · have z2 := (nI_leI (by omega) (by omega)).mp z
      refine B_goSlot hd h hc hg (by omega) hts (-1) (fun M1 h1 c1 h22 h23 f => fin (-1) M1 (by rw [if_pos z2]) (by rw [if_pos z2]) h1 c1 h23)
    · have z2 : ¬ w ≤ k := fun y => z ((nI_leI (by omega) (by omega)).mpr y)
      refine B_goSlot hd h hc hg (by omega) hts (nI q) (fun M1 h1 c1 h22 h23 f => fin (nI q) M1 (by rw [if_neg z2]) (by rw [if_neg z2]) h1 c1 h23)
theorem R_waits1 (hd : 7 ≤ d) (hts : tsok ts) (hg : gok g B) (hB : B < 2 ^ 20) {q : Nat} : ∀ n w, w + n = 13 → ∀ {M : Nat → Nat → Int32}, BR g ts rw M0 L0 R0 M ML R → H204_17 d (nI q) (nI w) M ML R (RQ (q_wt g ts q n w (if w = 0 then -2 else nI (w - 1))) rw M0 L0 R0) := by
  intro n
  induction n with
  | zero =>
    intro w hw M h
    have : w = 13 := by omega
    subst this
    refine h204_17 ⟨fun _ => h.q, fun z => absurd (by decide) z⟩
  | succ n ih =>
    intro w hw M h
    refine h204_17 ⟨fun z => absurd ((nI_ltI (a := 12) (by decide) (by omega)).mp z) (by omega), fun _ => ?_⟩
    refine B_then (by omega) h (fun M1 h1 c1 _ => ?_)
    refine R_mk1 hd hts (by omega) (q_mk ts q w 60 0 g) (fun M2 h2 => ?_) 60 0 (by omega) (B := B) (by omega) hg h1 c1 rfl
    rw [q_wt]
    by_cases z : q_mk ts q w 60 0 g = true
    · rw [if_pos z, if_pos z]
      by_cases e : w = 0
      · subst e
        rw [if_pos rfl]
        exact ⟨fun y => absurd nI_0 y, fun _ => h2.q⟩
      · rw [if_neg e]
        refine ⟨fun _ => ?_, fun y => absurd y (nI_ne0 (by omega) (by omega))⟩
        rw [show nI w - 1 = nI (w - 1) from nI_sub (b := 1) (by omega)]
        exact h2.q
    · rw [if_neg z, if_neg z]
      have i2 := ih (w + 1) (by omega) h2
      rw [if_neg (by omega), show w + 1 - 1 = w by omega] at i2
      exact i2
theorem R_waits (hd : 7 ≤ d) (h : IR g un kp tx ts rw he sa M ML R) (hs : SO g un kp ts B) (hB : B < 2 ^ 20) (t : Int32) : (∀ q, q < 8 → t = nI q → 0 < g q → wI (d + 1) 204 [.ref 219, .int t] M ML R (RQ (q_wt g ts q 13 0 (-2)) rw M ML R)) ∧ (¬ th g t → wI (d + 1) 204 [.ref 219, .int t] M ML R (RQ (-1) rw M ML R)) := by
  have hb := h.b.u (a := 219) (i := 5) (x := 0) (by omega)
  constructor
  · rintro q hq rfl h0
    refine w204 (fun M1 e1 => ?_)
    subst e1
    refine R_task (by omega) hb.1 hs.1 _ (fun q' hq' e h0' => ⟨fun _ => ?_, fun z => absurd z (by decide)⟩) (fun z => absurd ((th_nI hq).mpr h0) z)
    exact R_waits1 hd hs.2.2.2 hs.1 hB 13 0 (by omega) hb
  · intro z
    refine w204 (fun M1 e1 => ?_)
    subst e1
    exact R_task (by omega) hb.1 hs.1 _ (fun q' hq' e h0' => absurd ⟨q', hq', e, h0'⟩ z) (fun _ => ⟨fun y => absurd rfl y, fun _ => hb.q⟩)
end come2
