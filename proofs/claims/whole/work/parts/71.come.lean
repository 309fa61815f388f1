/-! SLOTS to come -/
theorem i1n : ((1 : Int32) = 0) = False := by decide
theorem i0y : ((0 : Int32) = 0) = True := by decide
theorem i32_sub_sub (a b c : Int32) : a - b - c = a - (b + c) := by
  apply Int32.toBitVec_inj.mp
  simp only [Int32.toBitVec_sub, Int32.toBitVec_add]
  rw [BitVec.sub_eq_add_neg, BitVec.sub_eq_add_neg, BitVec.sub_eq_add_neg, BitVec.neg_add, BitVec.sub_eq_add_neg, BitVec.add_assoc]
def g_it (g : gr) (ts : List Nat) : Nat → gr
  | 0 => g
  | k + 1 => g_go (g_it g ts k) ts (-1)
theorem g_it_ok {g : gr} {B : Nat} (h : gok g B) (ts : List Nat) : ∀ k, gok (g_it g ts k) (B + k) := by
  intro k
  induction k with
  | zero => exact h
  | succ k ih => exact gok_go ih ts (-1)
theorem g_it_41 (g : gr) (ts : List Nat) : ∀ k, g_it g ts k 41 = g 41 + k := by
  intro k
  induction k with
  | zero => rfl
  | succ k ih => rw [g_it, g_go_41, ih]; omega
theorem g_it_lo {g : gr} {ts : List Nat} {j : Nat} (h : j < 32 ∨ j = 40) : ∀ k, g_it g ts k j = g j := by
  intro k
  induction k with
  | zero => rfl
  | succ k ih => rw [g_it, g_go_lo h, ih]
section come
variable {d B : Nat} {g gk : gr} {ts tx : List Nat} {rw : List Int64} {un : List gr} {kp : Nat → Option gr} {he sa : List (Nat × Nat)} {M0 M : Nat → Nat → Int32} {L0 ML : Nat → Nat → Int64} {R0 R : Nat → Nat → Option Nat}
/-! runs -/
def q_rsA (g : gr) (ts : List Nat) (n : Nat) : Int32 := nI (g_rn (g_it g ts n) ts (-1))
def q_rsW (g : gr) (ts : List Nat) (n : Nat) : List Int64 := [(nI (g_it g ts (n + 1) 42) - nI (g 42)).toInt64]
theorem C_runs1 (hd : 5 ≤ d) (hts : tsok ts) (hg : gok g B) (hB : B + 200 < 2 ^ 21) {n : Nat} (hn : n ≤ 99) : ∀ m k, k + m = n + 1 → ∀ {M : Nat → Nat → Int32}, BC g ts rw M0 L0 M ML → cr M 23 (g_it g ts k) → (k = n + 1 → M 23 13 = q_rsA g ts n) → H96_25 d (nI n) (nI k) M ML R (CQ (q_rsA g ts n) (q_rsW g ts n) M0 L0 R) := by
  intro m
  induction m with
  | zero =>
    intro k hk M h hc h13
    refine h96_25 ⟨fun _ => ?_, fun z => absurd ((nI_ltI (by omega) (by omega)).mpr (by omega)) z⟩
    have hk : k = n + 1 := by omega
    subst hk
    refine B_clear (by omega) h (fun M1 h1 f1 => ?_)
    refine B_add (by omega) h1 (by decide) _ (fun M2 L2 h2 f2 _ => ?_)
    rw [f1 23 12 (by decide), f1 1 12 (by decide), hc.2.2.1, h.1.2.2.1] at h2
    rw [f2 23 13 (by decide), f1 23 13 (by decide), h13 rfl]
    exact h2.q
  | succ m ih =>
    intro k hk M h hc h13
    refine h96_25 ⟨fun z => absurd ((nI_ltI (by omega) (by omega)).mp z) (by omega), fun _ => ?_⟩
    refine B_go hd h hc (g_it_ok hg ts k) (by omega) hts (-1) (fun M1 h1 c1 k13 _ _ _ => ?_)
    rw [nI_1]
    refine ih (k + 1) (by omega) h1 c1 (fun e => ?_)
    have e : k = n := by omega
    subst e
    exact k13
theorem C_runs (hd : 5 ≤ d) (h : IC g un kp tx ts rw he sa M ML R) (hs : SO g un kp ts B) (hB : B < 2 ^ 20) (v : Int32) : (∀ n, n ≤ 99 → v = nI n → wI (d + 1) 96 [.ref 0, .int v] M ML R (CQ (q_rsA g ts n) (q_rsW g ts n) M ML R)) ∧ (v < 0 ∨ 99 < v → wI (d + 1) 96 [.ref 0, .int v] M ML R (CQ (-1) rw M ML R)) := by
  constructor
  · rintro n hn rfl
    refine w96 ⟨fun z => absurd ((nI_leI (a := 0) (by decide) (by omega)).mpr (by omega)) (Int32.not_le.mpr z), fun _ => ⟨fun _ => ?_, fun z => absurd ((nI_leI (b := 99) (by omega) (by decide)).mpr (by omega)) z⟩⟩
    refine B_later (by omega) h.b (fun M1 h1 c1 _ => ?_)
    exact C_runs1 hd hs.2.2.2 hs.1 (by omega) hn (n + 1) 0 (by omega) h1 c1 (fun z => absurd z (by omega))
  · intro z
    exact w96 ⟨fun _ => h.b.q, fun y => ⟨fun y2 => absurd y2 (Int32.not_le.mpr (z.resolve_left y)), fun _ => h.b.q⟩⟩
/-- goSlots -/
def q_rn (g : gr) (ts : List Nat) : Nat → Nat
  | 0 => 0
  | k + 1 => q_rn g ts k + bc (g_rn (g_it g ts k) ts (-1))
def q_id (g : gr) (ts : List Nat) : Nat → Nat
  | 0 => 0
  | k + 1 => q_id g ts k + if bc (g_rn (g_it g ts k) ts (-1)) < g 40 then 1 else 0
theorem R_goSlots1 {p : Nat} {K : wK} (hp : fm_N p) (hp2 : p = 220 ∨ p = 226 ∨ p = 227) (hd : 7 ≤ d) (hts : tsok ts) (hg : gok g B) (hB : B + 200 < 2 ^ 21) {n : Nat} (hn : n ≤ 99) (hK : ∀ M1, fr (fun a i => (a = 219 ∧ 22 ≤ i ∧ i ≤ 24) ∨ a = 223 ∨ a = p) M0 M1 → rr (M1 p) (g_it g ts n) → M1 219 24 = nI (q_id g ts n) → K (nI (q_rn g ts n)) M1 ML R) : ∀ m k, k + m = n → ∀ {M : Nat → Nat → Int32}, fr (fun a i => (a = 219 ∧ 22 ≤ i ∧ i ≤ 24) ∨ a = 223 ∨ a = p) M0 M → JT M R ts → rr (M p) (g_it g ts k) → M 219 24 = nI (q_id g ts k) → H174_10 d p (nI n) (nI (q_rn g ts k)) (nI k) M ML R K := by
  intro m
  induction m with
  | zero =>
    intro k hk M f ht hr h24
    have hk : k = n := by omega
    subst hk
    exact h174_10 hp ⟨fun _ => hK M f hr h24, fun z => absurd ((nI_leI (by omega) (by omega)).mpr (by omega)) z⟩
  | succ m ih =>
    intro k hk M f ht hr h24
    refine h174_10 hp ⟨fun z => absurd ((nI_leI (by omega) (by omega)).mp z) (by omega), fun _ => ?_⟩
    refine R_go hp hp2 hd ht hts hr (g_it_ok hg ts k) (by omega) (-1) (fun M1 f1 _ _ r1 => ?_)
    refine R_bc (by omega) (g_rn_lt _ _ _) ?_
    have hP := hg.2.1
    have hbc := bc_le (g_rn (g_it g ts k) ts (-1))
    have e40 : M1 p 40 = nI (g 40) := by rw [r1 40 (by omega), g_go_lo (by omega), g_it_lo (by omega)]
    have ht1 : JT M1 R ts := JT_fr ht (fun a i y => f1 a i (by omega)) rfl rfl
    have f01 := f.tr (f1.mono (T := fun a i => (a = 219 ∧ 22 ≤ i ∧ i ≤ 24) ∨ a = 223 ∨ a = p) (fun a i z => by omega))
    have h24' : M1 219 24 = nI (q_id g ts k) := by rw [f1 219 24 (by omega), h24]
    have fin : ∀ x : Nat, q_id g ts (k + 1) = q_id g ts k + x → ∀ M2, M2 = fm_u M1 219 24 (M1 219 24 + nI x) → H174_10 d p (nI n) (nI (q_rn g ts k) + nI (bc (g_rn (g_it g ts k) ts (-1)))) (nI k + 1) M2 ML R K := by
      intro x hx M2 e2
      subst e2
      rw [nI_add, nI_1]
      have f12 : fr (fun a i => a = 219 ∧ i = 24) M1 (fm_u M1 219 24 (M1 219 24 + nI x)) := fr_u ⟨rfl, rfl⟩
      refine ih (k + 1) (by omega) (f01.tr (f12.mono (fun a i z => by omega))) (JT_fr ht1 (fun a i y => f12 a i (by omega)) rfl rfl) ?_ ?_
      · exact fun j hj => by rw [f12 p j (by omega)]; exact r1 j hj
      · rw [fm_u_at, h24', nI_add, hx]
    rw [e40]
    refine ⟨fun z => fin 0 ?_, fun z => fin 1 ?_⟩
    · rw [q_id, if_neg (by have := (nI_leI (by omega) (by omega)).mp z; omega)]
    · rw [q_id, if_pos (Nat.lt_of_not_le (fun y => z ((nI_leI (by omega) (by omega)).mpr y)))]
theorem R_goSlots {p : Nat} {K : wK} (hp : fm_N p) (hp2 : p = 220 ∨ p = 226 ∨ p = 227) (hd : 7 ≤ d) (ht : JT M R ts) (hts : tsok ts) (ha : rr (M p) g) (hg : gok g B) (hB : B + 200 < 2 ^ 21) {n : Nat} (hn : n ≤ 99) (hK : ∀ M1, fr (fun a i => (a = 219 ∧ 22 ≤ i ∧ i ≤ 24) ∨ a = 223 ∨ a = p) M M1 → rr (M1 p) (g_it g ts n) → M1 219 24 = nI (q_id g ts n) → K (nI (q_rn g ts n)) M1 ML R) : wI (d + 1) 174 [.ref 219, .ref p, .int (nI n)] M ML R K := by
  refine w174 hp (fun M1 e1 => ?_)
  subst e1
  have f12 : fr (fun a i => a = 219 ∧ i = 24) M (fm_u M 219 24 0) := fr_u ⟨rfl, rfl⟩
  exact R_goSlots1 hp hp2 hd hts hg hB hn hK n 0 (by omega) (f12.mono (fun a i z => by omega)) (JT_fr ht (fun a i y => f12 a i (by omega)) rfl rfl) (fun j hj => by rw [f12 p j (by omega)]; exact ha j hj) (by rw [fm_u_at]; rfl)
theorem R_runs (hd : 8 ≤ d) (h : IR g un kp tx ts rw he sa M ML R) (hs : SO g un kp ts B) (hB : B < 2 ^ 20) (v : Int32) : (∀ n, n ≤ 99 → v = nI n → wI (d + 1) 193 [.ref 219, .int v] M ML R (RQ (q_rsA g ts n) (q_rsW g ts n) M ML R)) ∧ (v < 0 ∨ 99 < v → wI (d + 1) 193 [.ref 219, .int v] M ML R (RQ (-1) rw M ML R)) := by
  obtain ⟨d, rfl⟩ : ∃ e, d = e + 1 := ⟨d - 1, by omega⟩
  have hb := h.b.u (a := 219) (i := 5) (x := 0) (by omega)
  constructor
  · rintro n hn rfl
    refine w193 (fun M1 e1 => ?_)
    subst e1
    refine R_in (by omega) ?_
    rw [show md_in (nI n) 0 99 = 1 from in_y (lo := 0) (hi := 99) (by decide) (by omega) hn]
    refine ⟨fun _ => ?_, fun z => absurd z (by decide)⟩
    refine B_then (by omega) hb (fun M2 h2 c2 _ => ?_)
    refine R_goSlots fm_N227 (by omega) (by omega) h2.2.1 hs.2.2.2 c2 hs.1 (by omega) hn (fun M3 f3 c3 _ => ?_)
    refine B_goSlot (by omega) (h2.f (f3.mono (fun a i z => by omega))) c3 (g_it_ok hs.1 ts n) (by omega) hs.2.2.2 (-1) (fun M4 h4 c4 _ _ _ => ?_)
    intro M5 e5
    subst e5
    refine B_tell (by omega) h4.z (by decide) _ (fun M6 L6 h6 _ _ => ?_)
    rw [fm_u_off (by decide), fm_u_off (by decide), c4 42 (by omega), h4.1 42 (by omega)] at h6
    exact h6.q
  · intro z
    refine w193 (fun M1 e1 => ?_)
    subst e1
    refine R_in (by omega) ?_
    rw [in_n z]
    exact ⟨fun y => absurd rfl y, fun _ => hb.q⟩
/-! when -/
def q_wh (g : gr) (ts : List Nat) (rw : List Int64) (q i : Nat) : Nat → gr → Int32 × List Int64
  | 0, _ => (-2, rw)
  | n + 1, gk => if g_go gk ts (-1) (32 + q) < i then q_wh g ts rw q i n (g_go gk ts (-1)) else (nI (gk 41), [(nI (g_dl g q i) - nI (gk 41)).toInt64])
theorem gok.dnB {g : gr} {B : Nat} (h : gok g B) {q : Nat} (hq : q < 8) : g (32 + q) ≤ B := by
  have := h.dn hq
  have := h.2.2.1
  omega
theorem C_when1 (hd : 5 ≤ d) (hts : tsok ts) (hg0 : gok g B) {q i : Nat} (hq : q < 8) (h0 : 0 < g q) (hi2 : i ≤ 60) : ∀ n k, k + n = 99 → ∀ {B : Nat} {gk : gr} {M : Nat → Nat → Int32}, B + n < 2 ^ 21 → gok gk B → gk q = g q → BC g ts rw M0 L0 M ML → cr M 23 gk → H97_53 d (nI q) (nI i) (nI k) M ML R (CQ (q_wh g ts rw q i n gk).1 (q_wh g ts rw q i n gk).2 M0 L0 R) := by
  intro n
  induction n with
  | zero =>
    intro k hk B gk M hB hg hgq h hc
    refine h97_53 ⟨fun _ => h.q, fun z => absurd ((nI_leI (a := 99) (by decide) (by omega)).mpr (by omega)) z⟩
  | succ n ih =>
    intro k hk B gk M hB hg hgq h hc
    refine h97_53 ⟨fun z => absurd ((nI_leI (a := 99) (by decide) (by omega)).mp z) (by omega), fun _ => ?_⟩
    refine B_go hd h hc hg (by omega) hts (-1) (fun M1 h1 c1 h13 h14 h15 f => ?_)
    refine ⟨q, rfl, hq, ?_⟩
    have hg1 := gok_go hg ts (-1)
    have hq1 : g_go gk ts (-1) q = g q := by rw [g_go_lo (by omega)]; exact hgq
    have e : M1 29 q = nI (g_go gk ts (-1) (32 + q)) := ((c1.2.2.2 q hq).2.2.2.2 (by rw [hq1]; exact h0)).2.2.2.1
    have hdn := hg1.dnB hq
    rw [e, q_wh]
    by_cases z : g_go gk ts (-1) (32 + q) < i
    · rw [if_pos z, nI_1]
      exact ⟨fun _ => ih (k + 1) (by omega) (B := B + 1) (by omega) hg1 hq1 h1 c1, fun y => absurd ((nI_ltI (by omega) (by omega)).mpr z) y⟩
    · rw [if_neg z]
      refine ⟨fun y => absurd ((nI_ltI (by omega) (by omega)).mp y) z, fun _ => ?_⟩
      refine B_clear (by omega) h1 (fun M2 h2 f2 => ?_)
      refine C_dl fm_W1 (by omega) h2.1 hg0 hq h0 (by omega) ?_
      refine B_add (by omega) h2 (by decide) _ (fun M3 L3 h3 f3 _ => ?_)
      rw [hc.2.1] at h3
      rw [hc.2.1]
      exact h3.q
theorem C_when (hd : 5 ≤ d) (h : IC g un kp tx ts rw he sa M ML R) (hs : SO g un kp ts B) (hB : B < 2 ^ 20) (t v : Int32) : (∀ q i, q < 8 → t = nI q → 0 < g q → 1 ≤ i → i ≤ 60 → v = nI i → wI (d + 1) 97 [.ref 0, .int t, .int v] M ML R (if g (32 + q) < i then CQ (q_wh g ts rw q i 99 g).1 (q_wh g ts rw q i 99 g).2 M ML R else CQ (-3) rw M ML R)) ∧ (¬ th g t ∨ v < 1 ∨ 60 < v → wI (d + 1) 97 [.ref 0, .int t, .int v] M ML R (CQ (-1) rw M ML R)) := by
  constructor
  · rintro q i hq rfl h0 h1 h2 rfl
    refine w97 (C_th fm_W1 (by omega) h.2.1 hs.1 _ (fun q' hq' e h0' => ?_) (fun z => absurd ((th_nI hq).mpr h0) z))
    refine ⟨fun z => absurd z (by decide), fun _ => ⟨fun z => absurd ((nI_leI (a := 1) (by decide) (by omega)).mpr (by omega)) (Int32.not_le.mpr z), fun _ => ⟨fun _ => ⟨q, rfl, hq, ?_⟩, fun z => absurd ((nI_leI (b := 60) (by omega) (by decide)).mpr (by omega)) z⟩⟩⟩
    have hdn := hs.1.dnB hq
    rw [((h.2.1.2.2.2 q hq).2.2.2.2 h0).2.2.2.1]
    by_cases z : g (32 + q) < i
    · rw [if_pos z]
      refine ⟨fun _ => ?_, fun y => absurd ((nI_ltI (by omega) (by omega)).mpr z) y⟩
      refine B_later (by omega) h.b (fun M1 h1 c1 _ => ?_)
      exact C_when1 hd hs.2.2.2 hs.1 hq h0 h2 99 0 (by omega) (by omega) hs.1 rfl h1 c1
    · rw [if_neg z]
      exact ⟨fun y => absurd ((nI_ltI (by omega) (by omega)).mp y) z, fun _ => h.b.q⟩
  · intro z
    refine w97 (C_th fm_W1 (by omega) h.2.1 hs.1 _ (fun q' hq' e h0' => ?_) (fun _ => ⟨fun _ => h.b.q, fun y => absurd rfl y⟩))
    subst e
    have z := z.resolve_left (fun y => y ((th_nI hq').mpr h0'))
    exact ⟨fun y => absurd y (by decide), fun _ => ⟨fun _ => h.b.q, fun y => ⟨fun y2 => absurd y2 (Int32.not_le.mpr (z.resolve_left y)), fun _ => h.b.q⟩⟩⟩
theorem R_when1 (hd : 7 ≤ d) (hts : tsok ts) (hg0 : gok g B) (hB0 : B < 2 ^ 20) {q i : Nat} (hq : q < 8) (h0 : 0 < g q) (hi2 : i ≤ 60) : ∀ n k, k + n = 99 → ∀ {B : Nat} {gk : gr} {M : Nat → Nat → Int32}, B + n < 2 ^ 21 → gok gk B → gk 41 = g 41 + k → BR g ts rw M0 L0 R0 M ML R → rr (M 227) gk → H194_55 d (nI q) (nI i) (nI k) M ML R (RQ (q_wh g ts rw q i n gk).1 (q_wh g ts rw q i n gk).2 M0 L0 R0) := by
  intro n
  induction n with
  | zero =>
    intro k hk B gk M hB hg hk2 h hc
    refine h194_55 ⟨fun _ => h.q, fun z => absurd ((nI_leI (a := 99) (by decide) (by omega)).mpr (by omega)) z⟩
  | succ n ih =>
    intro k hk B gk M hB hg hk2 h hc
    refine h194_55 ⟨fun z => absurd ((nI_leI (a := 99) (by decide) (by omega)).mp z) (by omega), fun _ => ?_⟩
    refine B_goSlot hd h hc hg (by omega) hts (-1) (fun M1 h1 c1 h22 h23 f => ?_)
    refine ⟨32 + q, ix32 q, by omega, ?_⟩
    have hg1 := gok_go hg ts (-1)
    have hdn := hg1.dnB hq
    rw [c1 (32 + q) (by omega), q_wh]
    by_cases z : g_go gk ts (-1) (32 + q) < i
    · rw [if_pos z, nI_1]
      exact ⟨fun y => absurd ((nI_leI (by omega) (by omega)).mp y) (by omega), fun _ => ih (k + 1) (by omega) (B := B + 1) (by omega) hg1 (by rw [g_go_41]; omega) h1 c1⟩
    · rw [if_neg z]
      refine ⟨fun _ M2 e2 => ?_, fun y => absurd ((nI_leI (by omega) (by omega)).mpr (by omega)) y⟩
      subst e2
      refine R_dl fm_N220 (by omega) h1.z.1 hg0 (by omega) hq h0 (by omega) ?_
      refine B_tell (by omega) h1.z (by decide) _ (fun M3 L3 h3 f3 _ => ?_)
      rw [h1.z.1 41 (by omega), i32_sub_sub, nI_add, ← hk2] at h3
      rw [h3.1 41 (by omega), nI_add, ← hk2]
      exact h3.q
theorem R_when (hd : 7 ≤ d) (h : IR g un kp tx ts rw he sa M ML R) (hs : SO g un kp ts B) (hB : B < 2 ^ 20) (t v : Int32) : (∀ q i, q < 8 → t = nI q → 0 < g q → 1 ≤ i → i ≤ 60 → v = nI i → wI (d + 1) 194 [.ref 219, .int t, .int v] M ML R (if g (32 + q) < i then RQ (q_wh g ts rw q i 99 g).1 (q_wh g ts rw q i 99 g).2 M ML R else RQ (-3) rw M ML R)) ∧ (¬ th g t ∨ v < 1 ∨ 60 < v → wI (d + 1) 194 [.ref 219, .int t, .int v] M ML R (RQ (-1) rw M ML R)) := by
  have hb := h.b.u (a := 219) (i := 5) (x := 0) (by omega)
  constructor
  · rintro q i hq rfl h0 h1 h2 rfl
    refine w194 (fun M1 e1 => ?_)
    subst e1
    refine R_task (by omega) hb.1 hs.1 _ (fun q' hq' e h0' => ?_) (fun z => absurd ((th_nI hq).mpr h0) z)
    refine ⟨fun z => absurd z (by decide), fun _ => R_in (by omega) ?_⟩
    rw [show md_in (nI i) 1 60 = 1 from in_y (lo := 1) (hi := 60) (by decide) h1 h2]
    refine ⟨fun _ => ⟨32 + q, ix32 q, by omega, ?_⟩, fun z => absurd z (by decide)⟩
    have hdn := hs.1.dnB hq
    rw [hb.1 (32 + q) (by omega)]
    by_cases z : g (32 + q) < i
    · rw [if_pos z]
      refine ⟨fun _ => ?_, fun y => absurd ((nI_ltI (by omega) (by omega)).mpr z) y⟩
      refine B_then (by omega) hb (fun M1 h1 c1 _ => ?_)
      exact R_when1 hd hs.2.2.2 hs.1 hB hq h0 h2 99 0 (by omega) (by omega) hs.1 rfl h1 c1
    · rw [if_neg z]
      exact ⟨fun y => absurd ((nI_ltI (by omega) (by omega)).mp y) z, fun _ => hb.q⟩
  · intro z
    refine w194 (fun M1 e1 => ?_)
    subst e1
    refine R_task (by omega) hb.1 hs.1 _ (fun q' hq' e h0' => ?_) (fun _ => ⟨fun _ => hb.q, fun y => absurd rfl y⟩)
    subst e
    have z := z.resolve_left (fun y => y ((th_nI hq').mpr h0'))
    refine ⟨fun y => absurd y (by decide), fun _ => R_in (by omega) ?_⟩
    rw [in_n z]
    exact ⟨fun y => absurd rfl y, fun _ => hb.q⟩
end come
