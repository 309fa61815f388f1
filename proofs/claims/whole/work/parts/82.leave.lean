section leaves
variable {d B b r : Nat} {g g' u : gr} {ts tx : List Nat} {rw rw' : List Int64} {un un' : List gr} {kp kp' : Nat → Option gr} {he sa : List (Nat × Nat)} {M0 M M1 : Nat → Nat → Int32} {L0 ML L1 : Nat → Nat → Int64} {R0 R R1 : Nat → Nat → Option Nat}
/-- the copy of now that is remembered if it was done -/
theorem C_before {K : wKv} (hd : 1 ≤ d) (h : IC g un kp tx ts rw he sa M ML R) (hK : ∀ M1, IC g un kp tx ts rw he sa M1 ML R → cr M1 12 g → fr (fun a _ => 12 ≤ a ∧ a ≤ 22) M M1 → K M1 ML R) : wV d 48 [.ref 12, .ref 1] M ML R K :=
  C_copy fm_W12 fm_W1 (by omega) hd h.2.1 (fun M1 c1 g1 _ => by
    have f1 : fr (fun a _ => 12 ≤ a ∧ a ≤ 22) M M1 := fun a i z => by rw [g1 a (by omega)]
    exact hK M1 (h.w0 (f1.mono (fun a i z => by omega)) (fun i => f1 _ i (by omega)) (cr_fr h.2.1 (fun a i y1 y2 _ => f1 a i (by omega))) (IP_fr h.p (fun a i y => f1 a i (by omega)))) c1 f1)
/-- now has become g'; it is remembered what it was -/
theorem C_rifd {A : Int32} (hd : 2 ≤ d) (hA : ¬ A < 0) (h : IC g un kp tx ts rw he sa M ML R) (c12 : cr M 12 g) (f : fr CW M M1) (f2 : ∀ a i, 12 ≤ a → M1 a i = M a i) (c1 : cr M1 1 g') (hM0 : fr (fun a _ => a < 219) M0 M) (hL0 : fr (fun a _ => a < 219) L0 ML) : wI (d + 1) 87 [.ref 0, .int A] M1 ML R (CK A g' (push un g) kp tx ts rw he sa M0 L0 R) := by
  refine w87 ⟨fun z => absurd z hA, fun _ => ?_⟩
  refine C_rem hd fm_W12 (by omega) h.1 (IP_fr h.p (fun a i y => f2 a i (by omega))) (cr_fr c12 (fun a i y1 y2 _ => f2 a i (by omega))) (fun M2 p2 f3 => ?_)
  refine ⟨rfl, h.w0 (f.tr (f3.mono (fun a i z => by omega))) (fun i => by rw [f3 _ _ (by omega), f2 _ _ (by omega)]) (cr_fr c1 (fun a i y1 y2 _ => f3 a i (by omega))) p2, ?_, hL0, rfl⟩
  exact (hM0.tr (f.mono (fun a i z => by omega))).tr (f3.mono (fun a i z => by omega))
theorem C_rifdN {A : Int32} (hA : A < 0) (h : IC g un kp tx ts rw he sa M ML R) (hM0 : fr (fun a _ => a < 219) M0 M) (hL0 : fr (fun a _ => a < 219) L0 ML) : wI (d + 1) 87 [.ref 0, .int A] M ML R (CK A g un kp tx ts rw he sa M0 L0 R) :=
  w87 ⟨fun _ => ⟨rfl, h, hM0, hL0, rfl⟩, fun z => absurd hA z⟩
theorem nI_nneg {n : Nat} (h : n < 2 ^ 31) : ¬ nI n < 0 := Int32.not_lt.mpr ((nI_leI (a := 0) (by decide) h).mpr (by omega))
theorem C_leaves (hd : 5 ≤ d) (h : IC g un kp tx ts rw he sa M ML R) (hs : SO g un kp ts B) (hB : B < 2 ^ 20) (t : Int32) : (∀ q, q < 8 → t = nI q → 0 < g q → wI (d + 1) 85 [.ref 0, .int t] M ML R (if g_mf g q ≤ g 41 then CK (nI (bc (g_ts (g_lv g q)))) (g_lv g q) (push un g) kp tx ts rw he sa M ML R else CK (-3) g un kp tx ts rw he sa M ML R)) ∧ (¬ th g t → wI (d + 1) 85 [.ref 0, .int t] M ML R (CK (-1) g un kp tx ts rw he sa M ML R)) := by
  obtain ⟨d, rfl⟩ : ∃ e, d = e + 1 := ⟨d - 1, by omega⟩
  constructor
  · rintro q hq rfl h0
    refine w85 (C_before (by omega) h (fun M1 h1 c1 f1 => ?_))
    refine C_letGo fm_W1 (by omega) h1.2.1 hs.1 hB _ (fun q' hq' e h0' z M2 c2 f2 => ?_) (fun q' hq' e h0' z => ?_) (fun z => absurd ((th_nI hq).mpr h0) z)
    · have := nI_inj8 hq hq' e
      subst this
      rw [if_pos z]
      exact C_rifd (by omega) (nI_nneg (by have := bc_le (g_ts (g_lv g q)); omega)) h1 c1 (f2.mono (fun a i z => by omega)) (fun a i y => f2 a i (by omega)) c2 (f1.mono (fun a i z => by omega)) fr.rfl
    · have := nI_inj8 hq hq' e
      subst this
      rw [if_neg z]
      exact C_rifdN (by decide) h1 (f1.mono (fun a i z => by omega)) fr.rfl
  · intro z
    refine w85 (C_before (by omega) h (fun M1 h1 c1 f1 => ?_))
    exact C_letGo fm_W1 (by omega) h1.2.1 hs.1 hB _ (fun q' hq' e h0' _ _ _ _ => absurd ⟨q', hq', e, h0'⟩ z) (fun q' hq' e h0' _ => absurd ⟨q', hq', e, h0'⟩ z) (fun _ => C_rifdN (by decide) h1 (f1.mono (fun a i z => by omega)) fr.rfl)
theorem C_hurries (hd : 3 ≤ d) (h : IC g un kp tx ts rw he sa M ML R) (hs : SO g un kp ts B) (t : Int32) : (∀ q, q < 8 → t = nI q → 0 < g q → wI (d + 1) 86 [.ref 0, .int t] M ML R (CK (nI (1 - g (24 + q))) (g_hu g q) (push un g) kp tx ts rw he sa M ML R)) ∧ (¬ th g t → wI (d + 1) 86 [.ref 0, .int t] M ML R (CK (-1) g un kp tx ts rw he sa M ML R)) := by
  obtain ⟨d, rfl⟩ : ∃ e, d = e + 1 := ⟨d - 1, by omega⟩
  constructor
  · rintro q hq rfl h0
    refine w86 (C_before (by omega) h (fun M1 h1 c1 f1 => ?_))
    refine C_turn fm_W1 (by omega) h1.2.1 hs.1 _ (fun q' hq' e h0' M2 c2 f2 => ?_) (fun z => absurd ((th_nI hq).mpr h0) z)
    have := nI_inj8 hq hq' e
    subst this
    exact C_rifd (by omega) (nI_nneg (by omega)) h1 c1 (f2.mono (fun a i z => by omega)) (fun a i y => f2 a i (by omega)) c2 (f1.mono (fun a i z => by omega)) fr.rfl
  · intro z
    refine w86 (C_before (by omega) h (fun M1 h1 c1 f1 => ?_))
    exact C_turn fm_W1 (by omega) h1.2.1 hs.1 _ (fun q' hq' e h0' _ _ _ => absurd ⟨q', hq', e, h0'⟩ z) (fun _ => C_rifdN (by decide) h1 (f1.mono (fun a i z => by omega)) fr.rfl)
theorem IR.t0 (h : IR g un kp tx ts rw he sa M ML R) : IR g un kp tx ts rw he sa (fm_u M 219 5 0) ML R := by
  have f0 : fr (fun a i => a = 219 ∧ i = 5) M (fm_u M 219 5 0) := fr_u ⟨rfl, rfl⟩
  exact h.w (f0.mono (fun a i z => by omega)) (rr_fr h.1 (fun i => f0 _ i (by omega))) (JP_fr h.p (fun a i y => f0 a i (by omega))) (JW_fr h.2.2.2.2.1 (f0 _ _ (by omega)) (fun _ => rfl))
theorem t0_fr : fr (fun a _ => 219 ≤ a ∧ a ≤ 245) M (fm_u M 219 5 0) := fr_u (by omega)
theorem R_leaves (hd : 4 ≤ d) (hul : un.length ≤ 12) (h : IR g un kp tx ts rw he sa M ML R) (hs : SO g un kp ts B) (hB : B < 2 ^ 20) (t : Int32) : (∀ q, q < 8 → t = nI q → 0 < g q → wI (d + 1) 180 [.ref 219, .int t] M ML R (if g_mf g q ≤ g 41 then RK (nI (bc (g_ts (g_lv g q)))) (g_lv g q) (push un g) kp tx ts rw he sa M ML R else RK (-3) g un kp tx ts rw he sa M ML R)) ∧ (¬ th g t → wI (d + 1) 180 [.ref 219, .int t] M ML R (RK (-1) g un kp tx ts rw he sa M ML R)) := by
  have h1 := h.t0
  constructor
  · rintro q hq rfl h0
    refine w180 (fun M1 e1 => ?_)
    subst e1
    refine R_refuse fm_N220 (by omega) h1.1 hs.1 hB _ (fun q' hq' e h0' => ?_) (fun z => absurd ((th_nI hq).mpr h0) z)
    have := nI_inj8 hq hq' e
    subst this
    by_cases z : g_mf g q ≤ g 41
    · rw [if_pos z, if_pos z]
      refine ⟨fun _ => ?_, fun y => absurd (by decide) y⟩
      refine R_rem fm_N220 (by decide) (by omega) hul h1.p h1.1 (fun M2 p2 f2 => ?_)
      refine R_goLeave fm_N220 (by omega) (rr_fr h1.1 (fun i => f2 _ i (by omega))) hs.1 hq (fun M3 r3 f3 => ?_)
      have F : fr (fun a i => (a = 219 ∧ i = 19) ∨ a = 225 ∨ a = 220) (fm_u M 219 5 0) M3 := (f2.mono (fun a i z => by omega)).tr (f3.mono (fun a i z => by omega))
      exact ⟨rfl, h1.w (F.mono (fun a i z => by omega)) r3 (JP_fr p2 (fun a i y => f3 a i (by omega))) (JW_fr h1.2.2.2.2.1 (F _ _ (by omega)) (fun _ => rfl)), t0_fr.tr (F.mono (fun a i z => by omega)), fr.rfl, fr.rfl⟩
    · rw [if_neg z, if_neg z]
      exact ⟨fun y => absurd y (by decide), fun _ => ⟨rfl, h1, t0_fr, fr.rfl, fr.rfl⟩⟩
  · intro z
    refine w180 (fun M1 e1 => ?_)
    subst e1
    exact R_refuse fm_N220 (by omega) h1.1 hs.1 hB _ (fun q' hq' e h0' => absurd ⟨q', hq', e, h0'⟩ z) (fun _ => ⟨fun y => absurd y (by decide), fun _ => ⟨rfl, h1, t0_fr, fr.rfl, fr.rfl⟩⟩)
theorem rr_hu {a : Nat → Int32} (ha : rr a g) (hg : gok g B) {q : Nat} (hq : q < 8) (h0 : 0 < g q) : rr (upd a (24 + q) (1 - a (24 + q))) (g_hu g q) ∧ (1 : Int32) - a (24 + q) = nI (1 - g (24 + q)) := by
  have e : (1 : Int32) - a (24 + q) = nI (1 - g (24 + q)) := by rw [ha _ (by omega)]; exact nI_sub (a := 1) (hg.p hq h0).2.2.2.1
  refine ⟨fun k hk => ?_, e⟩
  rw [g_hu]
  by_cases z : k = 24 + q
  · subst z; rw [upd_same, if_pos rfl, e]
  · rw [upd_ne z, if_neg z]; exact ha k hk
theorem R_hurries (hd : 2 ≤ d) (hul : un.length ≤ 12) (h : IR g un kp tx ts rw he sa M ML R) (hs : SO g un kp ts B) (t : Int32) : (∀ q, q < 8 → t = nI q → 0 < g q → wI (d + 1) 181 [.ref 219, .int t] M ML R (RK (nI (1 - g (24 + q))) (g_hu g q) (push un g) kp tx ts rw he sa M ML R)) ∧ (¬ th g t → wI (d + 1) 181 [.ref 219, .int t] M ML R (RK (-1) g un kp tx ts rw he sa M ML R)) := by
  have h1 := h.t0
  constructor
  · rintro q hq rfl h0
    refine w181 (fun M1 e1 => ?_)
    subst e1
    refine R_task (by omega) h1.1 hs.1 _ (fun q' hq' e h0' => ⟨fun _ => ?_, fun y => absurd y (by decide)⟩) (fun z => absurd ((th_nI hq).mpr h0) z)
    refine R_rem fm_N220 (by decide) (by omega) hul h1.p h1.1 (fun M2 p2 f2 => ?_)
    have r2 : rr (M2 220) g := rr_fr h1.1 (fun i => f2 _ i (by omega))
    obtain ⟨u1, u2⟩ := rr_hu r2 hs.1 hq h0
    refine ⟨24 + q, ix24 q, by omega, 24 + q, ix24 q, by omega, fun M5 e5 => ⟨24 + q, ix24 q, by omega, ?_⟩⟩
    subst e5
    have f3 : fr (fun a i => a = 220 ∧ i = 24 + q) M2 (fm_u M2 220 (24 + q) (1 - M2 220 (24 + q))) := fr_u ⟨rfl, rfl⟩
    have F : fr (fun a i => (a = 219 ∧ i = 19) ∨ a = 225 ∨ a = 220) (fm_u M 219 5 0) (fm_u M2 220 (24 + q) (1 - M2 220 (24 + q))) := (f2.mono (fun a i z => by omega)).tr (f3.mono (fun a i z => by omega))
    exact ⟨by rw [fm_u_at]; exact u2, h1.w (F.mono (fun a i z => by omega)) (by rw [fm_u_row]; exact u1) (JP_fr p2 (fun a i y => f3 a i (by omega))) (JW_fr h1.2.2.2.2.1 (F _ _ (by omega)) (fun _ => rfl)), t0_fr.tr (F.mono (fun a i z => by omega)), fr.rfl, fr.rfl⟩
  · intro z
    refine w181 (fun M1 e1 => ?_)
    subst e1
    exact R_task (by omega) h1.1 hs.1 _ (fun q' hq' e h0' => absurd ⟨q', hq', e, h0'⟩ z) (fun _ => ⟨fun y => absurd rfl y, fun _ => ⟨rfl, h1, t0_fr, fr.rfl, fr.rfl⟩⟩)
/-! keep, again -/
def kset (kp : Nat → Option gr) (i : Nat) (g : gr) : Nat → Option gr := fun j => if j = i then some g else kp j
theorem i2c {v : Int32} : v = nI 0 ∨ v = nI 1 ∨ (v < 0 ∨ 1 < v) := by
  rcases rngc 0 1 (by decide) (by decide) v with ⟨n, h1, h2, e⟩ | h
  · have : n = 0 ∨ n = 1 := by omega
    rcases this with rfl | rfl
    · exact Or.inl e
    · exact Or.inr (Or.inl e)
  · exact Or.inr (Or.inr h)
theorem C_keep (hd : 3 ≤ d) (h : IC g un kp tx ts rw he sa M ML R) (v : Int32) : (∀ i, i < 2 → v = nI i → wI d 127 [.ref 0, .int v] M ML R (CK 1 g un (kset kp i g) tx ts rw he sa M ML R)) ∧ (v < 0 ∨ 1 < v → wI d 127 [.ref 0, .int v] M ML R (CK 0 g un kp tx ts rw he sa M ML R)) := by
  have t := t_keep M ML R h.1 v
  rw [pa_kA, pa_kM] at t
  constructor
  · rintro i hi rfl
    have n0 := nI_nneg (n := i) (by omega)
    have n2 : nI i < 2 := (nI_ltI (b := 2) (by omega) (by decide)).mpr hi
    rw [if_neg n0, if_pos n2, if_neg n0, if_pos n2, nI_clamp (by omega)] at t
    have hcp := copy_cr (o := 65 + 11 * (12 + i)) h.2.1
    have hoff : ∀ a, ¬ (65 + 11 * (12 + i) ≤ a ∧ a ≤ 65 + 11 * (12 + i) + 10) → wd_copy M (65 + 11 * (12 + i)) 1 a = M a := fun a ha => wd_copy_off (by omega)
    generalize wd_copy M (65 + 11 * (12 + i)) 1 = MC at t hcp hoff
    have F : fr (fun a j => (a = 37 ∧ j = i) ∨ (65 + 11 * (12 + i) ≤ a ∧ a ≤ 65 + 11 * (12 + i) + 10)) M (fm_u MC 37 i 1) := fun a j z => by
      by_cases e : a = 37
      · subst e
        rw [fm_u_ix (fun y => z (Or.inl ⟨rfl, y⟩)), hoff _ (by omega)]
      · rw [fm_u_off e, hoff a (by omega)]
    refine wI_of t hd ⟨rfl, h.w0 (F.mono (fun a j z => by omega)) (fun j => F _ _ (by omega)) (cr_fr h.2.1 (fun a j y1 y2 _ => F a j (by omega))) ?_, F.mono (fun a j z => by omega), fr.rfl, rfl⟩
    obtain ⟨⟨o, h1, h2, h3, h4, h5⟩, h6⟩ := h.p
    refine ⟨⟨o, h1, h2, by rw [F _ _ (by omega)]; exact h3, by rw [F _ _ (by omega)]; exact h4, fun k hk => cr_fr (h5 k hk) (fun a j y1 y2 _ => F a j (by have := Nat.mod_lt (o + k) (show 0 < 12 by decide); omega))⟩, fun j hj => ?_⟩
    by_cases e : j = i
    · subst e
      refine ⟨fun z => by simp [kset] at z, fun u z => ?_⟩
      have : g = u := by simpa [kset] using z
      subst this
      exact ⟨fm_u_at, cr_fr hcp (fun a k y1 y2 _ => by rw [fm_u_off (by omega)])⟩
    · have ek : kset kp i g j = kp j := by simp [kset, e]
      rw [ek]
      exact ⟨fun z => by rw [F _ _ (by omega)]; exact (h6 j hj).1 z, fun u z => ⟨by rw [F _ _ (by omega)]; exact ((h6 j hj).2 u z).1, cr_fr ((h6 j hj).2 u z).2 (fun a k y1 y2 _ => F a k (by omega))⟩⟩
  · intro z
    by_cases n0 : v < 0
    · rw [if_pos n0, if_pos n0] at t
      exact wI_of t hd h.qk
    · have n2 : ¬ v < 2 := fun y => by
        have z := z.resolve_left n0
        have z := Int32.lt_iff_toInt_lt.mp z
        have y := Int32.lt_iff_toInt_lt.mp y
        have e1 : (1 : Int32).toInt = 1 := rfl
        have e2 : (2 : Int32).toInt = 2 := rfl
        omega
      rw [if_neg n0, if_neg n2, if_neg n0, if_neg n2] at t
      exact wI_of t hd h.qk
theorem R_keep (hd : 2 ≤ d) (h : IR g un kp tx ts rw he sa M ML R) (v : Int32) : (∀ i, i < 2 → v = nI i → wI d 231 [.ref 219, .int v] M ML R (RK 1 g un (kset kp i g) tx ts rw he sa M ML R)) ∧ (v < 0 ∨ 1 < v → wI d 231 [.ref 219, .int v] M ML R (RK 0 g un kp tx ts rw he sa M ML R)) := by
  have t := t_mkeep M ML R v
  rw [md_kpA, md_kpM] at t
  constructor
  · rintro i hi rfl
    have e1 : md_in (nI i) 0 1 = 1 := in_y (lo := 0) (hi := 1) (by decide) (by omega) (by omega)
    rw [e1, if_pos (by decide), if_pos (by decide), nI_clamp (by omega)] at t
    have F : fr (fun a j => (a = 219 ∧ j = 5) ∨ (a = 243 ∧ j = i) ∨ (a = 242 ∧ 43 * i ≤ j ∧ j < 43 * i + 43)) M (fm_row (fm_u (fm_u M 219 5 0) 243 i 1) 242 (md_lay (M 220) (M 242) (43 * i) 43)) := fun a j z => by
      by_cases e : a = 242
      · subst e
        rw [fm_row_row, md_lay, if_neg (by omega)]
      · rw [fm_row_off e]
        exact (fr_u2 (S := fun a j => (a = 219 ∧ j = 5) ∨ (a = 243 ∧ j = i)) (fr_u (by omega)) (by omega)) a j (by omega)
    refine wI_of t hd ⟨rfl, h.w (F.mono (fun a j z => by omega)) (rr_fr h.1 (fun j => F _ _ (by omega))) ?_ (JW_fr h.2.2.2.2.1 (F _ _ (by omega)) (fun _ => rfl)), F.mono (fun a j z => by omega), fr.rfl, fr.rfl⟩
    obtain ⟨⟨h1, h2⟩, h3⟩ := h.p
    refine ⟨⟨by rw [F _ _ (by omega)]; exact h1, fun k hk j hj => by rw [F _ _ (by omega)]; exact h2 k hk j hj⟩, fun j hj => ?_⟩
    by_cases e : j = i
    · subst e
      refine ⟨fun z => by simp [kset] at z, fun u z => ?_⟩
      have : g = u := by simpa [kset] using z
      subst this
      refine ⟨by rw [fm_row_off (by decide), fm_u_at], fun k hk => ?_⟩
      rw [fm_row_row, md_lay, if_pos (by omega), show 43 * j + k - 43 * j = k by omega]
      exact h.1 k hk
    · have ek : kset kp i g j = kp j := by simp [kset, e]
      rw [ek]
      exact ⟨fun z => by rw [F _ _ (by omega)]; exact (h3 j hj).1 z, fun u z => ⟨by rw [F _ _ (by omega)]; exact ((h3 j hj).2 u z).1, fun k hk => by rw [F _ _ (by omega)]; exact ((h3 j hj).2 u z).2 k hk⟩⟩
  · intro z
    have e1 : md_in v 0 1 = 0 := in_n z
    rw [e1, if_neg (fun y => y rfl), if_neg (fun y => y rfl)] at t
    exact wI_of t hd ⟨rfl, h.t0, t0_fr, fr.rfl, fr.rfl⟩
theorem C_again (hd : 3 ≤ d) (h : IC g un kp tx ts rw he sa M ML R) (v : Int32) : (∀ i u, i < 2 → v = nI i → kp i = some u → wI d 128 [.ref 0, .int v] M ML R (CK 1 u [] kp tx ts rw he sa M ML R)) ∧ ((v < 0 ∨ 1 < v) ∨ (∃ i, i < 2 ∧ v = nI i ∧ kp i = none) → wI d 128 [.ref 0, .int v] M ML R (CK 0 g un kp tx ts rw he sa M ML R)) := by
  have t := t_again M ML R h.1 v
  rw [pa_bkA, pa_bkM] at t
  have hp := h.p
  obtain ⟨⟨o, h1, h2, h3, h4, h5⟩, h6⟩ := hp
  constructor
  · rintro i u hi rfl hk
    have n0 := nI_nneg (n := i) (by omega)
    have n2 : ¬ (2 : Int32) ≤ nI i := fun y => absurd ((nI_leI (a := 2) (by decide) (by omega)).mp y) (by omega)
    obtain ⟨k1, k2⟩ := (h6 i hi).2 u hk
    have k3 : ¬ M 37 i = 0 := by rw [k1]; decide
    rw [nI_clamp (by omega), if_neg n0, if_neg n2, if_pos k3, if_neg n0, if_neg n2, if_pos k3] at t
    have hcp : cr (wd_copy M 1 (65 + 11 * (12 + i))) 1 u := copy_cr k2
    have hoff : ∀ a, ¬ (1 ≤ a ∧ a ≤ 11) → wd_copy M 1 (65 + 11 * (12 + i)) a = M a := fun a ha => wd_copy_off (by omega)
    generalize wd_copy M 1 (65 + 11 * (12 + i)) = MC at t hcp hoff
    have F : fr (fun a j => (a = 34 ∧ j = 2) ∨ (1 ≤ a ∧ a ≤ 11)) M (fm_u MC 34 2 0) := fun a j z => by
      by_cases e : a = 34
      · subst e
        rw [fm_u_ix (fun y => z (Or.inl ⟨rfl, y⟩)), hoff _ (by omega)]
      · rw [fm_u_off e, hoff a (by omega)]
    refine wI_of t hd ⟨rfl, h.w0 (F.mono (fun a j z => by omega)) (fun j => F _ _ (by omega)) (cr_fr hcp (fun a j y1 y2 _ => by rw [fm_u_off (by omega)])) ?_, F.mono (fun a j z => by omega), fr.rfl, rfl⟩
    refine ⟨⟨o, h1, by decide, by rw [F _ _ (by omega)]; exact h3, fm_u_at, fun k hk => absurd hk (by simp)⟩, fun j hj => ⟨fun z => by rw [F _ _ (by omega)]; exact (h6 j hj).1 z, fun u z => ⟨by rw [F _ _ (by omega)]; exact ((h6 j hj).2 u z).1, cr_fr ((h6 j hj).2 u z).2 (fun a k y1 y2 _ => F a k (by omega))⟩⟩⟩
  · intro z
    by_cases n0 : v < 0
    · rw [if_pos n0, if_pos n0] at t
      exact wI_of t hd h.qk
    · by_cases n2 : 2 ≤ v
      · rw [if_neg n0, if_pos n2, if_neg n0, if_pos n2] at t
        exact wI_of t hd h.qk
      · have : ∃ i, i < 2 ∧ v = nI i ∧ kp i = none := by
          rcases z with z | z
          · exfalso
            have z := z.resolve_left n0
            have z := Int32.lt_iff_toInt_lt.mp z
            have y := fun w => n2 (Int32.le_iff_toInt_le.mpr w)
            have e1 : (1 : Int32).toInt = 1 := rfl
            have e2 : (2 : Int32).toInt = 2 := rfl
            rw [e2] at y
            exact y (by omega)
          · exact z
        obtain ⟨i, hi, rfl, hk⟩ := this
        have k1 := (h6 i hi).1 hk
        rw [nI_clamp (by omega), if_neg n0, if_neg n2, if_neg (fun y => y k1), if_neg n0, if_neg n2, if_neg (fun y => y k1)] at t
        exact wI_of t hd h.qk
theorem R_again (hd : 2 ≤ d) (h : IR g un kp tx ts rw he sa M ML R) (v : Int32) : (∀ i u, i < 2 → v = nI i → kp i = some u → wI d 232 [.ref 219, .int v] M ML R (RK 1 u [] kp tx ts rw he sa M ML R)) ∧ ((v < 0 ∨ 1 < v) ∨ (∃ i, i < 2 ∧ v = nI i ∧ kp i = none) → wI d 232 [.ref 219, .int v] M ML R (RK 0 g un kp tx ts rw he sa M ML R)) := by
  have t := t_magain M ML R v
  rw [md_agA, md_agM] at t
  obtain ⟨⟨h1, h2⟩, h3⟩ := h.p
  constructor
  · rintro i u hi rfl hk
    have e1 : md_in (nI i) 0 1 = 1 := in_y (lo := 0) (hi := 1) (by decide) (by omega) (by omega)
    obtain ⟨k1, k2⟩ := (h3 i hi).2 u hk
    have k3 : ¬ M 243 i = 0 := by rw [k1]; decide
    rw [nI_clamp (by omega), e1, if_neg (by decide), if_pos k3, if_neg (by decide), if_pos k3] at t
    have F : fr (fun a j => (a = 219 ∧ (j = 5 ∨ j = 19)) ∨ a = 220) M (fm_row (fm_u (fm_u M 219 5 0) 219 19 0) 220 (md_lay (fun j => M 242 (43 * i + j)) (M 220) 0 43)) := fun a j z => by
      rw [fm_row_off (fun e => z (Or.inr e))]
      exact (fr_u2 (S := fun a j => a = 219 ∧ (j = 5 ∨ j = 19)) (fr_u (by omega)) (by omega)) a j (by omega)
    refine wI_of t hd ⟨rfl, h.w (F.mono (fun a j z => by omega)) (fun k hk => ?_) ?_ (JW_fr h.2.2.2.2.1 (F _ _ (by omega)) (fun _ => rfl)), F.mono (fun a j z => by omega), fr.rfl, fr.rfl⟩
    · rw [fm_row_row, md_lay, if_pos (by omega)]
      exact k2 k hk
    · exact ⟨⟨by rw [fm_row_off (by decide), fm_u_at]; rfl, fun k hk => absurd hk (by simp)⟩, fun j hj => ⟨fun z => by rw [F _ _ (by omega)]; exact (h3 j hj).1 z, fun u z => ⟨by rw [F _ _ (by omega)]; exact ((h3 j hj).2 u z).1, fun k hk => by rw [F _ _ (by omega)]; exact ((h3 j hj).2 u z).2 k hk⟩⟩⟩
  · intro z
    rcases z with z | ⟨i, hi, rfl, hk⟩
    · have e1 : md_in v 0 1 = 0 := in_n z
      rw [e1, if_pos rfl, if_pos rfl] at t
      exact wI_of t hd ⟨rfl, h.t0, t0_fr, fr.rfl, fr.rfl⟩
    · have e1 : md_in (nI i) 0 1 = 1 := in_y (lo := 0) (hi := 1) (by decide) (by omega) (by omega)
      have k1 := (h3 i hi).1 hk
      rw [nI_clamp (by omega), e1, if_neg (by decide), if_neg (fun y => y k1), if_neg (by decide), if_neg (fun y => y k1)] at t
      exact wI_of t hd ⟨rfl, h.t0, t0_fr, fr.rfl, fr.rfl⟩
end leaves
