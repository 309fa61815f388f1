section cnt
variable {d B b r : Nat} {g gk g' u : gr} {ts tx tx' t' : List Nat} {rw rw' : List Int64} {un un' : List gr} {kp kp' : Nat → Option gr} {he sa : List (Nat × Nat)} {M0 M M1 : Nat → Nat → Int32} {L0 ML L1 : Nat → Nat → Int64} {R0 R R1 : Nat → Nat → Option Nat}
/-! count -/
def q_ct (g : gr) (un : List gr) (tx ts : List Nat) (rw : List Int64) (he sa : List (Nat × Nat)) (a : Int32) : Int32 := if a = 0 then nI (g_ts g) else if a = 1 then nI (g 40) else if a = 2 then nI (g 41) else if a = 3 then nI (g 42) else if a = 4 then nI ts.length else if a = 5 then nI (g_da g 8) else if a = 6 then nI he.length else if a = 7 then nI sa.length else if a = 8 then nI un.length else if a = 9 then nI rw.length else if a = 10 then nI tx.length else -1
theorem C_count (hd : 1 ≤ d) (h : IC g un kp tx ts rw he sa M ML R) (hs : SO g un kp ts B) (a : Int32) : wI (d + 1) 129 [.ref 0, .int a] M ML R (CQ (q_ct g un tx ts rw he sa a) rw M ML R) := by
  have hb := h.b
  obtain ⟨h1, h2, ⟨⟨o, p1, p2, p3, p4, p5⟩, p6⟩, h4, h5, h6, h7, h8, h9⟩ := h
  unfold q_ct
  refine w129 ⟨fun z => ?_, fun z => ?_, fun z => ?_, fun z => ?_, fun z => ?_, fun z => ?_, fun z => ?_, fun z => ?_, fun z => ?_, fun z => ?_, fun z => ?_, fun z0 z1 z2 z3 z4 z5 z6 z7 z8 z9 z10 => ?_⟩
  · subst z; exact C_tset fm_W1 (by omega) h2 hs.1 hb.q
  · subst z; rw [h2.1]; exact hb.q
  · subst z; rw [h2.2.1]; exact hb.q
  · subst z; rw [h2.2.2.1]; exact hb.q
  · subst z; rw [h5.1]; exact hb.q
  · subst z; exact C_doa fm_W1 (by omega) h2 hs.1 hb.q
  · subst z; rw [h7.2.2.1]; exact hb.q
  · subst z; rw [h8.2.2.1]; exact hb.q
  · subst z; rw [p4]; exact hb.q
  · subst z; rw [h6.2.1]; exact hb.q
  · subst z; rw [h4.2.2.1]; exact hb.q
  · rw [if_neg z0, if_neg z1, if_neg z2, if_neg z3, if_neg z4, if_neg z5, if_neg z6, if_neg z7, if_neg z8, if_neg z9, if_neg z10]
    exact hb.q
theorem R_count (hd : 2 ≤ d) (h : IR g un kp tx ts rw he sa M ML R) (hs : SO g un kp ts B) (a : Int32) : wI (d + 1) 233 [.ref 219, .int a] M ML R (RQ (q_ct g un tx ts rw he sa a) rw M ML R) := by
  have hb := h.b.u (a := 219) (i := 5) (x := 0) (by omega)
  obtain ⟨h1, h2, h3, h4, h5, h6, h7⟩ := h.t0
  unfold q_ct
  refine w233 (fun M1 e1 => ?_)
  subst e1
  refine ⟨fun z => ?_, fun z => ?_, fun z => ?_, fun z => ?_, fun z => ?_, fun z => ?_, fun z => ?_, fun z => ?_, fun z => ?_, fun z => ?_, fun z => ?_, fun z0 z1 z2 z3 z4 z5 z6 z7 z8 z9 z10 => ?_⟩
  · subst z; exact R_tset fm_N220 (by omega) h1 hs.1 hb.q
  · subst z; rw [h1 40 (by omega)]; exact hb.q
  · subst z; rw [h1 41 (by omega)]; exact hb.q
  · subst z; rw [h1 42 (by omega)]; exact hb.q
  · subst z; rw [h4.2.2.1]; exact hb.q
  · subst z; exact R_doa fm_N220 (by omega) h1 hb.q
  · subst z; rw [h6.1]; exact hb.q
  · subst z; rw [h7.1]; exact hb.q
  · subst z; rw [h2.1.1]; exact hb.q
  · subst z; rw [h5.1]; exact hb.q
  · subst z; rw [h3.1]; exact hb.q
  · rw [if_neg z0, if_neg z1, if_neg z2, if_neg z3, if_neg z4, if_neg z5, if_neg z6, if_neg z7, if_neg z8, if_neg z9, if_neg z10]
    exact hb.q
/-! saw -/
theorem C_saw (hd : 2 ≤ d) (h : IC g un kp tx ts rw he sa M ML R) (a v : Int32) : (∀ i x, 1 ≤ i → i ≤ 12 → a = nI i → x ≤ 150 → v = nI x → sa.length < 10 → wI d 113 [.ref 0, .int a, .int v] M ML R (CK (nI (sa.length + 1)) g un kp tx ts rw he (sa ++ [(i, x)]) M ML R)) ∧ ((a < 1 ∨ 12 < a) ∨ (v < 0 ∨ 150 < v) ∨ sa.length = 10 → wI d 113 [.ref 0, .int a, .int v] M ML R (CK (-1) g un kp tx ts rw he sa M ML R)) := by
  obtain ⟨i1, i2, i3, i4⟩ := h.2.2.2.2.2.2.2.1
  have t := t_saw M ML R sa.length i1 i3 a v
  rw [si_addA, si_addM] at t
  constructor
  · rintro i x hi1 hi2 rfl hx rfl hl
    have a1 : ¬ nI i < 1 := fun z => absurd ((nI_ltI (b := 1) (by omega) (by decide)).mp z) (by omega)
    have a2 : ¬ 12 < nI i := fun z => absurd ((nI_ltI (a := 12) (by decide) (by omega)).mp z) (by omega)
    have a3 : ¬ nI x < 0 := nI_nneg (by omega)
    have a4 : ¬ 150 < nI x := fun z => absurd ((nI_ltI (a := 150) (by decide) (by omega)).mp z) (by omega)
    have a5 : M 49 3 < 10 := by rw [i3]; exact (nI_ltI (b := 10) (by omega) (by decide)).mpr hl
    rw [if_neg a1, if_neg a2, if_neg a3, if_neg a4, if_pos a5, if_neg a1, if_neg a2, if_neg a3, if_neg a4, if_pos a5, i3, nI_1, nI_clamp (by omega)] at t
    have F : fr (fun a _ => 49 ≤ a ∧ a ≤ 51) M (fm_u (fm_u (fm_u M 50 sa.length (nI i)) 51 sa.length (nI x)) 49 3 (nI (sa.length + 1))) := fr_u2 (fr_u2 (fr_u (by omega)) (by omega)) (by omega)
    refine wI_of t hd ⟨rfl, h.s F ⟨by simp; omega, fun p hp => ?_, by rw [fm_u_at]; simp, fun k hk => ?_⟩, F.mono (fun a i z => by omega), fr.rfl, rfl⟩
    · rcases List.mem_append.mp hp with y | y
      · exact i2 p y
      · have : p = (i, x) := by simpa using y
        subst this
        exact ⟨hi1, hi2, hx⟩
    · simp at hk
      rw [pr_get hk]
      by_cases e : k = sa.length
      · subst e
        rw [if_pos rfl]
        exact ⟨by rw [fm_u_off (by decide), fm_u_off (by decide), fm_u_at], by rw [fm_u_off (by decide), fm_u_at]⟩
      · rw [if_neg e]
        exact ⟨by rw [fm_u_off (by decide), fm_u_off (by decide), fm_u_ix e]; exact (i4 k (by omega)).1, by rw [fm_u_off (by decide), fm_u_ix e, fm_u_off (by decide)]; exact (i4 k (by omega)).2⟩
  · intro z
    refine wI_of t hd ?_
    by_cases a1 : a < 1
    · rw [if_pos a1, if_pos a1]; exact h.qk
    · rw [if_neg a1, if_neg a1]
      by_cases a2 : 12 < a
      · rw [if_pos a2, if_pos a2]; exact h.qk
      · rw [if_neg a2, if_neg a2]
        by_cases a3 : v < 0
        · rw [if_pos a3, if_pos a3]; exact h.qk
        · rw [if_neg a3, if_neg a3]
          by_cases a4 : 150 < v
          · rw [if_pos a4, if_pos a4]; exact h.qk
          · rw [if_neg a4, if_neg a4]
            have hl : sa.length = 10 := by
              rcases z with (z | z) | (z | z) | z
              · exact absurd z a1
              · exact absurd z a2
              · exact absurd z a3
              · exact absurd z a4
              · exact z
            have a5 : ¬ M 49 3 < 10 := by rw [i3, hl]; decide
            rw [if_neg a5, if_neg a5]
            exact h.qk
theorem R_saw (hd : 2 ≤ d) (hl10 : sa.length ≤ 10) (h : IR g un kp tx ts rw he sa M ML R) (a v : Int32) : (∀ i x, 1 ≤ i → i ≤ 12 → a = nI i → x ≤ 150 → v = nI x → sa.length < 10 → wI d 215 [.ref 219, .int a, .int v] M ML R (RK (nI (sa.length + 1)) g un kp tx ts rw he (sa ++ [(i, x)]) M ML R)) ∧ ((a < 1 ∨ 12 < a) ∨ (v < 0 ∨ 150 < v) ∨ sa.length = 10 → wI d 215 [.ref 219, .int a, .int v] M ML R (RK (-1) g un kp tx ts rw he sa M ML R)) := by
  obtain ⟨i3, i4⟩ := h.2.2.2.2.2.2
  have t := t_msaw M ML R sa.length hl10 i3 a v
  rw [md_swA, md_swM] at t
  have no : RK (-1) g un kp tx ts rw he sa M ML R (-1) (fm_u M 219 5 0) ML R := ⟨rfl, h.t0, t0_fr, fr.rfl, fr.rfl⟩
  constructor
  · rintro i x hi1 hi2 rfl hx rfl hl
    have a1 : ¬ md_in (nI i) 1 12 = 0 := by rw [show md_in (nI i) 1 12 = 1 from in_y (lo := 1) (hi := 12) (by decide) hi1 hi2]; decide
    have a2 : ¬ md_in (nI x) 0 150 = 0 := by rw [show md_in (nI x) 0 150 = 1 from in_y (lo := 0) (hi := 150) (by decide) (by omega) hx]; decide
    have a5 : ¬ M 219 39 = 10 := by rw [i3]; exact fun z => absurd ((nI_eq (b := 10) (by omega) (by decide)).mp z) (by omega)
    rw [if_neg a1, if_neg a2, if_pos a5, if_neg a1, if_neg a2, if_pos a5, i3, nI_1] at t
    have F : fr (fun a i => (a = 219 ∧ (i = 5 ∨ i = 39)) ∨ a = 238 ∨ a = 239) M (fm_u (fm_u (fm_u (fm_u M 219 5 0) 238 sa.length (nI i)) 239 sa.length (nI x)) 219 39 (nI (sa.length + 1))) := fr_u2 (fr_u2 (fr_u2 (fr_u (by omega)) (by omega)) (by omega)) (by omega)
    refine wI_of t hd ⟨rfl, h.s F ⟨by rw [fm_u_at]; simp, fun k hk => ?_⟩, F.mono (fun a i z => by omega), fr.rfl, fr.rfl⟩
    simp at hk
    rw [pr_get hk]
    by_cases e : k = sa.length
    · subst e
      rw [if_pos rfl]
      exact ⟨by rw [fm_u_off (by decide), fm_u_off (by decide), fm_u_at], by rw [fm_u_off (by decide), fm_u_at]⟩
    · rw [if_neg e]
      exact ⟨by rw [fm_u_off (by decide), fm_u_off (by decide), fm_u_ix e, fm_u_off (by decide)]; exact (i4 k (by omega)).1, by rw [fm_u_off (by decide), fm_u_ix e, fm_u_off (by decide), fm_u_off (by decide)]; exact (i4 k (by omega)).2⟩
  · intro z
    refine wI_of t hd ?_
    by_cases a1 : md_in a 1 12 = 0
    · rw [if_pos a1, if_pos a1]; exact no
    · rw [if_neg a1, if_neg a1]
      by_cases a2 : md_in v 0 150 = 0
      · rw [if_pos a2, if_pos a2]; exact no
      · rw [if_neg a2, if_neg a2]
        have hl : sa.length = 10 := by
          rcases z with z | z | z
          · exact absurd (in_n z) a1
          · exact absurd (in_n z) a2
          · exact z
        have a5 : M 219 39 = 10 := by rw [i3, hl]; rfl
        rw [if_neg (fun y => y a5), if_neg (fun y => y a5)]
        exact no
/-! task -/
theorem C_taskM (hd : 1 ≤ d) (h : IC g un kp tx ts rw he sa M ML R) (hs : SO g un kp ts B) {q w : Nat} (hq : q < 8) (h0 : 0 < g q) (hw : w ≤ 4) : wI (d + 1) 78 [.ref 0, .int (nI q), .int (nI w)] M ML R (CQ (nI (g (8 * w + q))) rw M ML R) := by
  have hb := h.b
  obtain ⟨b1, b2, b3, b4, -⟩ := (h.2.1.2.2.2 q hq).2.2.2.2 h0
  have a2 := (h.2.1.2.2.2 q hq).1
  have wn : ∀ j, j < 5 → (nI w = nI j ↔ w = j) := fun j hj => nI_eq (by omega) (by omega)
  refine w78 (C_th fm_W1 hd h.2.1 hs.1 _ (fun q' _ _ _ => ⟨fun _ => ⟨fun z => ?_, fun z => ?_, fun z => ?_, fun z => ?_, fun z => ?_, fun z0 z1 z2 z3 z4 => ?_⟩, fun y => absurd y (by decide)⟩) (fun z => absurd ((th_nI hq).mpr h0) z))
  · have := (wn 0 (by decide)).mp z; subst this
    exact ⟨q, rfl, hq, by rw [show M 2 q = nI (g q) from b1, show 8 * 0 + q = q by omega]; exact hb.q⟩
  · have := (wn 1 (by decide)).mp z; subst this
    exact ⟨q, rfl, hq, by rw [show M 3 q = nI (g (8 + q)) from a2]; exact hb.q⟩
  · have := (wn 2 (by decide)).mp z; subst this
    exact ⟨q, rfl, hq, by rw [show M 5 q = nI (g (16 + q)) from b2]; exact hb.q⟩
  · have := (wn 3 (by decide)).mp z; subst this
    exact ⟨q, rfl, hq, by rw [show M 6 q = nI (g (24 + q)) from b3]; exact hb.q⟩
  · have := (wn 4 (by decide)).mp z; subst this
    exact ⟨q, rfl, hq, by rw [show M 7 q = nI (g (32 + q)) from b4]; exact hb.q⟩
  · have e0 : ¬ w = 0 := fun y => z0 ((wn 0 (by decide)).mpr y)
    have e1 : ¬ w = 1 := fun y => z1 ((wn 1 (by decide)).mpr y)
    have e2 : ¬ w = 2 := fun y => z2 ((wn 2 (by decide)).mpr y)
    have e3 : ¬ w = 3 := fun y => z3 ((wn 3 (by decide)).mpr y)
    have e4 : ¬ w = 4 := fun y => z4 ((wn 4 (by decide)).mpr y)
    omega
/-- whether it was lost is told too -/
def RQt (t : Int32) (A : Int32) (W : List Int64) (M : Nat → Nat → Int32) (ML : Nat → Nat → Int64) (R : Nat → Nat → Option Nat) : wK := fun v M1 L1 R1 => RQ A W M ML R v M1 L1 R1 ∧ M1 219 5 = t
theorem R_lost {A : Int32} (hd : 1 ≤ d) (h : BR g ts rw M0 L0 R0 M ML R) : wI d 134 [.ref 219] M ML R (RQt 1 0 rw M0 L0 R0) := wI_of (t_mlost (M, ML, R)) hd ⟨(h.u (a := 219) (i := 5) (x := 1) (by omega)).q, fm_u_at⟩
theorem R_taskM (hd : 2 ≤ d) (h : IR g un kp tx ts rw he sa M ML R) (hs : SO g un kp ts B) (a b : Int32) : (∀ q w, q < 8 → 0 < g q → w ≤ 4 → a = nI q → b = nI w → wI (d + 1) 167 [.ref 219, .int a, .int b] M ML R (RQt 0 (nI (g (8 * w + q))) rw M ML R)) ∧ (¬ th g a ∨ (b < 0 ∨ 4 < b) → wI (d + 1) 167 [.ref 219, .int a, .int b] M ML R (RQt 1 0 rw M ML R)) := by
  have hb := h.b.u (a := 219) (i := 5) (x := 0) (by omega)
  constructor
  · rintro q w hq h0 hw rfl rfl
    refine w167 (fun M1 e1 => ?_)
    subst e1
    refine R_task (by omega) hb.1 hs.1 _ (fun q' _ _ _ => ⟨fun y => absurd y (by decide), fun _ => R_in (by omega) ?_⟩) (fun z => absurd ((th_nI hq).mpr h0) z)
    rw [show md_in (nI w) 0 4 = 1 from in_y (lo := 0) (hi := 4) (by decide) (by omega) hw]
    refine ⟨fun _ => ⟨8 * w + q, n8' w q, by omega, ?_⟩, fun y => absurd y (by decide)⟩
    rw [hb.1 (8 * w + q) (by omega)]
    exact ⟨hb.q, fm_u_at⟩
  · intro z
    refine w167 (fun M1 e1 => ?_)
    subst e1
    refine R_task (by omega) hb.1 hs.1 _ (fun q' hq' e h0' => ⟨fun y => absurd y (by decide), fun _ => R_in (by omega) ?_⟩) (fun _ => ⟨fun _ => R_lost (A := 0) (by omega) hb, fun y => absurd rfl y⟩)
    have z := z.resolve_left (fun y => y ⟨q', hq', e, h0'⟩)
    rw [in_n z]
    exact ⟨fun y => absurd rfl y, fun _ => R_lost (A := 0) (by omega) hb⟩
/-! row -/
theorem C_row (h : IC g un kp tx ts rw he sa M ML R) {k : Nat} (hk : k < rw.length) : wL (d + 1) 130 [.ref 0, .int (nI k)] M ML R (fun v M1 L1 R1 => v = rw.getD k 0 ∧ M1 = M ∧ L1 = ML ∧ R1 = R) := by
  obtain ⟨w1, w2, w3⟩ := h.2.2.2.2.2.1
  refine w130 ⟨fun z => absurd z (nI_nneg (by omega)), fun _ => ⟨fun _ => ⟨k, rfl, by omega, w3 k hk, rfl, rfl, rfl⟩, fun z => absurd ?_ z⟩⟩
  rw [w2]
  exact (nI_ltI (by omega) (by omega)).mpr hk
theorem R_row (hd : 1 ≤ d) (hl : rw.length ≤ 8) (h : IR g un kp tx ts rw he sa M ML R) (a : Int32) : (∀ k, k < rw.length → a = nI k → wL (d + 1) 234 [.ref 219, .int a] M ML R (fun v M1 L1 R1 => v = rw.getD k 0 ∧ M1 = fm_u M 219 5 0 ∧ L1 = ML ∧ R1 = R)) ∧ (a < 0 ∨ nI rw.length ≤ a → wL (d + 1) 234 [.ref 219, .int a] M ML R (fun _ M1 L1 R1 => M1 = fm_u (fm_u M 219 5 0) 219 5 1 ∧ L1 = ML ∧ R1 = R)) := by
  obtain ⟨w2, w3⟩ := h.2.2.2.2.1
  have e4 : fm_u M 219 5 0 219 4 = nI rw.length := by rw [fm_u_ix (by decide)]; exact w2
  constructor
  · rintro k hk rfl
    refine w234 (fun M1 e1 => ?_)
    subst e1
    rw [e4, show nI rw.length - 1 = nI (rw.length - 1) from nI_sub (b := 1) (by omega)]
    refine R_in (by omega) ?_
    rw [show md_in (nI k) 0 (nI (rw.length - 1)) = 1 from in_y (lo := 0) (by omega) (by omega) (by omega)]
    exact ⟨fun y => absurd y (by decide), fun _ => ⟨k, rfl, by omega, w3 k hk, rfl, rfl, rfl⟩⟩
  · intro z
    refine w234 (fun M1 e1 => ?_)
    subst e1
    rw [e4]
    refine R_in (by omega) ?_
    have hn : md_in a 0 (nI rw.length - 1) = 0 := by
      by_cases z0 : a < 0
      · exact in_n (Or.inl z0)
      · have z := z.resolve_left z0
        refine in_n (Or.inr ?_)
        have z := Int32.le_iff_toInt_le.mp z
        rw [nI_toInt (by omega)] at z
        apply Int32.lt_iff_toInt_lt.mpr
        rw [show nI rw.length - 1 = nI rw.length - nI 1 from rfl, ts_neg (by omega) (by decide)]
        omega
    rw [hn]
    exact ⟨fun _ => wI_of (t_mlost (fm_u M 219 5 0, ML, R)) hd ⟨rfl, rfl, rfl⟩, fun y => absurd rfl y⟩
end cnt
