/-! the reference's TASKS enter -/
section entr
variable {d B b r q : Nat} {g gk g' u : gr} {t : Nat × Nat × Nat} {M0 M M1 : Nat → Nat → Int32} {L0 ML L1 : Nat → Nat → Int64} {R0 R R1 : Nat → Nat → Option Nat}
theorem rr_en {k : Nat} (ha : rr (M 226) gk) : rr (fm_u (fm_u (fm_u (fm_u (fm_u M 226 k (nI t.1)) 226 (8 + k) (nI t.2.1)) 226 (16 + k) (nI (gk 41))) 226 (24 + k) (nI t.2.2)) 226 (32 + k) 0 226) (g_en gk k t) := fun i hi => by
  unfold g_en
  by_cases c5 : i = 32 + k
  · rw [c5, fm_u_at, if_neg (by omega), if_neg (by omega), if_neg (by omega), if_neg (by omega), if_pos rfl] <;> rfl
  · rw [fm_u_ix c5]
    by_cases c4 : i = 24 + k
    · rw [c4, fm_u_at, if_neg (by omega), if_neg (by omega), if_neg (by omega), if_pos rfl]
    · rw [fm_u_ix c4]
      by_cases c3 : i = 16 + k
      · rw [c3, fm_u_at, if_neg (by omega), if_neg (by omega), if_pos rfl]
      · rw [fm_u_ix c3]
        by_cases c2 : i = 8 + k
        · rw [c2, fm_u_at, if_neg (by omega), if_pos rfl]
        · rw [fm_u_ix c2]
          by_cases c1 : i = k
          · rw [c1, fm_u_at, if_pos rfl]
          · rw [fm_u_ix c1, if_neg c1, if_neg c2, if_neg c3, if_neg c4, if_neg c5]
            exact ha i hi
theorem R_enter {K : wK} {x1 x2 x3 : Int32} {j : Nat} (hd : 1 ≤ d) (ha : rr (M 226) gk) (hg : gpk gk B) (hj : j < 8) (m0 : M 224 (3 * j) = nI t.1) (m1 : M 224 (3 * j + 1) = nI t.2.1) (m2 : M 224 (3 * j + 2) = nI t.2.2) (hK : ∀ M1, rr (M1 226) (g_en gk q t) → fr (fun a _ => a = 226) M M1 → H163_112 d x1 x2 x3 (nI (j + 1)) M1 ML R K) : ∀ n k, k + n = 8 → g_lf gk n k = some q → H163_121 d x1 x2 x3 (nI j) (nI k) M ML R K := by
  have e3 : (3 : Int32) * nI j = nI (3 * j) := nI_mul 3 j
  have e31 : (3 : Int32) * nI j + 1 = nI (3 * j + 1) := by rw [e3]; exact nI_1 _
  have e32 : (3 : Int32) * nI j + 2 = nI (3 * j + 2) := by rw [e3]; exact nI_add _ 2
  intro n
  induction n with
  | zero => intro k hk e; cases e
  | succ n ih =>
    intro k hk e
    rw [g_lf] at e
    refine h163_121 (R_thK fm_N226 hd ha hg (by omega) ?_)
    by_cases z : 0 < gk k
    · rw [if_pos z] at e
      rw [if_pos z]
      refine ⟨fun y => absurd y (by decide), fun _ => ?_⟩
      rw [nI_1]
      exact ih (k + 1) (by omega) e
    · rw [if_neg z] at e
      rw [if_neg z]
      have e' : k = q := Option.some.inj e
      subst e'
      refine ⟨fun _ => ⟨3 * j, e3, by omega, ?_⟩, fun y => absurd rfl y⟩
      refine ⟨k, rfl, by omega, fun M3 h3 => ⟨3 * j + 1, e31, by omega, ?_⟩⟩
      rw [m0] at h3
      refine ⟨8 + k, ix8 k, by omega, fun M5 h5 => ?_⟩
      rw [h3, fm_u_off (by decide), m1] at h5
      refine ⟨16 + k, ix16 k, by omega, fun M6 h6 => ?_⟩
      rw [h5, fm_u_ix (by omega), fm_u_ix (by omega), ha 41 (by omega)] at h6
      refine ⟨3 * j + 2, e32, by omega, 24 + k, ix24 k, by omega, fun M8 h8 => ?_⟩
      rw [h6, fm_u_off (by decide), fm_u_off (by decide), fm_u_off (by decide), m2] at h8
      refine ⟨32 + k, ix32 k, by omega, fun M9 h9 => ?_⟩
      rw [h8] at h9
      rw [nI_1, h9]
      exact hK _ (rr_en ha) (fr_u2 (fr_u2 (fr_u2 (fr_u2 (fr_u rfl) rfl) rfl) rfl) rfl)
end entr
/-! how many TASKS are wanting -/
def nfr (g : gr) : Nat → Nat
  | 0 => 0
  | k + 1 => nfr g k + if 0 < g k then 0 else 1
section nfr
variable {g : gr} {q : Nat} {t : Nat × Nat × Nat}
theorem nfr_ct : ∀ n, (List.range n).countP (fun k => decide (0 < g k)) + nfr g n = n := by
  intro n
  induction n with
  | zero => rfl
  | succ n ih =>
    rw [List.range_succ, List.countP_append, nfr]
    by_cases z : 0 < g n
    · have e : List.countP (fun k => decide (0 < g k)) [n] = 1 := by simp [z]
      rw [e, if_pos z]; omega
    · have e : List.countP (fun k => decide (0 < g k)) [n] = 0 := by simp [z]
      rw [e, if_neg z]; omega
theorem nfr_bc : bc (g_ts g) + nfr g 8 = 8 := by
  have e : bc (g_ts g) = (List.range 8).countP (fun k => decide (0 < g k)) := by
    unfold bc
    refine List.countP_congr (fun k hk => ?_)
    have hk8 : k < 8 := List.mem_range.mp hk
    have : (g_ts g).testBit k = decide (0 < g k) := bm_8 _ hk8
    rw [this]
  rw [e]
  exact nfr_ct 8
theorem nfr_en (hq : q < 8) (h0 : ¬ 0 < g q) (ht : tkok t) : ∀ n, n ≤ 8 → nfr (g_en g q t) n + (if q < n then 1 else 0) = nfr g n := by
  intro n
  induction n with
  | zero => intro _; rfl
  | succ n ih =>
    intro hn
    have i := ih (by omega)
    rw [nfr, nfr]
    have ht1 := ht.1
    by_cases z : n = q
    · rw [z] at i ⊢
      rw [if_neg (show ¬ q < q by omega)] at i
      rw [g_en_1, if_pos (show 0 < t.1 by omega), if_neg h0, if_pos (show q < q + 1 by omega)]
      omega
    · rw [g_en_n hq (Or.inr ⟨n, by omega, z, Or.inl rfl⟩)]
      by_cases y : q < n
      · rw [if_pos y] at i
        rw [if_pos (show q < n + 1 by omega)]
        omega
      · rw [if_neg y] at i
        rw [if_neg (show ¬ q < n + 1 by omega)]
        omega
theorem nfr_0 (h : g_lf g 8 0 = none) : nfr g 8 = 0 := by
  have hp := g_lf_none 8 0 h
  have : ∀ n, n ≤ 8 → nfr g n = 0 := by
    intro n
    induction n with
    | zero => intro _; rfl
    | succ n ih =>
      intro hn
      rw [nfr, ih (by omega), if_pos (hp n (by omega) (by omega))]
  exact this 8 (by omega)
theorem nfr_1 (hq : q < 8) (h0 : ¬ 0 < g q) : 0 < nfr g 8 := by
  have : ∀ n, q < n → 0 < nfr g n := by
    intro n
    induction n with
    | zero => intro h; omega
    | succ n ih =>
      intro h
      rw [nfr]
      by_cases z : n = q
      · rw [z, if_neg h0]; omega
      · have := ih (by omega); omega
  exact this 8 hq
end nfr
