/-! the reference reads numbers -/
section num
variable {d B b r bd p n : Nat} {g gk g' u : gr} {ts tx tx' t' : List Nat} {rw rw' : List Int64} {un un' : List gr} {M0 M M1 : Nat → Nat → Int32} {L0 ML L1 : Nat → Nat → Int64} {R0 R R1 : Nat → Nat → Option Nat} {top : Nat} {wr : Int32}
theorem in_d1 : ∀ c, c < 256 → md_in (nI c) 49 (49 + 9 - 1) = if isd c = true ∧ ¬ c = 48 then 1 else 0 := by decide +kernel
theorem in_d0 : ∀ c, c < 256 → md_in (nI c) 48 57 = if isd c = true then 1 else 0 := by decide +kernel
theorem dg_b1 : ∀ c, c < 256 → isd c = true ∧ ¬ c = 48 → by8 c - 49 = nI (c - 49) := by decide +kernel
theorem R_digit1 {K : wK} (hd : 3 ≤ d) (hl : tx.length ≤ 80) (ht : top < 1000) (hp : p < 1000) (hx : ∀ c ∈ tx, c < 256) (h : PS tx top p (-1) M R) (h1 : p < tx.length → p < top → isd (cp tx p) = true ∧ ¬ cp tx p = 48 → K (nI (cp tx p - 49)) (fm_u M 219 15 (nI (p + 1))) ML R) (h0 : ¬ ((p < tx.length ∧ p < top) ∧ isd (cp tx p) = true ∧ ¬ cp tx p = 48) → K 0 (fm_u M 219 16 (nI p)) ML R) : wI d 159 [.ref 219, .int 49, .int 9] M ML R K := by
  obtain ⟨d, rfl⟩ : ∃ e, d = e + 1 := ⟨d - 1, by omega⟩
  refine w159 (R_fine (by omega) h ?_)
  rw [if_pos rfl]
  refine ⟨fun _ => R_here (by omega) hl ht hp hx h (R_in (by omega) ?_), fun y => absurd y (by decide)⟩
  have no : ¬ ((p < tx.length ∧ p < top) ∧ isd (cp tx p) = true ∧ ¬ cp tx p = 48) → wV d 157 [.ref 219, .int (M 219 15)] M ML R (fun M6 L6 R6 => K 0 M6 L6 R6) := fun z => by
    rw [h.2.2.1]
    exact R_fault (by omega) h (fun _ => h0 z) (fun y => absurd rfl y)
  unfold hr
  by_cases z : p < tx.length ∧ p < top
  · rw [if_pos z, in_d1 _ (cp_lt hx z.1)]
    by_cases y : isd (cp tx p) = true ∧ ¬ cp tx p = 48
    · rw [if_pos y]
      refine ⟨fun _ M4 e4 => ⟨h.2.2.2.2.1, p, ?_, by omega, ?_⟩, fun w => absurd w (by decide)⟩
      · subst e4
        rw [fm_u_at, h.2.2.1, nI_1]
        exact nI_sub (a := p + 1) (b := 1) (by omega)
      · subst e4
        rw [h.2.2.1, nI_1, fm_u_off (by decide), h.2.2.2.2.2 p z.1, dg_b1 _ (cp_lt hx z.1) y]
        exact h1 z.1 z.2 y
    · rw [if_neg y]
      exact ⟨fun w => absurd rfl w, fun _ => no (fun w => y w.2)⟩
  · rw [if_neg z]
    exact ⟨fun w => absurd (by decide) w, fun _ => no (fun w => z w.1)⟩
abbrev PF (a i : Nat) : Prop := a = 219 ∧ 15 ≤ i ∧ i ≤ 16
/-- numberOf -/
theorem R_num {K : wK} (hd : 4 ≤ d) (hl : tx.length ≤ 80) (ht : top < 900) (hp : p < 900) (hx : ∀ c ∈ tx, c < 256) (hb : bd = min tx.length top) (h : PS tx top p (-1) M R) (h1 : ¬ (rdN tx bd p).1 = 0 → ∀ M1, PS tx top (rdN tx bd p).2 (-1) M1 R → fr PF M M1 → K (nI (rdN tx bd p).1) M1 ML R) (h0 : (rdN tx bd p).1 = 0 → (rdN tx bd p).2 = p → ∀ M1, PS tx top p (nI p) M1 R → fr PF M M1 → K 1 M1 ML R) : wI d 161 [.ref 219] M ML R K := by
  obtain ⟨d, rfl⟩ : ∃ e, d = e + 1 := ⟨d - 1, by omega⟩
  refine w161 (R_digit1 (by omega) hl (by omega) (by omega) hx h (fun y1 y2 y3 => ?_) (fun y => ?_))
  · have hz : (p < bd ∧ isd (cp tx p) = true) ∧ ¬ cp tx p = 48 := ⟨⟨by omega, y3.1⟩, y3.2⟩
    have h9 := isd_48 y3.1
    have s1 := PS_at (n := p + 1) h
    have f1 : fr PF M (fm_u M 219 15 (nI (p + 1))) := fr_u (by omega)
    have ev : nI (cp tx p - 49) + 1 = nI (cp tx p - 48) := by rw [nI_1]; congr 1; omega
    refine R_fine (by omega) s1 ?_
    rw [if_pos rfl, ev]
    refine ⟨fun w => absurd w (by decide), fun _ => R_here (by omega) hl (by omega) (by omega) hx s1 (R_in (by omega) ?_)⟩
    unfold rdN at h1
    rw [if_pos hz] at h1
    unfold hr
    by_cases z : p + 1 < tx.length ∧ p + 1 < top
    · rw [if_pos z, in_d0 _ (cp_lt hx z.1)]
      by_cases y : isd (cp tx (p + 1)) = true
      · rw [if_pos y]
        refine ⟨fun w => absurd w (by decide), fun _ => ?_⟩
        rw [if_pos ⟨by omega, y⟩] at h1
        refine R_digit (by omega) hl (by omega) (by omega) hx s1 (fun w1 w2 w3 => ?_) (fun w => absurd ⟨z.1, z.2, y⟩ w)
        rw [show (10 : Int32) * nI (cp tx p - 48) = nI (10 * (cp tx p - 48)) from nI_mul 10 _, nI_add]
        exact h1 (by dsimp only; omega) _ (PS_at s1) (fr_u2 f1 (by omega))
      · rw [if_neg y]
        rw [if_neg (fun w => y w.2)] at h1
        exact ⟨fun _ => h1 (by dsimp only; omega) _ s1 f1, fun w => absurd rfl w⟩
    · rw [if_neg z]
      rw [if_neg (fun w => z ⟨by omega, by omega⟩)] at h1
      exact ⟨fun _ => h1 (by dsimp only; omega) _ s1 f1, fun w => absurd (by decide) w⟩
  · have hz : ¬ ((p < bd ∧ isd (cp tx p) = true) ∧ ¬ cp tx p = 48) := fun w => y ⟨⟨by omega, by omega⟩, w.1.2, w.2⟩
    have s1 := PS_wr (x := nI p) h
    refine R_fine (by omega) s1 ?_
    rw [if_neg (nI_nm1 (by omega))]
    refine ⟨fun _ => ?_, fun w => absurd rfl w⟩
    unfold rdN at h0
    rw [if_neg hz] at h0
    exact h0 rfl rfl _ s1 (fr_u (by omega))
theorem R_numN {K : wK} (hd : 4 ≤ d) (h : PS tx top p wr M R) (hw : ¬ wr = -1) (hK : K 1 M ML R) : wI d 161 [.ref 219] M ML R K := by
  obtain ⟨d, rfl⟩ : ∃ e, d = e + 1 := ⟨d - 1, by omega⟩
  refine w161 (R_digitN (by omega) h hw (R_fine (by omega) h ?_))
  rw [if_neg hw]
  exact ⟨fun _ => hK, fun w => absurd rfl w⟩
/-- passes -/
theorem R_pass {K : wK} {c : Nat} (hd : 2 ≤ d) (hl : tx.length ≤ 80) (ht : top < 1000) (hp : p < 1000) (hx : ∀ c ∈ tx, c < 256) (hc : c < 256) (h : PS tx top p (-1) M R) (h1 : p < tx.length → p < top → cp tx p = c → K 1 (fm_u M 219 15 (nI (p + 1))) ML R) (h0 : ¬ ((p < tx.length ∧ p < top) ∧ cp tx p = c) → K 0 M ML R) : wI d 158 [.ref 219, .int (nI c)] M ML R K := by
  obtain ⟨d, rfl⟩ : ∃ e, d = e + 1 := ⟨d - 1, by omega⟩
  refine w158 (R_fine (by omega) h ?_)
  rw [if_pos rfl]
  refine ⟨fun w => absurd w (by decide), fun _ => R_here (by omega) hl ht hp hx h ?_⟩
  unfold hr
  by_cases z : p < tx.length ∧ p < top
  · rw [if_pos z]
    have hcl := cp_lt hx z.1
    refine ⟨fun y M3 e3 => ?_, fun y => h0 (fun w => y (by rw [w.2]))⟩
    subst e3
    rw [h.2.2.1, nI_1]
    exact h1 z.1 z.2 ((nI_eq (by omega) (by omega)).mp y)
  · rw [if_neg z]
    exact ⟨fun y => absurd y.symm (nI_nm1 (by omega)), fun _ => h0 (fun w => z w.1)⟩
theorem R_passN {K : wK} {c : Int32} (hd : 2 ≤ d) (h : PS tx top p wr M R) (hw : ¬ wr = -1) (hK : K 0 M ML R) : wI d 158 [.ref 219, .int c] M ML R K := by
  obtain ⟨d, rfl⟩ : ∃ e, d = e + 1 := ⟨d - 1, by omega⟩
  refine w158 (R_fine (by omega) h ?_)
  rw [if_neg hw]
  exact ⟨fun _ => hK, fun w => absurd rfl w⟩
end num
