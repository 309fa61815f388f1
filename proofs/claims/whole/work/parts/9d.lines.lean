/-! LINES -/
def rdN (tx : List Nat) (bd p : Nat) : Nat × Nat := if (p < bd ∧ isd (cp tx p) = true) ∧ ¬ cp tx p = 48 then (if p + 1 < bd ∧ isd (cp tx (p + 1)) = true then (10 * (cp tx p - 48) + (cp tx (p + 1) - 48), p + 2) else (cp tx p - 48, p + 1)) else (0, p)
/-- the fault, where it ends, the TASK -/
def rdL2 (tx : List Nat) (bd p e pe : Nat) : Nat × Nat × Option (Nat × Nat × Nat) := if e = 0 then (pe, pe, none) else if bd ≤ pe then (pe, pe, none) else if cp tx pe = 47 then (if ¬ (rdN tx bd (pe + 1)).1 = 0 then (if (rdN tx bd (pe + 1)).1 ≤ 12 then (if e ≤ (rdN tx bd (pe + 1)).1 then (if bd ≤ (rdN tx bd (pe + 1)).2 then (0, (rdN tx bd (pe + 1)).2, some (e, (rdN tx bd (pe + 1)).1, 0)) else if ¬ cp tx (rdN tx bd (pe + 1)).2 = 101 then (0, (rdN tx bd (pe + 1)).2, some (e, (rdN tx bd (pe + 1)).1, 0)) else (0, (rdN tx bd (pe + 1)).2 + 1, some (e, (rdN tx bd (pe + 1)).1, 1))) else (p, (rdN tx bd (pe + 1)).2, none)) else (pe + 1, (rdN tx bd (pe + 1)).2, none)) else ((rdN tx bd (pe + 1)).2, (rdN tx bd (pe + 1)).2, none)) else (pe, pe, none)
def rdL (tx : List Nat) (bd p : Nat) : Nat × Nat × Option (Nat × Nat × Nat) := rdL2 tx bd p (rdN tx bd p).1 (rdN tx bd p).2
def tI (t : Nat × Nat × Nat) : Int32 × Int32 × Int32 := (nI t.1, nI t.2.1, nI t.2.2)
def rlI (x : Nat × Nat × Option (Nat × Nat × Nat)) : Int32 × Nat × Option (Int32 × Int32 × Int32) := match x.2.2 with
  | none => (nI x.1, x.2.1, none)
  | some t => (-1, x.2.1, some (tI t))
section lines
variable {tx : List Nat} {bd p n : Nat} {f : Nat → Int32}
theorem rdN_le (hp : p ≤ bd) : (rdN tx bd p).2 ≤ bd ∧ p ≤ (rdN tx bd p).2 ∧ (rdN tx bd p).1 ≤ 99 := by
  unfold rdN
  by_cases z : (p < bd ∧ isd (cp tx p) = true) ∧ ¬ cp tx p = 48
  · have := isd_9 z.1.2
    rw [if_pos z]
    by_cases y : p + 1 < bd ∧ isd (cp tx (p + 1)) = true
    · have := isd_9 y.2
      rw [if_pos y]
      dsimp only
      omega
    · rw [if_neg y]
      dsimp only
      omega
  · rw [if_neg z]
    dsimp only
    omega
theorem c_rna (hx : ∀ k, k < tx.length → f k = nI (cp tx k)) (hc : ∀ c ∈ tx, c < 256) (hb : bd ≤ tx.length) (p : Nat) : rn_a f bd p = if p < bd ∧ isd (cp tx p) = true then nI (cp tx p - 48) else -1 := by
  unfold rn_a dg
  by_cases z : p < bd
  · rw [if_pos z, hx p (by omega), dig_c _ (cp_lt hc (by omega))]
    by_cases y : isd (cp tx p) = true
    · rw [if_pos y, if_pos ⟨z, y⟩]
    · rw [if_neg y, if_neg (fun w => y w.2)]
  · rw [if_neg z, if_neg (fun w => z w.1)]
theorem isd_48 {c : Nat} (h : isd c = true) : 48 ≤ c ∧ c ≤ 57 := by
  simp only [isd, Bool.and_eq_true, decide_eq_true_eq] at h
  exact h
theorem c_rn (hx : ∀ k, k < tx.length → f k = nI (cp tx k)) (hc : ∀ c ∈ tx, c < 256) (hb : bd ≤ tx.length) (p : Nat) : rn f bd p = (nI (rdN tx bd p).1, (rdN tx bd p).2) := by
  unfold rn rdN
  rw [c_rna hx hc hb p, c_rna hx hc hb (p + 1)]
  by_cases z : p < bd ∧ isd (cp tx p) = true
  · have z9 := isd_48 z.2
    rw [if_pos z]
    by_cases y : cp tx p = 48
    · rw [if_neg (show ¬ ((p < bd ∧ isd (cp tx p) = true) ∧ ¬ cp tx p = 48) from fun w => w.2 y), y, if_neg (by decide)]
      rfl
    · rw [if_pos (show (p < bd ∧ isd (cp tx p) = true) ∧ ¬ cp tx p = 48 from ⟨z, y⟩), if_pos (show (1 : Int32) ≤ nI (cp tx p - 48) from (nI_leI (a := 1) (by decide) (by omega)).mpr (by omega))]
      by_cases w : p + 1 < bd ∧ isd (cp tx (p + 1)) = true
      · have w9 := isd_48 w.2
        rw [if_pos w, if_pos w, if_pos (nI_nm1 (by omega)), show (10 : Int32) * nI (cp tx p - 48) = nI (10 * (cp tx p - 48)) from nI_mul 10 _, nI_add]
      · rw [if_neg w, if_neg w, if_neg (fun v => v rfl)]
  · rw [if_neg z, if_neg (show ¬ ((p < bd ∧ isd (cp tx p) = true) ∧ ¬ cp tx p = 48) from fun w => z w.1), if_neg (by decide)]
    rfl
theorem c_rl2 (hx : ∀ k, k < tx.length → f k = nI (cp tx k)) (hc : ∀ c ∈ tx, c < 256) (hb : bd ≤ tx.length) {e pe : Nat} (he : e ≤ 99) (hpe : pe ≤ bd) : rl2 f bd p (nI e) pe = rlI (rdL2 tx bd p e pe) := by
  unfold rl2 rdL2
  by_cases z : e = 0
  · rw [if_pos (by rw [z]; rfl), if_pos z]; rfl
  · rw [if_neg (nI_ne0 (by omega) (by omega)), if_neg z]
    by_cases y : bd ≤ pe
    · rw [if_pos y, if_pos y]; rfl
    · rw [if_neg y, if_neg y, hx pe (by omega)]
      have hcl := cp_lt hc (show pe < tx.length by omega)
      by_cases x : cp tx pe = 47
      · rw [if_pos (show nI (cp tx pe) = 47 by rw [x]; rfl), if_pos x, c_rn hx hc hb (pe + 1)]
        obtain ⟨r1, r2, r3⟩ := rdN_le (tx := tx) (show pe + 1 ≤ bd by omega)
        generalize rdN tx bd (pe + 1) = q at *
        dsimp only
        by_cases w : q.1 = 0
        · rw [if_neg (show ¬ ¬ nI q.1 = 0 by rw [w]; exact fun v => v rfl), if_neg (fun v => v w)]; rfl
        · rw [if_pos (nI_ne0 (by omega) (by omega)), if_pos w]
          by_cases v : q.1 ≤ 12
          · rw [if_pos (show nI q.1 ≤ 12 from (nI_leI (b := 12) (by omega) (by decide)).mpr v), if_pos v]
            by_cases u : e ≤ q.1
            · rw [if_pos ((nI_leI (by omega) (by omega)).mpr u), if_pos u]
              by_cases s : bd ≤ q.2
              · rw [if_pos s, if_pos s]; rfl
              · have hcq := cp_lt hc (show q.2 < tx.length by omega)
                rw [if_neg s, if_neg s, hx q.2 (by omega)]
                by_cases r : cp tx q.2 = 101
                · rw [if_neg (show ¬ ¬ nI (cp tx q.2) = 101 by rw [r]; exact fun v => v rfl), if_neg (fun v => v r)]; rfl
                · rw [if_pos (show ¬ nI (cp tx q.2) = 101 from fun v => r ((nI_eq (b := 101) (by omega) (by decide)).mp v)), if_pos r]; rfl
            · rw [if_neg (fun k => u ((nI_leI (by omega) (by omega)).mp k)), if_neg u]; rfl
          · rw [if_neg (show ¬ nI q.1 ≤ 12 from fun k => v ((nI_leI (b := 12) (by omega) (by decide)).mp k)), if_neg v]; rfl
      · rw [if_neg (show ¬ nI (cp tx pe) = 47 from fun v => x ((nI_eq (b := 47) (by omega) (by decide)).mp v)), if_neg x]; rfl
theorem rdL_ok (hp : p ≤ bd) {t : Nat × Nat × Nat} (h : (rdL tx bd p).2.2 = some t) : tkok t ∧ p < (rdL tx bd p).2.1 := by
  obtain ⟨a1, a2, a3⟩ := rdN_le (tx := tx) hp
  unfold rdL at h ⊢
  unfold rdL2 at h ⊢
  generalize (rdN tx bd p) = e at *
  split at h
  · cases h
  next z =>
    rw [if_neg z]
    split at h
    · cases h
    next y =>
      rw [if_neg y]
      split at h
      next x =>
        rw [if_pos x]
        obtain ⟨b1, b2, b3⟩ := rdN_le (tx := tx) (show e.2 + 1 ≤ bd by omega)
        generalize (rdN tx bd (e.2 + 1)) = q at *
        split at h
        next w =>
          rw [if_pos w]
          split at h
          next v =>
            rw [if_pos v]
            split at h
            next u =>
              rw [if_pos u]
              split at h
              next s =>
                rw [if_pos s]; cases h
                exact ⟨⟨by show 1 ≤ e.1; omega, u, v, by show 0 ≤ 1; omega⟩, by dsimp only; omega⟩
              next s =>
                rw [if_neg s]
                split at h
                next r =>
                  rw [if_pos r]; cases h
                  exact ⟨⟨by show 1 ≤ e.1; omega, u, v, by show 0 ≤ 1; omega⟩, by dsimp only; omega⟩
                next r =>
                  rw [if_neg r]; cases h
                  exact ⟨⟨by show 1 ≤ e.1; omega, u, v, by show 1 ≤ 1; omega⟩, by dsimp only; omega⟩
            · cases h
          · cases h
        · cases h
      · cases h
end lines
