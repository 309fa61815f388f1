theorem l_bm {z : Int} (h : z.natAbs < 2 ^ 63) : z.bmod (2 ^ 64) = z := Int.bmod_eq_of_le (by omega) (by omega)
theorem l_div {a b : Int64} (ha : a.toInt.natAbs < 2 ^ 63) : (a / b).toInt = a.toInt.tdiv b.toInt := by
  rw [Int64.toInt_div, l_bm]
  rw [Int.natAbs_tdiv]
  exact Nat.lt_of_le_of_lt (Nat.div_le_self _ _) ha
theorem l_mul {a b : Int64} (h : (a.toInt * b.toInt).natAbs < 2 ^ 63) : (a * b).toInt = a.toInt * b.toInt := by
  rw [Int64.toInt_mul, l_bm h]
theorem l_sub {a b : Int64} (h : (a.toInt - b.toInt).natAbs < 2 ^ 63) : (a - b).toInt = a.toInt - b.toInt := by
  rw [Int64.toInt_sub, l_bm h]
theorem l_rem {a b : Int64} (ha : a.toInt.natAbs < 2 ^ 62) : (a - a / b * b).toInt = a.toInt.tmod b.toInt := by
  have e1 := l_div (b := b) (a := a) (by omega)
  have h1 : (a.toInt.tdiv b.toInt * b.toInt).natAbs ≤ a.toInt.natAbs := by
    rw [Int.natAbs_mul, Int.natAbs_tdiv]
    exact Nat.div_mul_le_self _ _
  have e2 := l_mul (a := a / b) (b := b) (by rw [e1]; omega)
  rw [l_sub, e2, e1, Int.tmod_def, Int.mul_comm]
  rw [e2, e1]
  omega
theorem l_eq0 {a : Int64} : a = 0 ↔ a.toInt = 0 := by
  rw [← Int64.toInt_inj]; rfl
def zN (n : Nat) : Int64 := Int64.ofNat n
theorem zN_toInt {n : Nat} (h : n < 2 ^ 63) : (zN n).toInt = n := Int64.toInt_ofNat_of_lt h
theorem gcd_step (a b : Nat) : Nat.gcd a b = Nat.gcd b (a % b) := by rw [Nat.gcd_comm, Nat.gcd_rec, Nat.gcd_comm]
theorem mod_half {a b : Nat} (hb : 0 < b) (h : ¬ a % b = 0) : b % (a % b) < (b + 1) / 2 := by
  have h1 := Nat.mod_lt a hb
  have h2 := Nat.mod_lt b (show 0 < a % b by omega)
  by_cases h3 : a % b ≤ b / 2
  · omega
  · have : b % (a % b) = b - a % b := by
      rw [Nat.mod_eq_sub_mod (by omega), Nat.mod_eq_of_lt (by omega)]
    omega
theorem abs64 {a : Int64} (ha : a.toInt.natAbs < 2 ^ 62) : (if 0 ≤ a then a else -a) = zN a.toInt.natAbs := by
  apply Int64.toInt_inj.mp
  rw [zN_toInt (by omega)]
  by_cases h : 0 ≤ a
  · rw [if_pos h]
    have := Int64.le_iff_toInt_le.mp h
    have h0 : (0 : Int64).toInt = 0 := rfl
    omega
  · rw [if_neg h, Int64.toInt_neg, l_bm (by omega)]
    have h0 : (0 : Int64).toInt = 0 := rfl
    have h2 : ¬ 0 ≤ a.toInt := fun y => h (Int64.le_iff_toInt_le.mpr (by rw [h0]; exact y))
    omega
theorem lg_0 {x : Int64} : lg_cmp x 0 = 0 ↔ x = 0 := by
  constructor
  · intro h
    unfold lg_cmp at h
    split at h
    · exact absurd h (by decide)
    · split at h
      next e => exact e
      next => exact absurd h (by decide)
  · rintro rfl
    unfold lg_cmp
    rw [if_neg (Int64.lt_irrefl), if_pos rfl]
theorem lg_lt {x y : Int64} : 0 < lg_cmp x y ↔ y < x := by
  unfold lg_cmp
  by_cases h : x > y
  · rw [if_pos h]
    exact ⟨fun _ => h, fun _ => by decide⟩
  · rw [if_neg h]
    refine ⟨fun z => ?_, fun z => absurd z h⟩
    split at z
    · exact absurd z (by decide)
    · exact absurd z (by decide)
theorem lg_ge {x y : Int64} : 0 ≤ lg_cmp x y ↔ y ≤ x := by
  unfold lg_cmp
  by_cases h : x > y
  · rw [if_pos h]
    exact ⟨fun _ => Int64.le_of_lt h, fun _ => by decide⟩
  · rw [if_neg h]
    by_cases e : x = y
    · rw [if_pos e]
      exact ⟨fun _ => by rw [e]; exact Int64.le_refl _, fun _ => by decide⟩
    · rw [if_neg e]
      exact ⟨fun z => absurd z (by decide), fun z => absurd (Int64.lt_of_le_of_ne z (fun y => e y.symm)) h⟩
theorem lg_le {x y : Int64} : lg_cmp x y ≤ 0 ↔ x ≤ y := by
  have h := lg_lt (x := x) (y := y)
  constructor
  · intro z
    exact Int64.not_lt.mp (fun y => absurd (h.mpr y) (Int32.not_lt.mpr z))
  · intro z
    exact Int32.not_lt.mp (fun y => absurd (h.mp y) (Int64.not_lt.mpr z))
theorem labs_z {a : Int64} (ha : a.toInt.natAbs < 2 ^ 62) : jd_labs a = zN a.toInt.natAbs := by
  rw [← abs64 ha, jd_labs]
  by_cases h : 0 ≤ a
  · rw [if_pos h, if_pos (lg_ge.mpr h)]
  · rw [if_neg h, if_neg (fun z => h (lg_ge.mp z))]
def zg (u l : Int64) : Int64 := zN (Nat.gcd u.toInt.natAbs l.toInt.natAbs)
/-- a fraction in lowest terms -/
def fW (u l : Int64) : List Int64 := [u / zg u l, l / zg u l]
theorem c_gcd : ∀ k n (a b : Int64), b.toInt.natAbs < 2 ^ k → a.toInt.natAbs < 2 ^ 62 → b.toInt.natAbs < 2 ^ 62 → 2 * k + 1 ≤ n → 0 ≤ a.toInt → 0 ≤ b.toInt → rw_gl n a b = zg a b := by
  have base : ∀ n (a b : Int64), b = 0 → 1 ≤ n → a.toInt.natAbs < 2 ^ 62 → 0 ≤ a.toInt → rw_gl n a b = zg a b := by
    intro n a b hb hn ha ha0
    obtain ⟨n, rfl⟩ : ∃ m, n = m + 1 := ⟨n - 1, by omega⟩
    subst hb
    rw [rw_gl, if_pos (lg_0.mpr rfl), zg, show (0 : Int64).toInt.natAbs = 0 from rfl, Nat.gcd_zero_right]
    apply Int64.toInt_inj.mp
    rw [zN_toInt (by omega)]
    omega
  intro k
  induction k with
  | zero =>
    intro n a b hb ha _ hn ha0 hb0
    exact base n a b (l_eq0.mpr (by omega)) (by omega) ha ha0
  | succ k ih =>
    intro n a b hb ha hb2 hn ha0 hb0
    by_cases h : b = 0
    · exact base n a b h (by omega) ha ha0
    · obtain ⟨n, rfl⟩ : ∃ m, n = m + 1 := ⟨n - 1, by omega⟩
      have r1 := l_rem (b := b) ha
      have q1 : (a - a / b * b).toInt.natAbs = a.toInt.natAbs % b.toInt.natAbs := by rw [r1, Int.natAbs_tmod]
      have p1 : 0 ≤ (a - a / b * b).toInt := by rw [r1]; exact Int.tmod_nonneg _ ha0
      have hbp : 0 < b.toInt.natAbs := by
        have hz : ¬ b.toInt = 0 := fun z => h (l_eq0.mpr z)
        omega
      have m1 := Nat.mod_lt a.toInt.natAbs hbp
      rw [rw_gl, if_neg (fun z => h (lg_0.mp z))]
      have eg : zg a b = zg b (a - a / b * b) := by rw [zg, zg, q1, gcd_step]
      rw [eg]
      generalize hr : a - a / b * b = r at *
      by_cases h2 : r = 0
      · exact base n b r h2 (by omega) hb2 hb0
      · obtain ⟨n, rfl⟩ : ∃ m, n = m + 1 := ⟨n - 1, by omega⟩
        have r2 := l_rem (b := r) hb2
        have q2 : (b - b / r * r).toInt.natAbs = b.toInt.natAbs % r.toInt.natAbs := by rw [r2, Int.natAbs_tmod]
        have p2 : 0 ≤ (b - b / r * r).toInt := by rw [r2]; exact Int.tmod_nonneg _ hb0
        have hh : ¬ a.toInt.natAbs % b.toInt.natAbs = 0 := fun z => h2 (l_eq0.mpr (by omega))
        have m2 := mod_half hbp hh
        rw [rw_gl, if_neg (fun z => h2 (lg_0.mp z)), show zg b r = zg r (b - b / r * r) by rw [zg, zg, q2, gcd_step]]
        refine ih n r _ (by rw [q2, q1]; rw [Nat.pow_succ] at hb; omega) (by omega) (by rw [q2, q1]; omega) (by omega) p1 p2
theorem R_common {M : Nat → Nat → Int32} {ML : Nat → Nat → Int64} {R : Nat → Nat → Option Nat} {K : wKl} : ∀ k d (a b : Int64), b.toInt.natAbs < 2 ^ k → a.toInt.natAbs < 2 ^ 62 → b.toInt.natAbs < 2 ^ 62 → 2 * k + 2 ≤ d → K (zg a b) M ML R → wL d 139 [.long a, .long b] M ML R K := by
  have base : ∀ d (a b : Int64), b = 0 → 2 ≤ d → a.toInt.natAbs < 2 ^ 62 → K (zg a b) M ML R → wL d 139 [.long a, .long b] M ML R K := by
    intro d a b hb hd ha hK
    obtain ⟨d, rfl⟩ : ∃ m, d = m + 1 := ⟨d - 1, by omega⟩
    subst hb
    refine w139 ⟨fun z => absurd (lg_0.mpr rfl) z, fun _ => wL_of (t_labs _ a) (by omega) ?_⟩
    rw [labs_z ha]
    rw [zg, show (0 : Int64).toInt.natAbs = 0 from rfl, Nat.gcd_zero_right] at hK
    exact hK
  intro k
  induction k with
  | zero =>
    intro d a b hb ha _ hd hK
    exact base d a b (l_eq0.mpr (by omega)) (by omega) ha hK
  | succ k ih =>
    intro d a b hb ha hb2 hd hK
    by_cases h : b = 0
    · exact base d a b h (by omega) ha hK
    · obtain ⟨d, rfl⟩ : ∃ m, d = m + 1 := ⟨d - 1, by omega⟩
      have r1 := l_rem (b := b) ha
      have q1 : (a - a / b * b).toInt.natAbs = a.toInt.natAbs % b.toInt.natAbs := by rw [r1, Int.natAbs_tmod]
      have hbp : 0 < b.toInt.natAbs := by
        have hz : ¬ b.toInt = 0 := fun z => h (l_eq0.mpr z)
        omega
      have m1 := Nat.mod_lt a.toInt.natAbs hbp
      have eg : zg a b = zg b (a - a / b * b) := by rw [zg, zg, q1, gcd_step]
      refine w139 ⟨fun _ => ⟨h, ?_⟩, fun z => absurd (lg_0.mp z) h⟩
      rw [eg] at hK
      generalize hr : a - a / b * b = r at *
      by_cases h2 : r = 0
      · exact base d b r h2 (by omega) hb2 hK
      · obtain ⟨d, rfl⟩ : ∃ m, d = m + 1 := ⟨d - 1, by omega⟩
        have r2 := l_rem (b := r) hb2
        have q2 : (b - b / r * r).toInt.natAbs = b.toInt.natAbs % r.toInt.natAbs := by rw [r2, Int.natAbs_tmod]
        have hh : ¬ a.toInt.natAbs % b.toInt.natAbs = 0 := fun z => h2 (l_eq0.mpr (by omega))
        have m2 := mod_half hbp hh
        refine w139 ⟨fun _ => ⟨h2, ?_⟩, fun z => absurd (lg_0.mp z) h2⟩
        rw [show zg b r = zg r (b - b / r * r) by rw [zg, zg, q2, gcd_step]] at hK
        exact ih d r _ (by rw [q2, q1]; rw [Nat.pow_succ] at hb; omega) (by omega) (by rw [q2, q1]; omega) (by omega) hK
theorem zg_pos {u l : Int64} (hl : 0 < l.toInt) (hl2 : l.toInt < 2 ^ 48) : 0 < (zg u l).toInt := by
  have h1 : 0 < Nat.gcd u.toInt.natAbs l.toInt.natAbs := Nat.gcd_pos_of_pos_right _ (by omega)
  have h2 : Nat.gcd u.toInt.natAbs l.toInt.natAbs ≤ l.toInt.natAbs := Nat.gcd_le_right _ (by omega)
  rw [zg, zN_toInt (by omega)]
  omega
theorem zg_abs {u l : Int64} (h : u.toInt.natAbs < 2 ^ 62) : zg (zN u.toInt.natAbs) l = zg u l := by
  rw [zg, zg, zN_toInt (by omega)]
  rfl
section frac
variable {d B : Nat} {g : gr} {ts : List Nat} {rw : List Int64} {M0 M : Nat → Nat → Int32} {L0 ML : Nat → Nat → Int64} {R0 R : Nat → Nat → Option Nat}
theorem B_frac {K : wKv} (hd : 2 ≤ d) (h : BC g ts rw M0 L0 M ML) (h8 : rw.length + 2 ≤ 8) {u l : Int64} (hu : u.toInt.natAbs < 2 ^ 62) (hl : 0 < l.toInt) (hl2 : l.toInt < 2 ^ 48) (hK : ∀ M1 L1, BC g ts (rw ++ fW u l) M0 L0 M1 L1 → fr (fun a _ => a = 44) M M1 → fr (fun a _ => a = 45) ML L1 → K M1 L1 R) : wV d 17 [.ref 44, .long u, .long l] M ML R K := by
  obtain ⟨w1, w2, w3⟩ := h.2.2.1
  have hok : rw_ok (M, ML, R) := by
    unfold rw_ok
    dsimp only
    rw [w2]
    exact ⟨Int32.not_lt.mpr ((nI_leI (a := 0) (by decide) (by omega)).mpr (by omega)), (nI_leI (b := 8) (by omega) (by decide)).mpr (by omega)⟩
  have eg : rw_gl 100 (jd_labs u) l = zg u l := by
    rw [labs_z hu, c_gcd 48 100 _ _ (by omega) (by rw [zN_toInt (by omega)]; omega) (by omega) (by decide) (by rw [zN_toInt (by omega)]; omega) (by omega), zg_abs hu]
  have t := t_addFraction (M, ML, R) hok u l
  have hp := zg_pos (u := u) hl hl2
  have hp2 : (0 : Int64) < zg u l := Int64.lt_iff_toInt_lt.mpr hp
  rw [rw_fr, eg, if_pos (lg_lt.mpr hp2)] at t
  have n8 : ¬ 8 ≤ M 44 1 := by rw [w2]; exact fun z => absurd ((nI_leI (a := 8) (by decide) (by omega)).mp z) (by omega)
  have e1 : rw_add (M, ML, R) (u / zg u l) = (fm_u M 44 1 (M 44 1 + 1), fm_ul ML 45 (M 44 1).toNatClampNeg (u / zg u l), R) := by rw [rw_add, if_neg n8]
  rw [e1] at t
  have t1 : mj_big 1 16 [.ref 44, .long (u / zg u l)] (fm_mk (M, ML, R)) none (fm_mk (fm_u M 44 1 (M 44 1 + 1), fm_ul ML 45 (M 44 1).toNatClampNeg (u / zg u l), R)) := by
    have := t_radd (M, ML, R) hok (u / zg u l)
    rw [e1] at this
    exact this
  have s1 : BC g ts (rw ++ [u / zg u l]) M0 L0 (fm_u M 44 1 (M 44 1 + 1)) (fm_ul ML 45 (M 44 1).toNatClampNeg (u / zg u l)) ∧ fr (fun a _ => a = 44) M (fm_u M 44 1 (M 44 1 + 1)) ∧ fr (fun a _ => a = 45) ML (fm_ul ML 45 (M 44 1).toNatClampNeg (u / zg u l)) := by
    have hw : IW (fm_u M 44 1 (M 44 1 + 1)) (fm_ul ML 45 (M 44 1).toNatClampNeg (u / zg u l)) (rw ++ [u / zg u l]) := by
      refine ⟨by simp; omega, by rw [fm_u_at, w2, nI_1]; simp, fun k hk => ?_⟩
      simp at hk
      rw [w2, nI_clamp (by omega)]
      by_cases e : k = rw.length
      · subst e
        simp [fm_ul, vp_updL, List.getD_eq_getElem?_getD]
      · have hk2 : k < rw.length := by omega
        have e1 : fm_ul ML 45 rw.length (u / zg u l) 45 k = ML 45 k := by simp [fm_ul, vp_updL, e]
        rw [e1, w3 k hk2, List.getD_eq_getElem?_getD, List.getD_eq_getElem?_getD, List.getElem?_append_left hk2]
    have f1 : fr (fun a _ => a = 44) M (fm_u M 44 1 (M 44 1 + 1)) := fr_u rfl
    have f2 : fr (fun a _ => a = 45) ML (fm_ul ML 45 (M 44 1).toNatClampNeg (u / zg u l)) := fun a i z => by
      have z : ¬ a = 45 := z
      simp [fm_ul, z]
    obtain ⟨h1, h2, h3, h4, h5⟩ := h
    exact ⟨⟨cr_fr h1 (fun a i y1 y2 y3 => f1 a i (by omega)), tr_fr h2 (fun a i y => f1 a i (by omega)), hw, h4.tr (f1.mono (fun a i z => by omega)), h5.tr (f2.mono (fun a i z => by omega))⟩, f1, f2⟩
  obtain ⟨b1, f1, f2⟩ := s1
  generalize fm_u M 44 1 (M 44 1 + 1) = M1 at *
  generalize fm_ul ML 45 (M 44 1).toNatClampNeg (u / zg u l) = L1 at *
  obtain ⟨v1, v2, v3⟩ := b1.2.2.1
  have e2 : rw_add (M1, L1, R) (l / zg u l) = (fm_u M1 44 1 (M1 44 1 + 1), fm_ul L1 45 (M1 44 1).toNatClampNeg (l / zg u l), R) := by
    rw [rw_add, if_neg]
    dsimp only
    rw [v2]
    exact fun z => absurd ((nI_leI (a := 8) (by decide) (by simp; omega)).mp z) (by simp; omega)
  rw [e2] at t
  have hw : IW (fm_u M1 44 1 (M1 44 1 + 1)) (fm_ul L1 45 (M1 44 1).toNatClampNeg (l / zg u l)) ((rw ++ [u / zg u l]) ++ [l / zg u l]) := by
    have hlen : (rw ++ [u / zg u l]).length = rw.length + 1 := by simp
    generalize rw ++ [u / zg u l] = rv at *
    refine ⟨by simp; omega, by rw [fm_u_at, v2, nI_1]; simp, fun k hk => ?_⟩
    simp at hk
    rw [v2, nI_clamp (by omega)]
    by_cases e : k = rv.length
    · subst e
      simp [fm_ul, vp_updL, List.getD_eq_getElem?_getD]
    · have hk2 : k < rv.length := by omega
      have e1 : fm_ul L1 45 rv.length (l / zg u l) 45 k = L1 45 k := by simp [fm_ul, vp_updL, e]
      rw [e1, v3 k hk2, List.getD_eq_getElem?_getD, List.getD_eq_getElem?_getD, List.getElem?_append_left hk2]
  have g1 : fr (fun a _ => a = 44) M1 (fm_u M1 44 1 (M1 44 1 + 1)) := fr_u rfl
  have g2 : fr (fun a _ => a = 45) L1 (fm_ul L1 45 (M1 44 1).toNatClampNeg (l / zg u l)) := fun a i z => by
    have z : ¬ a = 45 := z
    simp [fm_ul, z]
  rw [List.append_assoc] at hw
  obtain ⟨h1, h2, h3, h4, h5⟩ := b1
  exact wV_of t hd (hK _ _ ⟨cr_fr h1 (fun a i y1 y2 y3 => g1 a i (by omega)), tr_fr h2 (fun a i y => g1 a i (by omega)), hw, h4.tr (g1.mono (fun a i z => by omega)), h5.tr (g2.mono (fun a i z => by omega))⟩ (f1.tr g1) (f2.tr g2))
theorem B_tellPart {K : wKv} (hd : 100 ≤ d) (h : BR g ts rw M0 L0 R0 M ML R) (h8 : rw.length + 2 ≤ 16) {u l : Int64} (hu : u.toInt.natAbs < 2 ^ 62) (hl : 0 < l.toInt) (hl2 : l.toInt < 2 ^ 48) (hK : ∀ M1 L1, BR g ts (rw ++ fW u l) M0 L0 R0 M1 L1 R → fr (fun a i => a = 219 ∧ i = 4) M M1 → fr (fun a _ => a = 222) ML L1 → K M1 L1 R) : wV d 140 [.ref 219, .long u, .long l] M ML R K := by
  obtain ⟨d, rfl⟩ : ∃ m, d = m + 1 := ⟨d - 1, by omega⟩
  have hp := zg_pos (u := u) hl hl2
  have hne : ¬ zg u l = 0 := fun z => by rw [l_eq0.mp z] at hp; omega
  refine w140 (R_common 48 d u l (by omega) hu (by omega) (by omega) ⟨hne, ?_⟩)
  refine B_tell (by omega) h (by omega) _ (fun M1 L1 h1 f1 f2 => ⟨hne, ?_⟩)
  refine B_tell (by omega) h1 (by simp; omega) _ (fun M2 L2 h2 g1 g2 => ?_)
  rw [List.append_assoc] at h2
  exact hK M2 L2 h2 (f1.tr g1) (f2.tr g2)
end frac
