theorem fm_u_self {M : Nat → Nat → Int32} {a i : Nat} {x : Int32} (h : M a i = x) : fm_u M a i x = M := by
  funext c
  by_cases hc : c = a
  · subst hc
    funext j
    by_cases hj : j = i
    · subst hj; rw [fm_u_at, h]
    · rw [fm_u_ix hj]
  · rw [fm_u_off hc]
def dg (c : Int32) : Int32 := if c < 48 then -1 else if 57 < c then -1 else c - 48
def rn_a (f : Nat → Int32) (bd p : Nat) : Int32 := if p < bd then dg (f p) else -1
/-- a number from p on: the number, and where it ends -/
def rn (f : Nat → Int32) (bd p : Nat) : Int32 × Nat := if 1 ≤ rn_a f bd p then (if ¬ rn_a f bd (p + 1) = -1 then (10 * rn_a f bd p + rn_a f bd (p + 1), p + 2) else (rn_a f bd p, p + 1)) else (0, p)
theorem dg_bd (c : Int32) : dg c = -1 ∨ (0 ≤ (dg c).toInt ∧ (dg c).toInt ≤ 9) := by
  unfold dg
  split
  · exact Or.inl rfl
  · next h1 =>
    split
    · exact Or.inl rfl
    · next h2 =>
      right
      rw [Int32.lt_iff_toInt_lt] at h1 h2
      have e1 : (48 : Int32).toInt = 48 := rfl
      have e2 : (57 : Int32).toInt = 57 := rfl
      rw [Kit.i32_sub (by omega) (by omega)]
      omega
theorem rn_a_bd (f : Nat → Int32) (bd p : Nat) : rn_a f bd p = -1 ∨ (0 ≤ (rn_a f bd p).toInt ∧ (rn_a f bd p).toInt ≤ 9) := by
  unfold rn_a
  split
  · exact dg_bd _
  · exact Or.inl rfl
theorem rn_bd (f : Nat → Int32) (bd p : Nat) : 0 ≤ (rn f bd p).1.toInt ∧ (rn f bd p).1.toInt ≤ 99 := by
  have e1 : (1 : Int32).toInt = 1 := rfl
  have e0 : (0 : Int32).toInt = 0 := rfl
  have e10 : (10 : Int32).toInt = 10 := rfl
  unfold rn
  split
  · next h1 =>
    rw [Int32.le_iff_toInt_le, e1] at h1
    have a1 := rn_a_bd f bd p
    have a2 := rn_a_bd f bd (p + 1)
    have b1 : 0 ≤ (rn_a f bd p).toInt ∧ (rn_a f bd p).toInt ≤ 9 := a1.resolve_left (fun q => by rw [q] at h1; exact absurd h1 (by decide))
    split
    · next h2 =>
      have b2 := a2.resolve_left h2
      have m1 : (10 * rn_a f bd p).toInt = 10 * (rn_a f bd p).toInt := by rw [Kit.i32_mul (by rw [e10]; omega) (by rw [e10]; omega), e10]
      dsimp only
      rw [Kit.i32_add (by omega) (by omega), m1]
      omega
    · dsimp only
      omega
  · dsimp only
    omega
theorem rn_ge (f : Nat → Int32) (bd p : Nat) (hp : p ≤ bd) : p ≤ (rn f bd p).2 ∧ (rn f bd p).2 ≤ bd := by
  unfold rn
  split
  · next h1 =>
    have h3 : p < bd := by
      rcases Nat.lt_or_ge p bd with q | q
      · exact q
      · rw [rn_a, if_neg (by omega)] at h1; exact absurd h1 (by decide)
    split
    · next h2 =>
      have h4 : p + 1 < bd := by
        rcases Nat.lt_or_ge (p + 1) bd with q | q
        · exact q
        · rw [rn_a, if_neg (by omega)] at h2; exact absurd rfl h2
      dsimp only
      omega
    · dsimp only
      omega
  · dsimp only
    omega
theorem sc_dig_nI {M : Nat → Nat → Int32} {n p : Nat} (hs : M 38 1 = nI n) (hn : n ≤ 80) (hp : p < n) : sc_dig M (nI p) = dg (M 39 p) := by
  have h : sc_sign M (nI p) = M 39 p := by
    rw [sc_sign, if_neg (nI_pos (by omega)), hs, if_neg (nI_ge (by omega) (by omega)), nI_clamp (by omega)]
  rw [sc_dig, h, dg]
set_option maxRecDepth 20000 in
theorem t_readNumber (M : Nat → Nat → Int32) (ML : Nat → Nat → Int64) (R : Nat → Nat → Option Nat) (n p bd : Nat) (hn : n ≤ 80) (hs : M 38 1 = nI n) (hp : M 38 2 = nI p) (hb : M 38 3 = nI bd) (hbd : bd ≤ n) (hpb : p ≤ bd) : mj_big 3 27 [.ref 38] (fm_mk (M, ML, R)) (some (.int (rn (M 39) bd p).1)) (fm_mk (fm_u M 38 2 (nI (rn (M 39) bd p).2), ML, R)) := by
  refine mj_ofB _ _ rfl rfl rfl ?_
  have kd := fun M' hs' q => t_digitAt (M', ML, R) ⟨n, hn, hs'⟩ q
  refine mj_auto3 [] 50 rfl ?_
  refine fn_gI fm_s38 rfl rfl rfl ?_
  refine mj_auto3 [] 50 rfl ?_
  refine fn_gI fm_s38 rfl rfl rfl ?_
  rw [hp, hb]
  -- the first sign
  have part2 : mj_Rn 2 (some .int) kX5_readNumber (fun v g => v = some (.int (rn (M 39) bd p).1) ∧ g = fm_mk (fm_u M 38 2 (nI (rn (M 39) bd p).2), ML, R)) (fm_mk (M, ML, R)) 23 [some (.ref 38), none, none] [.int (rn_a (M 39) bd p)] := by
    refine mj_auto3 [] 50 rfl ?_
    refine mj_if rfl rfl (fun c1 => ?_) (fun c1 => ?_)
    · have h3 : p < bd := by
        rcases Nat.lt_or_ge p bd with q | q
        · exact q
        · rw [rn_a, if_neg (by omega)] at c1; exact absurd c1 (by decide)
      refine mj_auto3 [] 50 rfl ?_
      refine fn_gI fm_s38 rfl rfl rfl ?_
      rw [hp]
      refine mj_auto3 [] 50 rfl ?_
      rw [nI_1]
      refine fn_pI fm_s38 rfl rfl rfl rfl ?_
      refine mj_auto3 [] 50 rfl ?_
      refine fn_gI fm_s38 rfl rfl rfl ?_
      refine mj_auto3 [] 50 rfl ?_
      refine fn_gI fm_s38 rfl rfl rfl ?_
      rw [fm_u_at, fm_u_ix (show ¬ 3 = 2 by decide), hb]
      have part3 : mj_Rn 2 (some .int) kX5_readNumber (fun v g => v = some (.int (rn (M 39) bd p).1) ∧ g = fm_mk (fm_u M 38 2 (nI (rn (M 39) bd p).2), ML, R)) (fm_mk (fm_u M 38 2 (nI (p + 1)), ML, R)) 64 [some (.ref 38), some (.int (rn_a (M 39) bd p)), none] [.int (rn_a (M 39) bd (p + 1))] := by
        refine mj_auto3 [] 50 rfl ?_
        refine mj_if rfl rfl (fun c2 => ?_) (fun c2 => ?_)
        · rw [rn, if_pos c1, if_pos c2]
          refine mj_auto3 [] 50 rfl ?_
          refine fn_gI fm_s38 rfl rfl rfl ?_
          rw [fm_u_at]
          refine mj_auto3 [] 50 rfl ?_
          rw [nI_1]
          refine fn_pI fm_s38 rfl rfl rfl rfl ?_
          rw [fm_u_u]
          refine mj_auto3 [] 50 rfl ?_
          exact mj_rt rfl rfl rfl ⟨rfl, rfl⟩
        · rw [rn, if_pos c1, if_neg c2]
          refine mj_auto3 [] 50 rfl ?_
          exact mj_rt rfl rfl rfl ⟨rfl, rfl⟩
      refine mj_if rfl rfl (fun c3 => ?_) (fun c3 => ?_)
      · have h4 : ¬ p + 1 < bd := fun q => nI_ge q (by omega) c3
        have e : rn_a (M 39) bd (p + 1) = -1 := by rw [rn_a, if_neg h4]
        rw [e] at part3
        exact mj_step rfl rfl part3
      · refine mj_auto3 [] 50 rfl ?_
        refine fn_gI fm_s38 rfl rfl rfl ?_
        rw [fm_u_at]
        have h4 : p + 1 < bd := by
          rcases Nat.lt_or_ge (p + 1) bd with q | q
          · exact q
          · exact absurd (nI_le q (by omega)) c3
        have kd := kd (fm_u M 38 2 (nI (p + 1))) (by dsimp only; rw [fm_u_ix (by decide)]; exact hs) (nI (p + 1))
        dsimp only at kd
        rw [sc_dig_nI (n := n) (by rw [fm_u_ix (by decide)]; exact hs) hn (by omega), fm_u_off (by decide)] at kd
        refine mj_cvB kd (fm_o fm_s38) rfl rfl rfl rfl rfl ⟨rfl, rfl⟩ rfl ?_
        have e : rn_a (M 39) bd (p + 1) = dg (M 39 (p + 1)) := by rw [rn_a, if_pos h4]
        rw [e] at part3
        exact mj_step rfl rfl part3
    · rw [rn, if_neg c1]
      refine mj_auto3 [] 50 rfl ?_
      refine mj_rt rfl rfl rfl ⟨rfl, ?_⟩
      rw [fm_u_self hp]
  refine mj_if rfl rfl (fun c1 => ?_) (fun c1 => ?_)
  · have h4 : ¬ p < bd := fun q => nI_ge q (by omega) c1
    have e : rn_a (M 39) bd p = -1 := by rw [rn_a, if_neg h4]
    rw [e] at part2
    exact mj_step rfl rfl part2
  · refine mj_auto3 [] 50 rfl ?_
    refine fn_gI fm_s38 rfl rfl rfl ?_
    rw [hp]
    have h4 : p < bd := by
      rcases Nat.lt_or_ge p bd with q | q
      · exact q
      · exact absurd (nI_le q (by omega)) c1
    have kd := kd M hs (nI p)
    dsimp only at kd
    rw [sc_dig_nI hs hn (by omega)] at kd
    refine mj_cvB kd (fm_o fm_s38) rfl rfl rfl rfl rfl ⟨rfl, rfl⟩ rfl ?_
    have e : rn_a (M 39) bd p = dg (M 39 p) := by rw [rn_a, if_pos h4]
    rw [e] at part2
    exact mj_step rfl rfl part2
