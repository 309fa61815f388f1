/-- the TEXT's size is right -/
def sc_ok (M : Nat → Nat → Int32) : Prop := ∃ n, n ≤ 80 ∧ M 38 1 = nI n
set_option maxRecDepth 20000 in
theorem t_sclear (S : fm_S) : mj_big 1 21 [.ref 38] (fm_mk S) none (fm_mk (fm_u S.1 38 1 0, S.2)) := by
  refine mj_ofB _ _ rfl rfl rfl ?_
  repeat' first
    | refine mj_auto1 [] 80 rfl ?_
    | refine mj_if rfl rfl (fun c1 => ?_) (fun c1 => ?_)
    | refine fm_gR (by first | with_reducible assumption | with_reducible exact fm_s38) rfl rfl rfl ?_
    | refine fm_gI (by first | with_reducible assumption | with_reducible exact fm_s38) rfl rfl rfl ?_
    | refine fm_ld (by first | with_reducible assumption | with_reducible exact fm_s38) rfl (by with_reducible assumption) ?_
    | refine fm_st (by first | with_reducible assumption | with_reducible exact fm_s38) rfl (by with_reducible assumption) ?_
    | refine fm_pI (by first | with_reducible assumption | with_reducible exact fm_s38) rfl rfl rfl rfl ?_
    | refine mj_rt rfl rfl rfl ⟨?_, by with_reducible rfl⟩
    | refine mj_rt rfl rfl rfl ⟨?_, ?_⟩
    | refine mj_rtl rfl rfl ⟨?_, by with_reducible rfl⟩
    | refine mj_rtl rfl rfl ⟨?_, ?_⟩
    | refine mj_rtv rfl rfl ⟨rfl, by with_reducible rfl⟩
    | refine mj_rtv rfl rfl ⟨rfl, ?_⟩
def sc_cutA (M : Nat → Nat → Int32) (n : Int32) : Int32 := if n < 0 then 0 else if n ≤ M 38 1 then 1 else 0
def sc_cutM (M : Nat → Nat → Int32) (n : Int32) : Nat → Nat → Int32 := if n < 0 then M else if n ≤ M 38 1 then fm_u M 38 1 n else M
set_option maxRecDepth 20000 in
theorem t_cutTo (S : fm_S) (n : Int32) : mj_big 1 20 [.ref 38, .int n] (fm_mk S) (some (.int (sc_cutA S.1 n))) (fm_mk (sc_cutM S.1 n, S.2)) := by
  refine mj_ofB _ _ rfl rfl rfl ?_
  repeat' first
    | refine mj_auto2 [] 80 rfl ?_
    | refine mj_if rfl rfl (fun c1 => ?_) (fun c1 => ?_)
    | refine fm_gR (by first | with_reducible assumption | with_reducible exact fm_s38) rfl rfl rfl ?_
    | refine fm_gI (by first | with_reducible assumption | with_reducible exact fm_s38) rfl rfl rfl ?_
    | refine fm_ld (by first | with_reducible assumption | with_reducible exact fm_s38) rfl (by with_reducible assumption) ?_
    | refine fm_st (by first | with_reducible assumption | with_reducible exact fm_s38) rfl (by with_reducible assumption) ?_
    | refine fm_pI (by first | with_reducible assumption | with_reducible exact fm_s38) rfl rfl rfl rfl ?_
    | refine mj_rt rfl rfl rfl ⟨?_, by with_reducible rfl⟩
    | refine mj_rt rfl rfl rfl ⟨?_, ?_⟩
    | refine mj_rtl rfl rfl ⟨?_, by with_reducible rfl⟩
    | refine mj_rtl rfl rfl ⟨?_, ?_⟩
    | refine mj_rtv rfl rfl ⟨rfl, by with_reducible rfl⟩
    | refine mj_rtv rfl rfl ⟨rfl, ?_⟩
  all_goals simp [sc_cutA, sc_cutM, *]
theorem in_sz {M : Nat → Nat → Int32} (h : sc_ok M) {p : Int32} (h0 : ¬ p < 0) (h1 : ¬ M 38 1 ≤ p) : vp_in p 80 := by
  obtain ⟨n, hn, he⟩ := h
  rw [he] at h1
  rw [Int32.lt_iff_toInt_lt] at h0
  rw [Int32.le_iff_toInt_le, nI_toInt (by omega)] at h1
  have h3 : (0 : Int32).toInt = 0 := rfl
  exact in_of (by omega) (by omega)
def sc_sign (M : Nat → Nat → Int32) (p : Int32) : Int32 := if p < 0 then -1 else if M 38 1 ≤ p then -1 else M 39 p.toNatClampNeg
set_option maxRecDepth 20000 in
theorem t_signAt (S : fm_S) (hs : sc_ok S.1) (p : Int32) : mj_big 1 22 [.ref 38, .int p] (fm_mk S) (some (.int (sc_sign S.1 p))) (fm_mk S) := by
  refine mj_ofB _ _ rfl rfl rfl ?_
  repeat' first
    | refine mj_auto2 [] 80 rfl ?_
    | refine mj_if rfl rfl (fun c1 => ?_) (fun c1 => ?_)
    | refine fm_gR (by first | with_reducible assumption | with_reducible exact fm_s38 | with_reducible exact fm_s39) rfl rfl rfl ?_
    | refine fm_gI (by first | with_reducible assumption | with_reducible exact fm_s38 | with_reducible exact fm_s39) rfl rfl rfl ?_
    | refine fm_ld (by first | with_reducible assumption | with_reducible exact fm_s38 | with_reducible exact fm_s39) rfl (in_sz hs (by assumption) (by assumption)) ?_
    | refine fm_st (by first | with_reducible assumption | with_reducible exact fm_s38 | with_reducible exact fm_s39) rfl (in_sz hs (by assumption) (by assumption)) ?_
    | refine fm_pI (by first | with_reducible assumption | with_reducible exact fm_s38 | with_reducible exact fm_s39) rfl rfl rfl rfl ?_
    | refine fm_ldc (by first | with_reducible assumption | with_reducible exact fm_s38 | with_reducible exact fm_s39) rfl (in_sz hs (by assumption) (by assumption)) ?_
    | refine fm_stc (by first | with_reducible assumption | with_reducible exact fm_s38 | with_reducible exact fm_s39) rfl (in_sz hs (by assumption) (by assumption)) ?_
    | refine mj_rt rfl rfl rfl ⟨?_, by with_reducible rfl⟩
    | refine mj_rt rfl rfl rfl ⟨?_, ?_⟩
    | refine mj_rtl rfl rfl ⟨?_, by with_reducible rfl⟩
    | refine mj_rtl rfl rfl ⟨?_, ?_⟩
    | refine mj_rtv rfl rfl ⟨rfl, by with_reducible rfl⟩
    | refine mj_rtv rfl rfl ⟨rfl, ?_⟩
  all_goals simp [sc_sign, *]
def sc_dig (M : Nat → Nat → Int32) (p : Int32) : Int32 := if sc_sign M p < 48 then -1 else if 57 < sc_sign M p then -1 else sc_sign M p - 48
set_option maxRecDepth 20000 in
theorem t_digitAt (S : fm_S) (hs : sc_ok S.1) (p : Int32) : mj_big 2 23 [.ref 38, .int p] (fm_mk S) (some (.int (sc_dig S.1 p))) (fm_mk S) := by
  have k1 := t_signAt S hs p
  refine mj_ofB _ _ rfl rfl rfl ?_
  repeat' first
    | refine mj_auto3 [] 80 rfl ?_
    | refine mj_if rfl rfl (fun c1 => ?_) (fun c1 => ?_)
    | refine fm_gR (by first | with_reducible assumption | with_reducible exact fm_s38) rfl rfl rfl ?_
    | refine fm_gI (by first | with_reducible assumption | with_reducible exact fm_s38) rfl rfl rfl ?_
    | refine fm_ld (by first | with_reducible assumption | with_reducible exact fm_s38) rfl (by with_reducible assumption) ?_
    | refine fm_st (by first | with_reducible assumption | with_reducible exact fm_s38) rfl (by with_reducible assumption) ?_
    | refine fm_pI (by first | with_reducible assumption | with_reducible exact fm_s38) rfl rfl rfl rfl ?_
    | refine mj_cvB (k1 ..) (fm_o (by first | with_reducible assumption | with_reducible exact fm_s38)) rfl rfl rfl rfl rfl ⟨rfl, rfl⟩ rfl ?_
    | refine mj_rt rfl rfl rfl ⟨?_, by with_reducible rfl⟩
    | refine mj_rt rfl rfl rfl ⟨?_, ?_⟩
    | refine mj_rtl rfl rfl ⟨?_, by with_reducible rfl⟩
    | refine mj_rtl rfl rfl ⟨?_, ?_⟩
    | refine mj_rtv rfl rfl ⟨rfl, by with_reducible rfl⟩
    | refine mj_rtv rfl rfl ⟨rfl, ?_⟩
  all_goals simp [sc_dig, *]
def sc_act (M : Nat → Nat → Int32) (p : Int32) : Int32 := if sc_sign M p = 42 then 1 else if sc_sign M p = 104 then 2 else if sc_sign M p = 108 then 2 else if sc_sign M p = 110 then 3 else if sc_sign M p = 112 then 2 else 0
set_option maxRecDepth 20000 in
theorem t_actLength (S : fm_S) (hs : sc_ok S.1) (p : Int32) : mj_big 2 28 [.ref 38, .int p] (fm_mk S) (some (.int (sc_act S.1 p))) (fm_mk S) := by
  have k1 := t_signAt S hs p
  refine mj_ofB _ _ rfl rfl rfl ?_
  refine mj_auto2 [] 80 rfl ?_
  refine mj_cvB k1 (fm_o fm_s38) rfl rfl rfl rfl rfl ⟨rfl, rfl⟩ rfl ?_
  rw [sc_act]
  generalize sc_sign S.1 p = c
  by_cases e1 : c = 42
  · subst e1
    refine mj_swi 56 rfl rfl (by decide +kernel) ?_
    repeat' first
      | refine mj_auto2 [] 80 rfl ?_
      | refine mj_if rfl rfl (fun c1 => ?_) (fun c1 => ?_)
      | refine mj_rt rfl rfl rfl ⟨?_, by with_reducible rfl⟩
      | refine mj_rt rfl rfl rfl ⟨?_, ?_⟩
      | refine mj_rtl rfl rfl ⟨?_, by with_reducible rfl⟩
      | refine mj_rtl rfl rfl ⟨?_, ?_⟩
      | refine mj_rtv rfl rfl ⟨rfl, by with_reducible rfl⟩
      | refine mj_rtv rfl rfl ⟨rfl, ?_⟩
    all_goals simp
  by_cases e2 : c = 104
  · subst e2
    refine mj_swi 60 rfl rfl (by decide +kernel) ?_
    repeat' first
      | refine mj_auto2 [] 80 rfl ?_
      | refine mj_if rfl rfl (fun c1 => ?_) (fun c1 => ?_)
      | refine mj_rt rfl rfl rfl ⟨?_, by with_reducible rfl⟩
      | refine mj_rt rfl rfl rfl ⟨?_, ?_⟩
      | refine mj_rtl rfl rfl ⟨?_, by with_reducible rfl⟩
      | refine mj_rtl rfl rfl ⟨?_, ?_⟩
      | refine mj_rtv rfl rfl ⟨rfl, by with_reducible rfl⟩
      | refine mj_rtv rfl rfl ⟨rfl, ?_⟩
    all_goals simp
  by_cases e3 : c = 108
  · subst e3
    refine mj_swi 60 rfl rfl (by decide +kernel) ?_
    repeat' first
      | refine mj_auto2 [] 80 rfl ?_
      | refine mj_if rfl rfl (fun c1 => ?_) (fun c1 => ?_)
      | refine mj_rt rfl rfl rfl ⟨?_, by with_reducible rfl⟩
      | refine mj_rt rfl rfl rfl ⟨?_, ?_⟩
      | refine mj_rtl rfl rfl ⟨?_, by with_reducible rfl⟩
      | refine mj_rtl rfl rfl ⟨?_, ?_⟩
      | refine mj_rtv rfl rfl ⟨rfl, by with_reducible rfl⟩
      | refine mj_rtv rfl rfl ⟨rfl, ?_⟩
    all_goals simp
  by_cases e4 : c = 110
  · subst e4
    refine mj_swi 58 rfl rfl (by decide +kernel) ?_
    repeat' first
      | refine mj_auto2 [] 80 rfl ?_
      | refine mj_if rfl rfl (fun c1 => ?_) (fun c1 => ?_)
      | refine mj_rt rfl rfl rfl ⟨?_, by with_reducible rfl⟩
      | refine mj_rt rfl rfl rfl ⟨?_, ?_⟩
      | refine mj_rtl rfl rfl ⟨?_, by with_reducible rfl⟩
      | refine mj_rtl rfl rfl ⟨?_, ?_⟩
      | refine mj_rtv rfl rfl ⟨rfl, by with_reducible rfl⟩
      | refine mj_rtv rfl rfl ⟨rfl, ?_⟩
    all_goals simp
  by_cases e5 : c = 112
  · subst e5
    refine mj_swi 60 rfl rfl (by decide +kernel) ?_
    repeat' first
      | refine mj_auto2 [] 80 rfl ?_
      | refine mj_if rfl rfl (fun c1 => ?_) (fun c1 => ?_)
      | refine mj_rt rfl rfl rfl ⟨?_, by with_reducible rfl⟩
      | refine mj_rt rfl rfl rfl ⟨?_, ?_⟩
      | refine mj_rtl rfl rfl ⟨?_, by with_reducible rfl⟩
      | refine mj_rtl rfl rfl ⟨?_, ?_⟩
      | refine mj_rtv rfl rfl ⟨rfl, by with_reducible rfl⟩
      | refine mj_rtv rfl rfl ⟨rfl, ?_⟩
    all_goals simp
  refine mj_swi 62 rfl rfl (by show (5 : Int) + Op.lookupswitch.offset [(42, 51), (104, 55), (108, 55), (110, 53), (112, 55)] 57 c.toInt = 62; rw [lv_osw (a := 42) e1 rfl, lv_osw (a := 104) e2 rfl, lv_osw (a := 108) e3 rfl, lv_osw (a := 110) e4 rfl, lv_osw (a := 112) e5 rfl]; rfl) ?_
  repeat' first
    | refine mj_auto2 [] 80 rfl ?_
    | refine mj_if rfl rfl (fun c1 => ?_) (fun c1 => ?_)
    | refine mj_rt rfl rfl rfl ⟨?_, by with_reducible rfl⟩
    | refine mj_rt rfl rfl rfl ⟨?_, ?_⟩
    | refine mj_rtl rfl rfl ⟨?_, by with_reducible rfl⟩
    | refine mj_rtl rfl rfl ⟨?_, ?_⟩
    | refine mj_rtv rfl rfl ⟨rfl, by with_reducible rfl⟩
    | refine mj_rtv rfl rfl ⟨rfl, ?_⟩
  all_goals simp [*]
/-- four signs of v from n on -/
def sc_app (f : Nat → Int32) (n : Nat) (v : Int32) : Nat → Nat → Int32
  | 0 => f
  | k + 1 => upd (sc_app f n v k) (n + k) (vp_nar .char ((mj_ushr v (24 - 8 * nI k) &&& 255).toUInt32 % 65536).toInt32)
def sc_apA (M : Nat → Nat → Int32) : Int32 := if M 38 1 + 4 ≤ 80 then M 38 1 + 4 else -1
def sc_apM (M : Nat → Nat → Int32) (v : Int32) : Nat → Nat → Int32 := if M 38 1 + 4 ≤ 80 then fm_u (fm_row M 39 (sc_app (M 39) (M 38 1).toNatClampNeg v 4)) 38 1 (M 38 1 + 4) else M
set_option maxRecDepth 20000 in
theorem t_append (S : fm_S) (hs : sc_ok S.1) (v : Int32) : mj_big 1 19 [.ref 38, .int v] (fm_mk S) (some (.int (sc_apA S.1))) (fm_mk (sc_apM S.1 v, S.2)) := by
  obtain ⟨M, ML, R⟩ := S
  obtain ⟨n, hn, he⟩ := hs
  dsimp only at he ⊢
  refine mj_ofB _ _ rfl rfl rfl ?_
  refine mj_auto3 [15] 50 rfl ?_
  refine fn_gI fm_s38 rfl rfl rfl ?_
  refine mj_auto3 [15] 50 rfl ?_
  rw [sc_apA, sc_apM]
  refine mj_if rfl rfl (fun c1 => ?_) (fun c1 => ?_)
  · rw [if_pos c1, if_pos c1, he, nI_clamp (by omega)]
    have hn4 : n + 4 ≤ 80 := by
      rw [he, Int32.le_iff_toInt_le, show (4 : Int32) = nI 4 from rfl, nI_add, nI_toInt (by omega)] at c1
      have : (80 : Int32).toInt = 80 := rfl
      omega
    have lp : ∀ (m k : Nat), k + m = 4 → mj_Rn 0 (some .int) kX5_append (fun v' g => v' = some (.int (nI n + 4)) ∧ g = fm_mk (fm_u (fm_row M 39 (sc_app (M 39) n v 4)) 38 1 (nI n + 4), ML, R)) (fm_mk (fm_row M 39 (sc_app (M 39) n v k), ML, R)) 15 [some (.ref 38), some (.int v), some (.int (nI k))] [] := by
      intro m
      induction m with
      | zero =>
        intro k hk
        obtain rfl : k = 4 := by omega
        refine mj_begin3 [15] 50 rfl ?_
        refine mj_if rfl rfl (fun c1 => ?_) (fun c1 => absurd (by decide) c1)
        repeat' first
          | refine mj_auto3 [15] 80 rfl ?_
          | refine mj_if rfl rfl (fun c1 => ?_) (fun c1 => ?_)
          | refine fn_gR (by first | with_reducible assumption | with_reducible exact fm_s38) rfl rfl rfl ?_
          | refine fn_gI (by first | with_reducible assumption | with_reducible exact fm_s38) rfl rfl rfl ?_
          | refine fn_ld (by first | with_reducible assumption | with_reducible exact fm_s38) rfl (by with_reducible assumption) ?_
          | refine fn_st (by first | with_reducible assumption | with_reducible exact fm_s38) rfl (by with_reducible assumption) ?_
          | refine fn_pI (by first | with_reducible assumption | with_reducible exact fm_s38) rfl rfl rfl rfl ?_
          | refine mj_rt rfl rfl rfl ⟨?_, by with_reducible rfl⟩
          | refine mj_rt rfl rfl rfl ⟨?_, ?_⟩
          | refine mj_rtl rfl rfl ⟨?_, by with_reducible rfl⟩
          | refine mj_rtl rfl rfl ⟨?_, ?_⟩
          | refine mj_rtv rfl rfl ⟨rfl, by with_reducible rfl⟩
          | refine mj_rtv rfl rfl ⟨rfl, ?_⟩
        all_goals (simp only [fm_row_off (show ¬ 38 = 39 by decide), fm_u_at, he])
      | succ m ih =>
        intro k hk
        have e1 : ¬ (4 : Int32) ≤ nI k := nI_ge (b := 4) (by omega) (by omega)
        have ih := ih (k + 1) (by omega)
        rw [← nI_1] at ih
        refine mj_begin3 [15] 50 rfl ?_
        refine mj_if rfl rfl (fun c1 => absurd c1 e1) (fun c1 => ?_)
        refine mj_auto3 [15] 50 rfl ?_
        refine fn_gR fm_s38 rfl rfl rfl ?_
        refine mj_auto3 [15] 50 rfl ?_
        refine fn_gI fm_s38 rfl rfl rfl ?_
        rw [fm_row_off (show ¬ 38 = 39 by decide), he]
        refine mj_auto3 [15] 50 rfl ?_
        rw [nI_add]
        refine fn_stc fm_s39 rfl (in_nI (by omega) (by omega)) ?_
        refine mj_auto3 [15] 50 rfl ?_
        rw [nI_clamp (by omega), fm_row_u]
        exact ih
    have q := lp 4 0 rfl
    rw [sc_app, fm_row_self] at q
    refine mj_auto3 [15] 50 rfl ?_
    exact q
  · rw [if_neg c1, if_neg c1]
    refine mj_auto3 [15] 50 rfl ?_
    exact mj_rt rfl rfl rfl ⟨rfl, rfl⟩
