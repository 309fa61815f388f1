set_option maxRecDepth 20000 in
theorem t_siclear (S : fm_S) : mj_big 1 31 [.ref 49] (fm_mk S) (some (.int (S.1 49 3))) (fm_mk (fm_u S.1 49 3 0, S.2)) := by
  refine mj_ofB _ _ rfl rfl rfl ?_
  repeat' first
    | refine mj_auto2 [] 80 rfl ?_
    | refine mj_if rfl rfl (fun c1 => ?_) (fun c1 => ?_)
    | refine fm_gR (by first | with_reducible assumption | with_reducible exact fm_s49) rfl rfl rfl ?_
    | refine fm_gI (by first | with_reducible assumption | with_reducible exact fm_s49) rfl rfl rfl ?_
    | refine fm_ld (by first | with_reducible assumption | with_reducible exact fm_s49) rfl (by with_reducible assumption) ?_
    | refine fm_st (by first | with_reducible assumption | with_reducible exact fm_s49) rfl (by with_reducible assumption) ?_
    | refine fm_pI (by first | with_reducible assumption | with_reducible exact fm_s49) rfl rfl rfl rfl ?_
    | refine mj_rt rfl rfl rfl ⟨?_, by with_reducible rfl⟩
    | refine mj_rt rfl rfl rfl ⟨?_, ?_⟩
    | refine mj_rtl rfl rfl ⟨?_, by with_reducible rfl⟩
    | refine mj_rtl rfl rfl ⟨?_, ?_⟩
    | refine mj_rtv rfl rfl ⟨rfl, by with_reducible rfl⟩
    | refine mj_rtv rfl rfl ⟨rfl, ?_⟩
  all_goals rfl
def si_addA (M : Nat → Nat → Int32) (i r : Int32) : Int32 := if i < 1 then -1 else if 12 < i then -1 else if r < 0 then -1 else if 150 < r then -1 else if M 49 3 < 10 then M 49 3 + 1 else -1
def si_addM (M : Nat → Nat → Int32) (i r : Int32) : Nat → Nat → Int32 := if i < 1 then M else if 12 < i then M else if r < 0 then M else if 150 < r then M else if M 49 3 < 10 then fm_u (fm_u (fm_u M 50 (M 49 3).toNatClampNeg i) 51 (M 49 3).toNatClampNeg r) 49 3 (M 49 3 + 1) else M
set_option maxRecDepth 20000 in
theorem t_siadd (M : Nat → Nat → Int32) (ML : Nat → Nat → Int64) (R : Nat → Nat → Option Nat) (n : Nat) (hn : n ≤ 10) (hs : M 49 3 = nI n) (i r : Int32) : mj_big 1 30 [.ref 49, .int i, .int r] (fm_mk (M, ML, R)) (some (.int (si_addA M i r))) (fm_mk (si_addM M i r, ML, R)) := by
  have hin : M 49 3 < 10 → vp_in (M 49 3) 10 := by
    intro h
    rw [hs] at h ⊢
    exact in_nI ((nI_ltI (b := 10) (by omega) (by omega)).mp h) (by omega)
  have u1 : ∀ (M' : Nat → Nat → Int32) x y, fm_u M' 50 x y 49 3 = M' 49 3 := fun M' x y => by rw [fm_u_off (by decide)]
  have u2 : ∀ (M' : Nat → Nat → Int32) x y, fm_u M' 51 x y 49 3 = M' 49 3 := fun M' x y => by rw [fm_u_off (by decide)]
  refine mj_ofB _ _ rfl rfl rfl ?_
  repeat' first
    | refine mj_auto3 [] 80 rfl ?_
    | refine mj_if rfl rfl (fun c1 => ?_) (fun c1 => ?_)
    | refine fn_gR (by first | with_reducible assumption | with_reducible exact fm_s49 | with_reducible exact fm_s50 | with_reducible exact fm_s51) rfl rfl rfl ?_
    | refine fn_gI (by first | with_reducible assumption | with_reducible exact fm_s49 | with_reducible exact fm_s50 | with_reducible exact fm_s51) rfl rfl rfl ?_
    | refine fn_ld (by first | with_reducible assumption | with_reducible exact fm_s49 | with_reducible exact fm_s50 | with_reducible exact fm_s51) rfl (by first | exact hin (by assumption) | (rw [u1]; exact hin (by assumption))) ?_
    | refine fn_st (by first | with_reducible assumption | with_reducible exact fm_s49 | with_reducible exact fm_s50 | with_reducible exact fm_s51) rfl (by first | exact hin (by assumption) | (rw [u1]; exact hin (by assumption))) ?_
    | refine fn_pI (by first | with_reducible assumption | with_reducible exact fm_s49 | with_reducible exact fm_s50 | with_reducible exact fm_s51) rfl rfl rfl rfl ?_
  all_goals clear hs hin
  all_goals first
    | (refine mj_rt rfl rfl rfl ⟨?_, ?_⟩ <;> (simp only [u1, u2, fm_u_at, si_addA, si_addM, if_pos, if_neg, *, not_false_eq_true]; done))
    | (refine mj_rt rfl rfl rfl ⟨?_, ?_⟩ <;> (simp [u1, u2, fm_u_at, si_addA, si_addM, *]; done))
def si_fit (M : Nat → Nat → Int32) (e p : Int32) : Nat → Nat → Int32
  | 0, _ => 1
  | n + 1, k => if pt_rel e p (M 50 k) = M 51 k then si_fit M e p n (k + 1) else 0
set_option maxRecDepth 20000 in
theorem t_fit (S : fm_S) (N : Nat) (hn : N ≤ 10) (hs : S.1 49 3 = nI N) (e p : Int32) : mj_big 2 32 [.ref 49, .int e, .int p] (fm_mk S) (some (.int (si_fit S.1 e p N 0))) (fm_mk S) := by
  refine mj_ofB _ _ rfl rfl rfl ?_
  have lp : ∀ (n k : Nat), k + n = N → mj_Rn 1 (some .boolean) kX6_fit (fun v g => v = some (.int (si_fit S.1 e p n k)) ∧ g = fm_mk S) (fm_mk S) 2 [some (.ref 49), some (.int e), some (.int p), some (.int (nI k))] [] := by
    intro n
    induction n with
    | zero =>
      intro k hk
      obtain rfl : k = N := by omega
      refine mj_begin4 [2] 50 rfl ?_
      refine fm_gI fm_s49 rfl rfl rfl ?_
      rw [hs]
      refine mj_if rfl rfl (fun c2 => ?_) (fun c2 => absurd (nI_le (Nat.le_refl k) (by omega)) c2)
      refine mj_auto4 [2] 50 rfl ?_
      exact mj_rt rfl rfl rfl ⟨rfl, rfl⟩
    | succ n ih =>
      intro k hk
      have e1 : ¬ nI N ≤ nI k := nI_ge (by omega) (by omega)
      have e2 : vp_in (nI k) 10 := in_nI (by omega) (by omega)
      have e3 : (nI k).toNatClampNeg = k := nI_clamp (by omega)
      have ih := ih (k + 1) (by omega)
      rw [← nI_1] at ih
      refine mj_begin4 [2] 50 rfl ?_
      refine fm_gI fm_s49 rfl rfl rfl ?_
      rw [hs]
      refine mj_if rfl rfl (fun c2 => absurd c2 e1) (fun c2 => ?_)
      refine mj_auto4 [2] 50 rfl ?_
      refine fm_gR fm_s49 rfl rfl rfl ?_
      refine mj_auto4 [2] 50 rfl ?_
      refine fm_ld fm_s50 rfl e2 ?_
      rw [e3]
      refine mj_csB (t_release _ _ _ _) rfl rfl rfl rfl rfl rfl rfl ?_
      refine mj_auto4 [2] 50 rfl ?_
      refine fm_gR fm_s49 rfl rfl rfl ?_
      refine mj_auto4 [2] 50 rfl ?_
      refine fm_ld fm_s51 rfl e2 ?_
      rw [e3]
      refine mj_if rfl rfl (fun c3 => ?_) (fun c3 => ?_)
      · rw [si_fit, if_pos c3]
        refine mj_auto4 [2] 50 rfl ?_
        exact ih
      · rw [si_fit, if_neg c3]
        refine mj_auto4 [2] 50 rfl ?_
        exact mj_rt rfl rfl rfl ⟨rfl, rfl⟩
  refine mj_auto4 [2] 50 rfl ?_
  exact lp N 0 (by omega)
/-- one WEIGHT: the row of how many have the same RELEASE, and the most -/
def si_1 (M : Nat → Nat → Int32) (N : Nat) (i : Int32) (e p : Nat) (s : (Nat → Int32) × Int32) : (Nat → Int32) × Int32 :=
  let r := pt_rel (nI e) (nI p) i
  if r < 0 then s else if 150 < r then s else if si_fit M (nI e) (nI p) N 0 = 0 then s else (upd s.1 r.toNatClampNeg (s.1 r.toNatClampNeg + 1), jd_max s.2 (s.1 r.toNatClampNeg + 1))
def si_e (M : Nat → Nat → Int32) (N : Nat) (i : Int32) (p : Nat) : Nat → Nat → (Nat → Int32) × Int32 → (Nat → Int32) × Int32
  | 0, _, s => s
  | n + 1, e, s => si_e M N i p n (e + 1) (si_1 M N i e p s)
def si_p (M : Nat → Nat → Int32) (N : Nat) (i : Int32) : Nat → Nat → (Nat → Int32) × Int32 → (Nat → Int32) × Int32
  | 0, _, s => s
  | n + 1, p, s => si_p M N i n (p + 1) (si_e M N i p p 1 s)
def si_ma (M : Nat → Nat → Int32) (N : Nat) (i : Int32) : (Nat → Int32) × Int32 := si_p M N i 12 1 (jd_fi (M 52) 151 0, 0)
theorem si_fit_cg {M M' : Nat → Nat → Int32} {e p : Int32} (h0 : M' 50 = M 50) (h1 : M' 51 = M 51) : ∀ n k, si_fit M' e p n k = si_fit M e p n k := by
  intro n
  induction n with
  | zero => intro k; rfl
  | succ n ih => intro k; rw [si_fit, si_fit, h0, h1, ih]
set_option maxRecDepth 20000 in
set_option maxHeartbeats 1000000 in
theorem t_mostAlike (M : Nat → Nat → Int32) (ML : Nat → Nat → Int64) (R : Nat → Nat → Option Nat) (N : Nat) (hn : N ≤ 10) (hs : M 49 3 = nI N) (i : Int32) : mj_big 3 33 [.ref 49, .int i] (fm_mk (M, ML, R)) (some (.int (si_ma M N i).2)) (fm_mk (fm_row M 52 (si_ma M N i).1, ML, R)) := by
  have kf := fun (f : Nat → Int32) e p => t_fit (fm_row M 52 f, ML, R) N hn (by dsimp only; rw [fm_row_off (by decide)]; exact hs) e p
  have kf : ∀ (f : Nat → Int32) e p, mj_big 2 32 [.ref 49, .int e, .int p] (fm_mk (fm_row M 52 f, ML, R)) (some (.int (si_fit M e p N 0))) (fm_mk (fm_row M 52 f, ML, R)) := by
    intro f e p
    have := kf f e p
    dsimp only at this
    rwa [si_fit_cg (fm_row_off (by decide)) (fm_row_off (by decide))] at this
  have kl := t_fill fm_s52 (by decide) (M, ML, R) 0
  refine mj_ofB _ _ rfl rfl rfl ?_
  obtain ⟨F, hF⟩ : ∃ x, x = si_ma M N i := ⟨_, rfl⟩
  rw [← hF]
  have lp : ∀ (m p : Nat) (s : (Nat → Int32) × Int32) (u4 u5 : Option Value), p + m = 13 → 1 ≤ p → si_p M N i m p s = F → mj_Rn 2 (some .int) kX6_mostAlike (fun v g => v = some (.int F.2) ∧ g = fm_mk (fm_row M 52 F.1, ML, R)) (fm_mk (fm_row M 52 s.1, ML, R)) 12 [some (.ref 49), some (.int i), some (.int s.2), some (.int (nI p)), u4, u5] [] := by
    intro m
    induction m with
    | zero =>
      intro p s u4 u5 hp hp1 hfe
      obtain rfl : p = 13 := by omega
      rw [si_p] at hfe
      refine mj_begin6 [12, 21] 50 rfl ?_
      refine mj_if rfl rfl (fun c2 => ?_) (fun c2 => absurd (by decide) c2)
      refine mj_auto6 [12, 21] 50 rfl ?_
      exact mj_rt rfl rfl rfl ⟨by rw [hfe], by rw [hfe]⟩
    | succ m ih =>
      intro p s u4 u5 hp hp1 hfe
      have e1 : ¬ (12 : Int32) < nI p := nI_nlt (a := 12) (by omega) (by omega)
      rw [si_p] at hfe
      refine mj_begin6 [12, 21] 50 rfl ?_
      refine mj_if rfl rfl (fun c2 => absurd c2 e1) (fun c2 => ?_)
      refine mj_auto6 [12, 21] 50 rfl ?_
      have inner : ∀ (n e : Nat) (s : (Nat → Int32) × Int32) (u5 : Option Value), e + n = p + 1 → 1 ≤ e → si_p M N i m (p + 1) (si_e M N i p n e s) = F → mj_Rn 2 (some .int) kX6_mostAlike (fun v g => v = some (.int F.2) ∧ g = fm_mk (fm_row M 52 F.1, ML, R)) (fm_mk (fm_row M 52 s.1, ML, R)) 21 [some (.ref 49), some (.int i), some (.int s.2), some (.int (nI p)), some (.int (nI e)), u5] [] := by
        intro n
        induction n with
        | zero =>
          intro e s u5 he he1 hfe
          obtain rfl : e = p + 1 := by omega
          rw [si_e] at hfe
          refine mj_begin6 [12, 21] 50 rfl ?_
          refine mj_if rfl rfl (fun c3 => ?_) (fun c3 => absurd (nI_lt (by omega) (by omega)) c3)
          refine mj_auto6 [12, 21] 50 rfl ?_
          have q := ih (p + 1) s (some (.int (nI (p + 1)))) u5 (by omega) (by omega) hfe
          rw [← nI_1 p] at q ⊢
          exact q
        | succ n ihn =>
          intro e s u5 he he1 hfe
          have e1 : ¬ nI p < nI e := nI_nlt (by omega) (by omega)
          rw [si_e] at hfe
          have nxt := fun u5 => ihn (e + 1) (si_1 M N i e p s) u5 (by omega) (by omega) hfe
          simp only [← nI_1] at nxt
          refine mj_begin6 [12, 21] 50 rfl ?_
          refine mj_if rfl rfl (fun c3 => absurd c3 e1) (fun c3 => ?_)
          refine mj_auto6 [12, 21] 50 rfl ?_
          refine mj_csB (t_release _ _ _ _) rfl rfl rfl rfl rfl rfl rfl ?_
          refine mj_auto6 [12, 21] 50 rfl ?_
          refine mj_if rfl rfl (fun c4 => ?_) (fun c4 => ?_)
          · rw [si_1, if_pos c4] at nxt
            refine mj_auto6 [12, 21] 50 rfl ?_
            exact nxt _
          refine mj_auto6 [12, 21] 50 rfl ?_
          refine mj_if rfl rfl (fun c5 => ?_) (fun c5 => ?_)
          · rw [si_1, if_neg c4, if_pos c5] at nxt
            refine mj_auto6 [12, 21] 50 rfl ?_
            exact nxt _
          refine mj_auto6 [12, 21] 50 rfl ?_
          refine mj_cvB (kf _ _ _) (fm_o fm_s49) rfl rfl rfl rfl rfl ⟨rfl, rfl⟩ rfl ?_
          refine mj_if rfl rfl (fun c6 => ?_) (fun c6 => ?_)
          · rw [si_1, if_neg c4, if_neg c5, if_pos c6] at nxt
            refine mj_auto6 [12, 21] 50 rfl ?_
            exact nxt _
          rw [si_1, if_neg c4, if_neg c5, if_neg c6] at nxt
          have hin : vp_in (pt_rel (nI e) (nI p) i) 151 := by
            rw [Int32.lt_iff_toInt_lt] at c4 c5
            have h3 : (150 : Int32).toInt = 150 := rfl
            have h4 : (0 : Int32).toInt = 0 := rfl
            exact in_of (by omega) (by omega)
          refine mj_auto6 [12, 21] 50 rfl ?_
          refine fn_gR fm_s49 rfl rfl rfl ?_
          refine mj_auto6 [12, 21] 50 rfl ?_
          refine fn_ld fm_s52 rfl hin ?_
          refine mj_auto6 [12, 21] 50 rfl ?_
          refine fn_st fm_s52 rfl hin ?_
          rw [fm_row_row, fm_row_u]
          refine mj_auto6 [12, 21] 50 rfl ?_
          refine fn_gR fm_s49 rfl rfl rfl ?_
          refine mj_auto6 [12, 21] 50 rfl ?_
          refine fn_ld fm_s52 rfl hin ?_
          rw [fm_row_row, upd_same]
          refine mj_csB (t_max _ _ _) rfl rfl rfl rfl rfl rfl rfl ?_
          refine mj_auto6 [12, 21] 50 rfl ?_
          exact nxt _
      exact inner p 1 s u5 (by omega) (by omega) hfe
  refine mj_auto6 [12, 21] 50 rfl ?_
  refine fn_gR fm_s49 rfl rfl rfl ?_
  refine mj_auto6 [12, 21] 50 rfl ?_
  refine mj_csB kl rfl rfl rfl rfl rfl rfl rfl ?_
  refine mj_auto6 [12, 21] 50 rfl ?_
  exact lp 12 1 (jd_fi (M 52) 151 0, 0) none none rfl (by omega) hF.symm
