set_option maxRecDepth 20000 in
theorem t_tclear {t : Nat} (ht : fm_T t) (S : fm_S) : mj_big 1 44 [.ref t] (fm_mk S) none (fm_mk (fm_u S.1 t 1 0, S.2)) := by
  obtain ⟨ht, h0⟩ := ht
  refine mj_ofB _ _ rfl rfl rfl ?_
  repeat' first
    | refine mj_auto1 [] 80 rfl ?_
    | refine mj_if rfl rfl (fun c1 => ?_) (fun c1 => ?_)
    | refine fm_gR (by with_reducible assumption) rfl rfl rfl ?_
    | refine fm_gI (by with_reducible assumption) rfl rfl rfl ?_
    | refine fm_ld (by with_reducible assumption) rfl (by with_reducible assumption) ?_
    | refine fm_st (by with_reducible assumption) rfl (by with_reducible assumption) ?_
    | refine fm_pI (by with_reducible assumption) rfl rfl rfl rfl ?_
    | refine mj_rt rfl rfl rfl ⟨?_, by with_reducible rfl⟩
    | refine mj_rt rfl rfl rfl ⟨?_, ?_⟩
    | refine mj_rtl rfl rfl ⟨?_, by with_reducible rfl⟩
    | refine mj_rtl rfl rfl ⟨?_, ?_⟩
    | refine mj_rtv rfl rfl ⟨rfl, by with_reducible rfl⟩
    | refine mj_rtv rfl rfl ⟨rfl, ?_⟩
def ti_copy (M : Nat → Nat → Int32) (t o : Nat) : Nat → Nat → Int32 := fm_u (fm_row M (t + 1) (va_cpy (M (o + 1)) (M (t + 1)) 0 0 5)) t 1 (M o 1)
set_option maxRecDepth 20000 in
theorem t_tcopy {t o : Nat} (ht : fm_T t) (ho : fm_T o) (hto : ¬ o = t + 1) (S : fm_S) : mj_big 1 43 [.ref t, .ref o] (fm_mk S) none (fm_mk (ti_copy S.1 t o, S.2)) := by
  obtain ⟨ht, h0⟩ := ht
  obtain ⟨ho, o0⟩ := ho
  refine mj_ofB _ _ rfl rfl rfl ?_
  repeat' first
    | refine mj_auto2 [] 80 rfl ?_
    | refine fm_gR (by with_reducible assumption) rfl rfl rfl ?_
    | refine fm_gI (by with_reducible assumption) rfl rfl rfl ?_
    | refine fm_cpy5 (by with_reducible assumption) (by with_reducible assumption) rfl rfl ?_
    | refine fm_pI (by with_reducible assumption) rfl rfl rfl rfl ?_
    | refine mj_rtv rfl rfl ⟨rfl, ?_⟩
  refine congrArg fm_mk (Prod.ext ?_ rfl)
  simp only [ti_copy, fm_row_off hto]
def ti_lead (M : Nat → Nat → Int32) (b : Nat) (c : Int32) (p q : Nat) : Int32 :=
  if c = 98 then jd_cmp (M (b + 9) p) (M (b + 9) q) else if c = 100 then jd_cmp (M (b + 8) q) (M (b + 8) p) else if c = 103 then (if M (b + 9) p = 0 then 0 else if ¬ M (b + 9) q = 0 then jd_cmp (M (b + 10) p) (M (b + 10) q) else 0) else if c = 114 then jd_cmp (M (b + 7) q) (M (b + 7) p) else if c = 119 then jd_cmp (M (b + 3) p) (M (b + 3) q) else 0
theorem sw_ne {c k : Int32} {a : Int} (h : ¬ c = k) (hk : k.toInt = a) : ¬ c.toInt = a := fun q => h (Int32.toInt_inj.mp (q.trans hk.symm))
set_option maxRecDepth 20000 in
theorem t_leadBy {b : Nat} (hb : fm_W b) (S : fm_S) (c p q : Int32) (hp : vp_in p 8) (hq : vp_in q 8) : mj_big 2 47 [.int c, .ref b, .int p, .int q] (fm_mk S) (some (.int (ti_lead S.1 b c p.toNatClampNeg q.toNatClampNeg))) (fm_mk S) := by
  obtain ⟨hb, h0, h1, h2, h3, h4, h5, h6, h7, h8, h9⟩ := hb
  refine mj_ofB _ _ rfl rfl rfl ?_
  refine mj_auto4 [] 80 rfl ?_
  by_cases e1 : c = 98
  · subst e1
    refine mj_swi 68 rfl rfl (by decide +kernel) ?_
    repeat' first
      | refine mj_auto4 [] 80 rfl ?_
      | refine mj_if rfl rfl (fun c1 => ?_) (fun c1 => ?_)
      | refine fm_gR (by with_reducible assumption) rfl rfl rfl ?_
      | refine fm_gI (by with_reducible assumption) rfl rfl rfl ?_
      | refine fm_ld (by with_reducible assumption) rfl (by with_reducible assumption) ?_
      | refine fm_st (by with_reducible assumption) rfl (by with_reducible assumption) ?_
      | refine fm_pI (by with_reducible assumption) rfl rfl rfl rfl ?_
      | refine mj_csB (t_icmp ..) rfl rfl rfl rfl rfl rfl rfl ?_
      | refine mj_rt rfl rfl rfl ⟨?_, by with_reducible rfl⟩
      | refine mj_rt rfl rfl rfl ⟨?_, ?_⟩
      | refine mj_rtl rfl rfl ⟨?_, by with_reducible rfl⟩
      | refine mj_rtl rfl rfl ⟨?_, ?_⟩
      | refine mj_rtv rfl rfl ⟨rfl, by with_reducible rfl⟩
      | refine mj_rtv rfl rfl ⟨rfl, ?_⟩
    all_goals simp [ti_lead, *]
  by_cases e2 : c = 100
  · subst e2
    refine mj_swi 52 rfl rfl (by decide +kernel) ?_
    repeat' first
      | refine mj_auto4 [] 80 rfl ?_
      | refine mj_if rfl rfl (fun c1 => ?_) (fun c1 => ?_)
      | refine fm_gR (by with_reducible assumption) rfl rfl rfl ?_
      | refine fm_gI (by with_reducible assumption) rfl rfl rfl ?_
      | refine fm_ld (by with_reducible assumption) rfl (by with_reducible assumption) ?_
      | refine fm_st (by with_reducible assumption) rfl (by with_reducible assumption) ?_
      | refine fm_pI (by with_reducible assumption) rfl rfl rfl rfl ?_
      | refine mj_csB (t_icmp ..) rfl rfl rfl rfl rfl rfl rfl ?_
      | refine mj_rt rfl rfl rfl ⟨?_, by with_reducible rfl⟩
      | refine mj_rt rfl rfl rfl ⟨?_, ?_⟩
      | refine mj_rtl rfl rfl ⟨?_, by with_reducible rfl⟩
      | refine mj_rtl rfl rfl ⟨?_, ?_⟩
      | refine mj_rtv rfl rfl ⟨rfl, by with_reducible rfl⟩
      | refine mj_rtv rfl rfl ⟨rfl, ?_⟩
    all_goals simp [ti_lead, *]
  by_cases e3 : c = 103
  · subst e3
    refine mj_swi 84 rfl rfl (by decide +kernel) ?_
    repeat' first
      | refine mj_auto4 [] 80 rfl ?_
      | refine mj_if rfl rfl (fun c1 => ?_) (fun c1 => ?_)
      | refine fm_gR (by with_reducible assumption) rfl rfl rfl ?_
      | refine fm_gI (by with_reducible assumption) rfl rfl rfl ?_
      | refine fm_ld (by with_reducible assumption) rfl (by with_reducible assumption) ?_
      | refine fm_st (by with_reducible assumption) rfl (by with_reducible assumption) ?_
      | refine fm_pI (by with_reducible assumption) rfl rfl rfl rfl ?_
      | refine mj_csB (t_icmp ..) rfl rfl rfl rfl rfl rfl rfl ?_
      | refine mj_rt rfl rfl rfl ⟨?_, by with_reducible rfl⟩
      | refine mj_rt rfl rfl rfl ⟨?_, ?_⟩
      | refine mj_rtl rfl rfl ⟨?_, by with_reducible rfl⟩
      | refine mj_rtl rfl rfl ⟨?_, ?_⟩
      | refine mj_rtv rfl rfl ⟨rfl, by with_reducible rfl⟩
      | refine mj_rtv rfl rfl ⟨rfl, ?_⟩
    all_goals simp [ti_lead, *]
  by_cases e4 : c = 114
  · subst e4
    refine mj_swi 136 rfl rfl (by decide +kernel) ?_
    repeat' first
      | refine mj_auto4 [] 80 rfl ?_
      | refine mj_if rfl rfl (fun c1 => ?_) (fun c1 => ?_)
      | refine fm_gR (by with_reducible assumption) rfl rfl rfl ?_
      | refine fm_gI (by with_reducible assumption) rfl rfl rfl ?_
      | refine fm_ld (by with_reducible assumption) rfl (by with_reducible assumption) ?_
      | refine fm_st (by with_reducible assumption) rfl (by with_reducible assumption) ?_
      | refine fm_pI (by with_reducible assumption) rfl rfl rfl rfl ?_
      | refine mj_csB (t_icmp ..) rfl rfl rfl rfl rfl rfl rfl ?_
      | refine mj_rt rfl rfl rfl ⟨?_, by with_reducible rfl⟩
      | refine mj_rt rfl rfl rfl ⟨?_, ?_⟩
      | refine mj_rtl rfl rfl ⟨?_, by with_reducible rfl⟩
      | refine mj_rtl rfl rfl ⟨?_, ?_⟩
      | refine mj_rtv rfl rfl ⟨rfl, by with_reducible rfl⟩
      | refine mj_rtv rfl rfl ⟨rfl, ?_⟩
    all_goals simp [ti_lead, *]
  by_cases e5 : c = 119
  · subst e5
    refine mj_swi 120 rfl rfl (by decide +kernel) ?_
    repeat' first
      | refine mj_auto4 [] 80 rfl ?_
      | refine mj_if rfl rfl (fun c1 => ?_) (fun c1 => ?_)
      | refine fm_gR (by with_reducible assumption) rfl rfl rfl ?_
      | refine fm_gI (by with_reducible assumption) rfl rfl rfl ?_
      | refine fm_ld (by with_reducible assumption) rfl (by with_reducible assumption) ?_
      | refine fm_st (by with_reducible assumption) rfl (by with_reducible assumption) ?_
      | refine fm_pI (by with_reducible assumption) rfl rfl rfl rfl ?_
      | refine mj_csB (t_icmp ..) rfl rfl rfl rfl rfl rfl rfl ?_
      | refine mj_rt rfl rfl rfl ⟨?_, by with_reducible rfl⟩
      | refine mj_rt rfl rfl rfl ⟨?_, ?_⟩
      | refine mj_rtl rfl rfl ⟨?_, by with_reducible rfl⟩
      | refine mj_rtl rfl rfl ⟨?_, ?_⟩
      | refine mj_rtv rfl rfl ⟨rfl, by with_reducible rfl⟩
      | refine mj_rtv rfl rfl ⟨rfl, ?_⟩
    all_goals simp [ti_lead, *]
  refine mj_swi 152 rfl rfl (by show (1 : Int) + Op.lookupswitch.offset [(98, 67), (100, 51), (103, 83), (114, 135), (119, 119)] 151 c.toInt = 152; rw [lv_osw (a := 98) e1 rfl, lv_osw (a := 100) e2 rfl, lv_osw (a := 103) e3 rfl, lv_osw (a := 114) e4 rfl, lv_osw (a := 119) e5 rfl]; rfl) ?_
  repeat' first
    | refine mj_auto4 [] 80 rfl ?_
    | refine mj_if rfl rfl (fun c1 => ?_) (fun c1 => ?_)
    | refine fm_gR (by with_reducible assumption) rfl rfl rfl ?_
    | refine fm_gI (by with_reducible assumption) rfl rfl rfl ?_
    | refine fm_ld (by with_reducible assumption) rfl (by with_reducible assumption) ?_
    | refine fm_st (by with_reducible assumption) rfl (by with_reducible assumption) ?_
    | refine fm_pI (by with_reducible assumption) rfl rfl rfl rfl ?_
    | refine mj_csB (t_icmp ..) rfl rfl rfl rfl rfl rfl rfl ?_
    | refine mj_rt rfl rfl rfl ⟨?_, by with_reducible rfl⟩
    | refine mj_rt rfl rfl rfl ⟨?_, ?_⟩
    | refine mj_rtl rfl rfl ⟨?_, by with_reducible rfl⟩
    | refine mj_rtl rfl rfl ⟨?_, ?_⟩
    | refine mj_rtv rfl rfl ⟨rfl, by with_reducible rfl⟩
    | refine mj_rtv rfl rfl ⟨rfl, ?_⟩
  all_goals simp [ti_lead, *]
/-- whether p is ahead of q by the letters from the k-th on -/
def ti_ah (M : Nat → Nat → Int32) (b t p q : Nat) : Nat → Nat → Int32
  | 0, _ => if nI q ≤ nI p then 0 else 1
  | n + 1, k => if ti_lead M b (M (t + 1) k) p q = 0 then ti_ah M b t p q n (k + 1) else if ti_lead M b (M (t + 1) k) p q ≤ 0 then 0 else 1
set_option maxRecDepth 20000 in
theorem t_isAhead {b t : Nat} (hb : fm_W b) (ht : fm_T t) (S : fm_S) (p q : Nat) (hp : p < 8) (hq : q < 8) (N : Nat) (hN : N ≤ 5) (hsz : S.1 t 1 = nI N) : mj_big 3 46 [.ref t, .ref b, .int (nI p), .int (nI q)] (fm_mk S) (some (.int (ti_ah S.1 b t p q N 0))) (fm_mk S) := by
  have kl := fun c => t_leadBy hb S c (nI p) (nI q) (nI8_in p hp) (nI8_in q hq)
  rw [nI8_tn p hp, nI8_tn q hq] at kl
  obtain ⟨ht, h0⟩ := ht
  refine mj_ofB _ _ rfl rfl rfl ?_
  have lp : ∀ (n k : Nat) (u : Option Value), k + n = N → mj_Rn 2 (some .boolean) kX8_isAhead (fun v g => v = some (.int (ti_ah S.1 b t p q n k)) ∧ g = fm_mk S) (fm_mk S) 3 [some (.ref t), some (.ref b), some (.int (nI p)), some (.int (nI q)), some (.int (nI k)), u] [] := by
    intro n
    induction n with
    | zero =>
      intro k u hk
      obtain rfl : k = N := by omega
      refine mj_begin6 [3] 50 rfl ?_
      refine fm_gI ht rfl rfl rfl ?_
      rw [hsz]
      refine mj_if rfl rfl (fun c1 => ?_) (fun c1 => absurd (nI_le (Nat.le_refl k) (by omega)) c1)
      repeat' first
        | refine mj_auto6 [3] 80 rfl ?_
        | refine mj_if rfl rfl (fun c1 => ?_) (fun c1 => ?_)
        | refine fm_gR (by with_reducible assumption) rfl rfl rfl ?_
        | refine fm_gI (by with_reducible assumption) rfl rfl rfl ?_
        | refine fm_ld (by with_reducible assumption) rfl (by with_reducible assumption) ?_
        | refine fm_st (by with_reducible assumption) rfl (by with_reducible assumption) ?_
        | refine fm_pI (by with_reducible assumption) rfl rfl rfl rfl ?_
        | refine mj_rt rfl rfl rfl ⟨?_, by with_reducible rfl⟩
        | refine mj_rt rfl rfl rfl ⟨?_, ?_⟩
        | refine mj_rtl rfl rfl ⟨?_, by with_reducible rfl⟩
        | refine mj_rtl rfl rfl ⟨?_, ?_⟩
        | refine mj_rtv rfl rfl ⟨rfl, by with_reducible rfl⟩
        | refine mj_rtv rfl rfl ⟨rfl, ?_⟩
      all_goals simp [ti_ah, *]
    | succ n ih =>
      intro k u hk
      have e1 : ¬ nI N ≤ nI k := nI_ge (by omega) (by omega)
      have e2 : vp_in (nI k) 5 := in_nI (by omega) (by omega)
      have e3 : (nI k).toNatClampNeg = k := nI_clamp (by omega)
      have ih := fun u => ih (k + 1) u (by omega)
      simp only [← nI_1] at ih
      refine mj_begin6 [3] 50 rfl ?_
      refine fm_gI ht rfl rfl rfl ?_
      rw [hsz]
      refine mj_if rfl rfl (fun c1 => absurd c1 e1) (fun c1 => ?_)
      repeat' first
        | refine mj_auto6 [3] 80 rfl ?_
        | refine mj_if rfl rfl (fun c1 => ?_) (fun c1 => ?_)
        | refine fm_gR (by with_reducible assumption) rfl rfl rfl ?_
        | refine fm_gI (by with_reducible assumption) rfl rfl rfl ?_
        | refine fm_ld (by with_reducible assumption) rfl (by with_reducible assumption) ?_
        | refine fm_st (by with_reducible assumption) rfl (by with_reducible assumption) ?_
        | refine fm_pI (by with_reducible assumption) rfl rfl rfl rfl ?_
        | refine mj_csB (kl ..) rfl rfl rfl rfl rfl rfl rfl ?_
      all_goals rw [e3] at *
      · rw [ti_ah, if_pos (by assumption)]
        exact ih _
      · refine mj_rt rfl rfl rfl ⟨?_, rfl⟩
        simp [ti_ah, *]
      · refine mj_rt rfl rfl rfl ⟨?_, rfl⟩
        simp [ti_ah, *]
  refine mj_auto6 [3] 50 rfl ?_
  exact lp N 0 none (by omega)
