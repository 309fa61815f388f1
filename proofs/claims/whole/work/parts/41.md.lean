def md_rdy (a : Nat → Int32) (k : Nat) : Int32 := if md_th a k = 0 then 0 else if a (24 + k) = 1 then 1 else if a 41 < md_rel a k (a (32 + k) + 1) then 0 else 1
theorem md_th_ne {a : Nat → Int32} {k : Nat} (h : ¬ md_th a k = 0) : ¬ a k = 0 := fun q => h (by rw [md_th, q]; rfl)
theorem tn41 : ((41 : Int32)).toNatClampNeg = 41 := rfl
theorem in41 : vp_in (41 : Int32) 43 := in43 (k := 41) (by decide)
set_option maxRecDepth 20000 in
theorem t_mready {p : Nat} (hp : fm_N p) (S : fm_S) (k : Nat) (hk : k < 8) : mj_big 2 147 [.ref p, .int (nI k)] (fm_mk S) (some (.int (md_rdy (S.1 p) k))) (fm_mk S) := by
  have k1 := t_mthere hp S k hk
  have k2 := fun h0 i => t_mrel hp S k hk h0 i
  have hp' : fm_sh p = .inl (0, 43) := hp
  refine mj_ofB _ _ rfl rfl rfl ?_
  rw [md_rdy]
  refine mj_auto2 [] 50 rfl ?_
  refine mj_csB k1 rfl rfl rfl rfl rfl rfl rfl ?_
  refine mj_if rfl rfl (fun c => ?_) (fun c => ?_)
  · rw [if_pos c]
    refine mj_auto2 [] 50 rfl ?_
    exact mj_rt rfl rfl rfl ⟨rfl, rfl⟩
  rw [if_neg c]
  refine mj_auto2 [] 50 rfl ?_
  refine fm_ld hp' rfl (i24 hk) ?_
  rw [v24 hk]
  refine mj_auto2 [] 50 rfl ?_
  refine mj_if rfl rfl (fun c2 => ?_) (fun c2 => ?_)
  · rw [if_pos c2]
    refine mj_auto2 [] 50 rfl ?_
    exact mj_rt rfl rfl rfl ⟨rfl, rfl⟩
  rw [if_neg c2]
  refine mj_auto2 [] 50 rfl ?_
  refine fm_ld hp' rfl (i32x hk) ?_
  rw [v32 hk]
  refine mj_auto2 [] 50 rfl ?_
  refine mj_csB (k2 (md_th_ne c) _) rfl rfl rfl rfl rfl rfl rfl ?_
  refine mj_auto2 [] 50 rfl ?_
  refine fm_ld hp' rfl in41 ?_
  rw [tn41]
  refine mj_if rfl rfl (fun c3 => ?_) (fun c3 => ?_)
  · rw [if_pos c3]
    refine mj_auto2 [] 50 rfl ?_
    exact mj_rt rfl rfl rfl ⟨rfl, rfl⟩
  · rw [if_neg c3]
    refine mj_auto2 [] 50 rfl ?_
    exact mj_rt rfl rfl rfl ⟨rfl, rfl⟩
/-- of the next PARTS -/
abbrev nx (a : Nat → Int32) (k : Nat) : Int32 := a (32 + k) + 1
def md_lead (a : Nat → Int32) (c : Int32) (p q : Nat) : Int32 :=
  if c = 98 then md_ov a p (nx a p) - md_ov a q (nx a q) else if c = 100 then md_dl a q (nx a q) - md_dl a p (nx a p) else if c = 103 then (if ¬ md_ov a p (nx a p) = 1 then 0 else if ¬ md_ov a q (nx a q) = 1 then 0 else md_gp a p (nx a p) - md_gp a q (nx a q)) else if c = 119 then a p * a (8 + q) - a q * a (8 + p) else md_rel a q (nx a q) - md_rel a p (nx a p)
set_option maxRecDepth 20000 in
set_option maxHeartbeats 1000000 in
theorem t_mlead {r : Nat} (hr : fm_N r) (S : fm_S) (c : Int32) (p q : Nat) (hp : p < 8) (hq : q < 8) (p0 : ¬ S.1 r p = 0) (q0 : ¬ S.1 r q = 0) (pg : md_gok (S.1 r) p (nx (S.1 r) p)) (qg : md_gok (S.1 r) q (nx (S.1 r) q)) : mj_big 4 148 [.ref r, .int c, .int (nI p), .int (nI q)] (fm_mk S) (some (.int (md_lead (S.1 r) c p q))) (fm_mk S) := by
  have dp := t_mdl hr S p hp p0 (nx (S.1 r) p)
  have dq := t_mdl hr S q hq q0 (nx (S.1 r) q)
  have op := t_mov hr S p hp p0 (nx (S.1 r) p)
  have oq := t_mov hr S q hq q0 (nx (S.1 r) q)
  have rp := t_mrel hr S p hp p0 (nx (S.1 r) p)
  have rq := t_mrel hr S q hq q0 (nx (S.1 r) q)
  have gp := t_mgroup hr S p hp p0 (nx (S.1 r) p) pg
  have gq := t_mgroup hr S q hq q0 (nx (S.1 r) q) qg
  have hr' : fm_sh r = .inl (0, 43) := hr
  refine mj_ofB _ _ rfl rfl rfl ?_
  refine mj_auto6 [] 50 rfl ?_
  refine fm_ld hr' rfl (i32x hp) ?_
  refine mj_auto6 [] 50 rfl ?_
  refine fm_ld hr' rfl (i32x hq) ?_
  rw [v32 hp, v32 hq]
  refine mj_auto6 [] 50 rfl ?_
  by_cases e1 : c = 98
  · subst e1
    refine mj_swi 80 rfl rfl (by decide +kernel) ?_
    refine mj_auto6 [] 50 rfl ?_
    refine mj_csB op rfl rfl rfl rfl rfl rfl rfl ?_
    refine mj_auto6 [] 50 rfl ?_
    refine mj_csB oq rfl rfl rfl rfl rfl rfl rfl ?_
    refine mj_auto6 [] 50 rfl ?_
    exact mj_rt rfl rfl rfl ⟨by rw [md_lead, if_pos rfl], rfl⟩
  by_cases e2 : c = 100
  · subst e2
    refine mj_swi 64 rfl rfl (by decide +kernel) ?_
    refine mj_auto6 [] 50 rfl ?_
    refine mj_csB dq rfl rfl rfl rfl rfl rfl rfl ?_
    refine mj_auto6 [] 50 rfl ?_
    refine mj_csB dp rfl rfl rfl rfl rfl rfl rfl ?_
    refine mj_auto6 [] 50 rfl ?_
    exact mj_rt rfl rfl rfl ⟨by rw [md_lead, if_neg e1, if_pos rfl], rfl⟩
  by_cases e3 : c = 103
  · subst e3
    rw [md_lead, if_neg e1, if_neg e2, if_pos rfl]
    refine mj_swi 96 rfl rfl (by decide +kernel) ?_
    refine mj_auto6 [] 50 rfl ?_
    refine mj_csB op rfl rfl rfl rfl rfl rfl rfl ?_
    refine mj_auto6 [] 50 rfl ?_
    refine mj_if rfl rfl (fun c1 => ?_) (fun c1 => ?_)
    · rw [if_pos c1]
      refine mj_auto6 [] 50 rfl ?_
      exact mj_rt rfl rfl rfl ⟨rfl, rfl⟩
    rw [if_neg c1]
    refine mj_auto6 [] 50 rfl ?_
    refine mj_csB oq rfl rfl rfl rfl rfl rfl rfl ?_
    refine mj_auto6 [] 50 rfl ?_
    refine mj_if rfl rfl (fun c2 => ?_) (fun c2 => ?_)
    · rw [if_pos c2]
      refine mj_auto6 [] 50 rfl ?_
      exact mj_rt rfl rfl rfl ⟨rfl, rfl⟩
    rw [if_neg c2]
    refine mj_auto6 [] 50 rfl ?_
    refine mj_csB gp rfl rfl rfl rfl rfl rfl rfl ?_
    refine mj_auto6 [] 50 rfl ?_
    refine mj_csB gq rfl rfl rfl rfl rfl rfl rfl ?_
    refine mj_auto6 [] 50 rfl ?_
    exact mj_rt rfl rfl rfl ⟨rfl, rfl⟩
  by_cases e4 : c = 119
  · subst e4
    refine mj_swi 138 rfl rfl (by decide +kernel) ?_
    refine mj_auto6 [] 50 rfl ?_
    refine fm_ld hr' rfl (in43 (by omega)) ?_
    refine mj_auto6 [] 50 rfl ?_
    refine fm_ld hr' rfl (i8 hq) ?_
    refine mj_auto6 [] 50 rfl ?_
    refine fm_ld hr' rfl (in43 (by omega)) ?_
    refine mj_auto6 [] 50 rfl ?_
    refine fm_ld hr' rfl (i8 hp) ?_
    refine mj_auto6 [] 50 rfl ?_
    rw [v8 hp, v8 hq, nI8_tn p hp, nI8_tn q hq]
    exact mj_rt rfl rfl rfl ⟨by rw [md_lead, if_neg e1, if_neg e2, if_neg e3, if_pos rfl], rfl⟩
  refine mj_swi 160 rfl rfl (by show (21 : Int) + Op.lookupswitch.offset [(98, 59), (100, 43), (103, 75), (119, 117)] 139 c.toInt = 160; rw [lv_osw (a := 98) e1 rfl, lv_osw (a := 100) e2 rfl, lv_osw (a := 103) e3 rfl, lv_osw (a := 119) e4 rfl]; rfl) ?_
  refine mj_auto6 [] 50 rfl ?_
  refine mj_csB rq rfl rfl rfl rfl rfl rfl rfl ?_
  refine mj_auto6 [] 50 rfl ?_
  refine mj_csB rp rfl rfl rfl rfl rfl rfl rfl ?_
  refine mj_auto6 [] 50 rfl ?_
  exact mj_rt rfl rfl rfl ⟨by rw [md_lead, if_neg e1, if_neg e2, if_neg e3, if_neg e4], rfl⟩
def md_ah (a f : Nat → Int32) (p q : Nat) : Nat → Nat → Int32
  | 0, _ => if nI q ≤ nI p then 0 else 1
  | n + 1, k => if md_lead a (f k) p q = 0 then md_ah a f p q n (k + 1) else if md_lead a (f k) p q ≤ 0 then 0 else 1
/-- TIES of the reference: where they lie, how many -/
def md_ti (S : fm_S) (tt N : Nat) : Prop := S.2.2 219 6 = some tt ∧ fm_sh tt = .inl (2, 5) ∧ S.1 219 8 = nI N ∧ N ≤ 5
set_option maxRecDepth 20000 in
theorem t_mahead {r : Nat} (hr : fm_N r) (S : fm_S) (tt N : Nat) (ht : md_ti S tt N) (p q : Nat) (hp : p < 8) (hq : q < 8) (p0 : ¬ S.1 r p = 0) (q0 : ¬ S.1 r q = 0) (pg : md_gok (S.1 r) p (nx (S.1 r) p)) (qg : md_gok (S.1 r) q (nx (S.1 r) q)) : mj_big 5 149 [.ref 219, .ref r, .int (nI p), .int (nI q)] (fm_mk S) (some (.int (md_ah (S.1 r) (S.1 tt) p q N 0))) (fm_mk S) := by
  have kl := fun c => t_mlead hr S c p q hp hq p0 q0 pg qg
  obtain ⟨t1, t2, t3, hN⟩ := ht
  refine mj_ofB _ _ rfl rfl rfl ?_
  have lp : ∀ (n k : Nat) (u : Option Value), k + n = N → mj_Rn 4 (some .boolean) kX11_isAhead (fun v g => v = some (.int (md_ah (S.1 r) (S.1 tt) p q n k)) ∧ g = fm_mk S) (fm_mk S) 3 [some (.ref 219), some (.ref r), some (.int (nI p)), some (.int (nI q)), some (.int (nI k)), u] [] := by
    intro n
    induction n with
    | zero =>
      intro k u hk
      obtain rfl : k = N := by omega
      refine mj_begin6 [3] 50 rfl ?_
      refine fm_gI fm_s219 rfl rfl rfl ?_
      rw [t3]
      refine mj_if rfl rfl (fun c1 => ?_) (fun c1 => absurd (nI_le (Nat.le_refl k) (by omega)) c1)
      repeat' first
        | refine mj_auto6 [3] 80 rfl ?_
        | refine mj_if rfl rfl (fun c1 => ?_) (fun c1 => ?_)
        | refine mj_rt rfl rfl rfl ⟨?_, by with_reducible rfl⟩
        | refine mj_rt rfl rfl rfl ⟨?_, ?_⟩
        | refine mj_rtl rfl rfl ⟨?_, by with_reducible rfl⟩
        | refine mj_rtl rfl rfl ⟨?_, ?_⟩
        | refine mj_rtv rfl rfl ⟨rfl, by with_reducible rfl⟩
        | refine mj_rtv rfl rfl ⟨rfl, ?_⟩
      all_goals simp [md_ah, *]
    | succ n ih =>
      intro k u hk
      have e1 : ¬ nI N ≤ nI k := nI_ge (by omega) (by omega)
      have ih := fun u => ih (k + 1) u (by omega)
      simp only [← nI_1] at ih
      refine mj_begin6 [3] 50 rfl ?_
      refine fm_gI fm_s219 rfl rfl rfl ?_
      rw [t3]
      refine mj_if rfl rfl (fun c1 => absurd c1 e1) (fun c1 => ?_)
      refine mj_auto6 [3] 50 rfl ?_
      refine fm_gM fm_s219 rfl rfl rfl t1 ?_
      refine mj_auto6 [3] 50 rfl ?_
      refine fm_ldb t2 rfl (in_nI (by omega) (by omega)) ?_
      rw [nI_clamp (by omega)]
      refine mj_auto6 [3] 50 rfl ?_
      refine mj_csB (kl _) rfl rfl rfl rfl rfl rfl rfl ?_
      refine mj_auto6 [3] 50 rfl ?_
      refine mj_if rfl rfl (fun c2 => ?_) (fun c2 => ?_)
      · rw [md_ah, if_pos c2]
        refine mj_auto6 [3] 50 rfl ?_
        exact ih _
      · rw [md_ah, if_neg c2]
        refine mj_auto6 [3] 50 rfl ?_
        refine mj_if rfl rfl (fun c3 => ?_) (fun c3 => ?_)
        · rw [if_pos c3]
          refine mj_auto6 [3] 50 rfl ?_
          exact mj_rt rfl rfl rfl ⟨rfl, rfl⟩
        · rw [if_neg c3]
          refine mj_auto6 [3] 50 rfl ?_
          exact mj_rt rfl rfl rfl ⟨rfl, rfl⟩
  refine mj_auto6 [3] 50 rfl ?_
  exact lp N 0 none (by omega)
