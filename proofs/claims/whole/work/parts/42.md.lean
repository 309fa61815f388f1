def md_ps (a f : Nat → Int32) (N : Nat) (kept tk : Int32) : Nat → Option Nat
  | 0 => none
  | k + 1 => if nI k = kept then md_ps a f N kept tk k else if ¬ md_has tk (nI k) = 0 then md_ps a f N kept tk k else if ¬ md_rdy a k = 0 then (match md_ps a f N kept tk k with
    | none => some k
    | some j => if md_ah a f k j N 0 = 0 then some j else some k) else md_ps a f N kept tk k
theorem md_ps_ok (a f : Nat → Int32) (N : Nat) (kept tk : Int32) : ∀ k j, md_ps a f N kept tk k = some j → j < k ∧ ¬ md_rdy a j = 0 := by
  intro k
  induction k with
  | zero => intro j h; cases h
  | succ k ih =>
    intro j h
    rw [md_ps] at h
    split at h
    · have := ih j h; exact ⟨by omega, this.2⟩
    · split at h
      · have := ih j h; exact ⟨by omega, this.2⟩
      · split at h
        · next hr =>
          split at h
          · cases h; exact ⟨by omega, hr⟩
          · next i hi =>
            have := ih i hi
            split at h
            · cases h; exact ⟨by omega, this.2⟩
            · cases h; exact ⟨by omega, hr⟩
        · have := ih j h; exact ⟨by omega, this.2⟩
def md_lo (a f : Nat → Int32) (N : Nat) (kept : Int32) : Nat → Int32 → Nat → (Nat → Int32) → Option (Nat × (Nat → Int32))
  | 0, _, _, _ => none
  | g + 1, tk, n, ln => match md_ps a f N kept tk 8 with
    | none => some (n, ln)
    | some j => if n < 8 then md_lo a f N kept g (tk ||| 1 <<< (nI j &&& 31)) (n + 1) (upd ln n (nI j)) else none
theorem md_rdy_th {a : Nat → Int32} {k : Nat} (h : ¬ md_rdy a k = 0) : ¬ a k = 0 := by
  refine md_th_ne (fun q => h ?_)
  rw [md_rdy, if_pos q]
set_option maxRecDepth 20000 in
set_option maxHeartbeats 1000000 in
theorem t_mlayOrder {r : Nat} (hr : fm_N r) (hr2 : ¬ r = 223) (M : Nat → Nat → Int32) (ML : Nat → Nat → Int64) (R : Nat → Nat → Option Nat) (tt N : Nat) (ht : md_ti (M, ML, R) tt N) (hg : ∀ k, k < 8 → ¬ M r k = 0 → md_gok (M r) k (nx (M r) k)) (kept : Int32) (res : Nat × (Nat → Int32)) (hres : md_lo (M r) (M tt) N kept 9 0 0 (M 223) = some res) : mj_big 6 150 [.ref 219, .ref r, .int kept] (fm_mk (M, ML, R)) (some (.int (nI res.1))) (fm_mk (fm_row M 223 res.2, ML, R)) := by
  have ht2 : ¬ tt = 223 := fun q => by rw [q] at ht; have := ht.2.1; rw [fm_s223] at this; cases this
  have hti : ∀ ln, md_ti (fm_row M 223 ln, ML, R) tt N := fun ln => ⟨ht.1, ht.2.1, (by dsimp only; rw [fm_row_off (by decide)]; exact ht.2.2.1), ht.2.2.2⟩
  have krd := fun (ln : Nat → Int32) k hk => t_mready hr (fm_row M 223 ln, ML, R) k hk
  have kah := fun (ln : Nat → Int32) p q hp hq => t_mahead hr (fm_row M 223 ln, ML, R) tt N (hti ln) p q hp hq
  have e9 : ∀ ln, fm_row M 223 ln r = M r := fun ln => fm_row_off hr2
  have e10 : ∀ ln, fm_row M 223 ln tt = M tt := fun ln => fm_row_off ht2
  simp only [e9, e10] at krd kah
  refine mj_ofB _ _ rfl rfl rfl ?_
  have inner : ∀ (ln : Nat → Int32) (tk : Int32) (x4 : Int32) (n k : Nat), k + n = 8 → mj_Rn 5 (some .int) kX11_layOrder (fun v g => v = some (.int (nI res.1)) ∧ g = fm_mk (fm_row M 223 res.2, ML, R)) (fm_mk (fm_row M 223 ln, ML, R)) 81 [some (.ref 219), some (.ref r), some (.int kept), some (.int tk), some (.int x4), some (.int 1), some (.int (ov (md_ps (M r) (M tt) N kept tk 8))), some (.int (nI 8))] [] → mj_Rn 5 (some .int) kX11_layOrder (fun v g => v = some (.int (nI res.1)) ∧ g = fm_mk (fm_row M 223 res.2, ML, R)) (fm_mk (fm_row M 223 ln, ML, R)) 19 [some (.ref 219), some (.ref r), some (.int kept), some (.int tk), some (.int x4), some (.int 1), some (.int (ov (md_ps (M r) (M tt) N kept tk k))), some (.int (nI k))] [] := by
    intro ln tk x4 n
    induction n with
    | zero =>
      intro k hk hK
      obtain rfl : k = 8 := by omega
      refine mj_begin8 [8, 19, 81] 50 rfl ?_
      refine mj_if rfl rfl (fun c1 => ?_) (fun c1 => absurd (by decide) c1)
      exact hK
    | succ n ih =>
      intro k hk hK
      have hk8 : k < 8 := by omega
      have e1 := nI8_lt k hk8
      have ih := ih (k + 1) (by omega) hK
      rw [← nI_1, md_ps] at ih
      refine mj_begin8 [8, 19, 81] 50 rfl ?_
      refine mj_if rfl rfl (fun c1 => absurd c1 e1) (fun c1 => ?_)
      refine mj_auto8 [8, 19, 81] 50 rfl ?_
      refine mj_if rfl rfl (fun c2 => ?_) (fun c2 => ?_)
      · rw [if_pos c2] at ih
        refine mj_auto8 [8, 19, 81] 50 rfl ?_
        exact ih
      rw [if_neg c2] at ih
      refine mj_auto8 [8, 19, 81] 50 rfl ?_
      refine mj_csB (t_mhas _ _ _) rfl rfl rfl rfl rfl rfl rfl ?_
      refine mj_if rfl rfl (fun c3 => ?_) (fun c3 => ?_)
      · rw [if_pos c3] at ih
        refine mj_auto8 [8, 19, 81] 50 rfl ?_
        exact ih
      rw [if_neg c3] at ih
      refine mj_auto8 [8, 19, 81] 50 rfl ?_
      refine mj_csB (krd ln k hk8) rfl rfl rfl rfl rfl rfl rfl ?_
      refine mj_if rfl rfl (fun c4 => ?_) (fun c4 => ?_)
      rotate_left
      · rw [if_neg c4] at ih
        refine mj_auto8 [8, 19, 81] 50 rfl ?_
        exact ih
      rw [if_pos c4] at ih
      cases hf : md_ps (M r) (M tt) N kept tk k with
      | none =>
        rw [hf] at ih
        refine mj_auto8 [8, 19, 81] 50 rfl ?_
        refine mj_if rfl rfl (fun c5 => ?_) (fun c5 => absurd rfl c5)
        refine mj_auto8 [8, 19, 81] 50 rfl ?_
        exact ih
      | some j =>
        rw [hf] at ih
        have hj := md_ps_ok (M r) (M tt) N kept tk k j hf
        refine mj_auto8 [8, 19, 81] 50 rfl ?_
        refine mj_if rfl rfl (fun c5 => absurd (ov_none c5 (fun i hi => by cases hi; omega)) (by simp)) (fun c5 => ?_)
        refine mj_auto8 [8, 19, 81] 50 rfl ?_
        refine mj_cvB (kah ln k j hk8 (by omega) (md_rdy_th c4) (md_rdy_th hj.2) (hg k hk8 (md_rdy_th c4)) (hg j (by omega) (md_rdy_th hj.2))) (fm_o fm_s219) rfl rfl rfl rfl rfl ⟨rfl, rfl⟩ rfl ?_
        dsimp only at ih
        refine mj_if rfl rfl (fun c6 => ?_) (fun c6 => ?_)
        · rw [if_pos c6] at ih
          refine mj_auto8 [8, 19, 81] 50 rfl ?_
          exact ih
        · rw [if_neg c6] at ih
          refine mj_auto8 [8, 19, 81] 50 rfl ?_
          exact ih
  have lp : ∀ (g : Nat) (tk : Int32) (n : Nat) (ln : Nat → Int32) (x6 x7 : Option Value), md_lo (M r) (M tt) N kept g tk n ln = some res → mj_Rn 5 (some .int) kX11_layOrder (fun v g => v = some (.int (nI res.1)) ∧ g = fm_mk (fm_row M 223 res.2, ML, R)) (fm_mk (fm_row M 223 ln, ML, R)) 8 [some (.ref 219), some (.ref r), some (.int kept), some (.int tk), some (.int (nI n)), some (.int 1), x6, x7] [] := by
    intro g
    induction g with
    | zero => intro tk n ln x6 x7 h; cases h
    | succ g ih =>
      intro tk n ln x6 x7 h
      rw [md_lo] at h
      refine mj_begin8 [8, 19, 81] 50 rfl ?_
      refine mj_if rfl rfl (fun c1 => absurd c1 (by decide)) (fun c1 => ?_)
      refine mj_auto8 [8, 19, 81] 50 rfl ?_
      refine inner ln tk (nI n) 8 0 rfl ?_
      cases hf : md_ps (M r) (M tt) N kept tk 8 with
      | none =>
        rw [hf] at h
        cases h
        refine mj_begin8 [8, 19, 81] 50 rfl ?_
        refine mj_if rfl rfl (fun c2 => ?_) (fun c2 => absurd rfl c2)
        refine mj_auto8 [8, 19, 81] 50 rfl ?_
        refine mj_if rfl rfl (fun c3 => absurd rfl c3) (fun c3 => ?_)
        refine mj_auto8 [19, 81] 1 rfl ?_
        refine mj_if rfl rfl (fun c4 => ?_) (fun c4 => absurd rfl c4)
        refine mj_auto8 [19, 81] 50 rfl ?_
        exact mj_rt rfl rfl rfl ⟨rfl, rfl⟩
      | some j =>
        rw [hf] at h
        dsimp only at h
        have hj := md_ps_ok (M r) (M tt) N kept tk 8 j hf
        by_cases hn : n < 8
        · rw [if_pos hn] at h
          refine mj_begin8 [8, 19, 81] 50 rfl ?_
          refine mj_if rfl rfl (fun c2 => absurd (ov_none c2 (fun i hi => by cases hi; exact hj.1)) (by simp)) (fun c2 => ?_)
          refine mj_auto8 [8, 19, 81] 50 rfl ?_
          refine mj_if rfl rfl (fun c3 => ?_) (fun c3 => absurd (by decide) c3)
          refine mj_auto8 [8, 19, 81] 50 rfl ?_
          refine fn_gR fm_s219 rfl rfl rfl ?_
          refine mj_auto8 [8, 19, 81] 50 rfl ?_
          refine fn_st fm_s223 rfl (in_nI hn (by omega)) ?_
          rw [fm_row_u, nI_clamp (by omega)]
          refine mj_auto8 [8, 19, 81] 50 rfl ?_
          have ih := fun x6 x7 => ih _ _ _ x6 x7 h
          simp only [← nI_1] at ih
          exact ih _ _
        · rw [if_neg hn] at h
          cases h
  refine mj_auto8 [8, 19, 81] 50 rfl ?_
  have q := lp 9 0 0 (M 223) none none hres
  rw [fm_row_self] at q
  exact q
