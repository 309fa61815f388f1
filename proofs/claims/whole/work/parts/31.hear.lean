def sc_fb (M : Nat → Nat → Int32) (q : Nat) : Nat → Nat → Int32 → Int32
  | 0, _, mi => if 0 < mi then nI q else if M 38 1 ≤ nI q then -1 else nI q
  | n + 1, p, mi => if mi ≤ 0 then (if 0 ≤ sc_act M (nI p) - 1 then sc_fb M q n (p + 1) (sc_act M (nI p) - 1) else nI p) else if ¬ sc_dig M (nI p) = -1 then sc_fb M q n (p + 1) (mi + -1) else nI p
theorem jd_min60 {n : Nat} (hn : n ≤ 80) : jd_min (nI n) 60 = nI (min n 60) := by
  have : ∀ n, n < 81 → jd_min (nI n) 60 = nI (min n 60) := by decide +kernel
  exact this n (by omega)
set_option maxRecDepth 20000 in
theorem t_firstBadAct (S : fm_S) (n : Nat) (hn : n ≤ 80) (hs : S.1 38 1 = nI n) : mj_big 3 29 [.ref 38] (fm_mk S) (some (.int (sc_fb S.1 (min n 60) (min n 60) 0 0))) (fm_mk S) := by
  have k1 := t_digitAt S ⟨n, hn, hs⟩
  have k2 := t_actLength S ⟨n, hn, hs⟩
  refine mj_ofB _ _ rfl rfl rfl ?_
  refine mj_auto4 [14] 50 rfl ?_
  refine fm_gI fm_s38 rfl rfl rfl ?_
  rw [hs]
  refine mj_auto4 [14] 50 rfl ?_
  refine mj_csB (t_min _ _ _) rfl rfl rfl rfl rfl rfl rfl ?_
  rw [jd_min60 hn]
  refine mj_auto4 [14] 50 rfl ?_
  obtain ⟨q, hq⟩ : ∃ x, x = min n 60 := ⟨_, rfl⟩
  rw [← hq]
  have lp : ∀ (m p : Nat) (mi : Int32), p + m = q → mj_Rn 2 (some .int) kX5_firstBadAct (fun v g => v = some (.int (sc_fb S.1 q m p mi)) ∧ g = fm_mk S) (fm_mk S) 14 [some (.ref 38), some (.int (nI q)), some (.int mi), some (.int (nI p))] [] := by
    intro m
    induction m with
    | zero =>
      intro p mi hp
      obtain rfl : p = q := by omega
      refine mj_begin4 [14] 50 rfl ?_
      refine mj_if rfl rfl (fun c2 => ?_) (fun c2 => absurd (nI_le (Nat.le_refl p) (by omega)) c2)
      repeat' first
        | refine mj_auto4 [14] 80 rfl ?_
        | refine mj_if rfl rfl (fun c1 => ?_) (fun c1 => ?_)
        | refine fm_gR (by first | with_reducible assumption | with_reducible exact fm_s38) rfl rfl rfl ?_
        | refine fm_gI (by first | with_reducible assumption | with_reducible exact fm_s38) rfl rfl rfl ?_
        | refine fm_ld (by first | with_reducible assumption | with_reducible exact fm_s38) rfl (by with_reducible assumption) ?_
        | refine fm_st (by first | with_reducible assumption | with_reducible exact fm_s38) rfl (by with_reducible assumption) ?_
        | refine fm_pI (by first | with_reducible assumption | with_reducible exact fm_s38) rfl rfl rfl rfl ?_
        | refine mj_rt rfl rfl rfl ⟨?_, by with_reducible rfl⟩
        | refine mj_rt rfl rfl rfl ⟨?_, ?_⟩
        | refine mj_rtl rfl rfl ⟨?_, by with_reducible rfl⟩
        | refine mj_rtl rfl rfl ⟨?_, ?_⟩
        | refine mj_rtv rfl rfl ⟨rfl, by with_reducible rfl⟩
        | refine mj_rtv rfl rfl ⟨rfl, ?_⟩
      all_goals (clear hq hs k1 k2; simp [sc_fb, *])
    | succ m ih =>
      intro p mi hp
      have e1 : ¬ nI q ≤ nI p := nI_ge (by omega) (by omega)
      have ih := fun mi => ih (p + 1) mi (by omega)
      simp only [← nI_1] at ih
      refine mj_begin4 [14] 50 rfl ?_
      refine mj_if rfl rfl (fun c2 => absurd c2 e1) (fun c2 => ?_)
      repeat' first
        | refine mj_auto4 [14] 80 rfl ?_
        | refine mj_if rfl rfl (fun c1 => ?_) (fun c1 => ?_)
        | refine mj_cvB (k1 ..) (fm_o (by first | with_reducible assumption | with_reducible exact fm_s38)) rfl rfl rfl rfl rfl ⟨rfl, rfl⟩ rfl ?_
        | refine mj_cvB (k2 ..) (fm_o (by first | with_reducible assumption | with_reducible exact fm_s38)) rfl rfl rfl rfl rfl ⟨rfl, rfl⟩ rfl ?_
      · rw [sc_fb, if_pos (by assumption), if_pos (by assumption)]
        exact ih _
      · rw [sc_fb, if_pos (by assumption), if_neg (by assumption)]
        exact mj_rt rfl rfl rfl ⟨rfl, rfl⟩
      · rw [sc_fb, if_neg (by assumption), if_pos (by assumption)]
        exact ih _
      · rw [sc_fb, if_neg (by assumption), if_neg (by assumption)]
        exact mj_rt rfl rfl rfl ⟨rfl, rfl⟩
  exact lp q 0 0 (by omega)
set_option maxRecDepth 20000 in
theorem t_hclear (S : fm_S) : mj_big 1 3 [.ref 46] (fm_mk S) (some (.int (S.1 46 2))) (fm_mk (fm_u S.1 46 2 0, S.2)) := by
  refine mj_ofB _ _ rfl rfl rfl ?_
  repeat' first
    | refine mj_auto2 [] 80 rfl ?_
    | refine mj_if rfl rfl (fun c1 => ?_) (fun c1 => ?_)
    | refine fm_gR (by first | with_reducible assumption | with_reducible exact fm_s46) rfl rfl rfl ?_
    | refine fm_gI (by first | with_reducible assumption | with_reducible exact fm_s46) rfl rfl rfl ?_
    | refine fm_ld (by first | with_reducible assumption | with_reducible exact fm_s46) rfl (by with_reducible assumption) ?_
    | refine fm_st (by first | with_reducible assumption | with_reducible exact fm_s46) rfl (by with_reducible assumption) ?_
    | refine fm_pI (by first | with_reducible assumption | with_reducible exact fm_s46) rfl rfl rfl rfl ?_
    | refine mj_rt rfl rfl rfl ⟨?_, by with_reducible rfl⟩
    | refine mj_rt rfl rfl rfl ⟨?_, ?_⟩
    | refine mj_rtl rfl rfl ⟨?_, by with_reducible rfl⟩
    | refine mj_rtl rfl rfl ⟨?_, ?_⟩
    | refine mj_rtv rfl rfl ⟨rfl, by with_reducible rfl⟩
    | refine mj_rtv rfl rfl ⟨rfl, ?_⟩
  all_goals rfl
def he_so (M : Nat → Nat → Int32) (b k w : Nat) (v : Int32) : Int32 := match w with
  | 0 => if ¬ M (b + 2) k = v then 0 else 1
  | 1 => if M (b + 1) k < v then 0 else 1
  | 2 => if ¬ wd_rdy M b (nI k) = (if ¬ v = 1 then 0 else 1) then 0 else 1
  | 3 => if ¬ (if 2 * M (b + 1) k < M (b + 2) k then (0 : Int32) else 1) = (if ¬ v = 1 then 0 else 1) then 0 else 1
  | _ => if M (b + 6) k < v then 0 else 1
set_option maxRecDepth 20000 in
theorem t_isSo {b : Nat} (hb : fm_W b) (S : fm_S) (k w : Nat) (hk : k < 8) (hw : w < 5) (v : Int32) : mj_big 3 6 [.ref b, .int (nI k), .int (nI w), .int v] (fm_mk S) (some (.int (he_so S.1 b k w v))) (fm_mk S) := by
  have k1 := t_isReady hb S (nI k)
  have e2 := nI8_in k hk
  have e3 := nI8_tn k hk
  obtain ⟨hb, h0, h1, h2, h3, h4, h5, h6, h7, h8, h9⟩ := hb
  refine mj_ofB _ _ rfl rfl rfl ?_
  refine mj_auto4 [] 50 rfl ?_
  match w, hw with
  | 0, _ =>
    refine mj_swi 36 rfl rfl (by decide +kernel) ?_
    repeat' first
      | refine mj_auto4 [] 80 rfl ?_
      | refine mj_if rfl rfl (fun c1 => ?_) (fun c1 => ?_)
      | refine fm_gR (by with_reducible assumption) rfl rfl rfl ?_
      | refine fm_gI (by with_reducible assumption) rfl rfl rfl ?_
      | refine fm_ld (by with_reducible assumption) rfl (by with_reducible assumption) ?_
      | refine fm_st (by with_reducible assumption) rfl (by with_reducible assumption) ?_
      | refine fm_pI (by with_reducible assumption) rfl rfl rfl rfl ?_
      | refine mj_rt rfl rfl rfl ⟨?_, by with_reducible rfl⟩
      | refine mj_rt rfl rfl rfl ⟨?_, ?_⟩
      | refine mj_rtl rfl rfl ⟨?_, by with_reducible rfl⟩
      | refine mj_rtl rfl rfl ⟨?_, ?_⟩
      | refine mj_rtv rfl rfl ⟨rfl, by with_reducible rfl⟩
      | refine mj_rtv rfl rfl ⟨rfl, ?_⟩
    all_goals (rw [e3] at *; simp [he_so, *])
  | 1, _ =>
    refine mj_swi 52 rfl rfl (by decide +kernel) ?_
    repeat' first
      | refine mj_auto4 [] 80 rfl ?_
      | refine mj_if rfl rfl (fun c1 => ?_) (fun c1 => ?_)
      | refine fm_gR (by with_reducible assumption) rfl rfl rfl ?_
      | refine fm_gI (by with_reducible assumption) rfl rfl rfl ?_
      | refine fm_ld (by with_reducible assumption) rfl (by with_reducible assumption) ?_
      | refine fm_st (by with_reducible assumption) rfl (by with_reducible assumption) ?_
      | refine fm_pI (by with_reducible assumption) rfl rfl rfl rfl ?_
      | refine mj_rt rfl rfl rfl ⟨?_, by with_reducible rfl⟩
      | refine mj_rt rfl rfl rfl ⟨?_, ?_⟩
      | refine mj_rtl rfl rfl ⟨?_, by with_reducible rfl⟩
      | refine mj_rtl rfl rfl ⟨?_, ?_⟩
      | refine mj_rtv rfl rfl ⟨rfl, by with_reducible rfl⟩
      | refine mj_rtv rfl rfl ⟨rfl, ?_⟩
    all_goals (rw [e3] at *; simp [he_so, *])
  | 2, _ =>
    refine mj_swi 68 rfl rfl (by decide +kernel) ?_
    repeat' first
      | refine mj_auto4 [] 80 rfl ?_
      | refine mj_if rfl rfl (fun c1 => ?_) (fun c1 => ?_)
      | refine fm_gR (by with_reducible assumption) rfl rfl rfl ?_
      | refine fm_gI (by with_reducible assumption) rfl rfl rfl ?_
      | refine fm_ld (by with_reducible assumption) rfl (by with_reducible assumption) ?_
      | refine fm_st (by with_reducible assumption) rfl (by with_reducible assumption) ?_
      | refine fm_pI (by with_reducible assumption) rfl rfl rfl rfl ?_
      | refine mj_cvB (k1 ..) (fm_o (by with_reducible assumption)) rfl rfl rfl rfl rfl ⟨rfl, rfl⟩ rfl ?_
      | refine mj_rt rfl rfl rfl ⟨?_, by with_reducible rfl⟩
      | refine mj_rt rfl rfl rfl ⟨?_, ?_⟩
      | refine mj_rtl rfl rfl ⟨?_, by with_reducible rfl⟩
      | refine mj_rtl rfl rfl ⟨?_, ?_⟩
      | refine mj_rtv rfl rfl ⟨rfl, by with_reducible rfl⟩
      | refine mj_rtv rfl rfl ⟨rfl, ?_⟩
    all_goals (first | (simp [he_so, *]; done) | (simp only [Classical.not_not] at *; simp [he_so, *]; done) | (simp_all [he_so]; done))
  | 3, _ =>
    refine mj_swi 92 rfl rfl (by decide +kernel) ?_
    repeat' first
      | refine mj_auto4 [] 80 rfl ?_
      | refine mj_if rfl rfl (fun c1 => ?_) (fun c1 => ?_)
      | refine fm_gR (by with_reducible assumption) rfl rfl rfl ?_
      | refine fm_gI (by with_reducible assumption) rfl rfl rfl ?_
      | refine fm_ld (by with_reducible assumption) rfl (by with_reducible assumption) ?_
      | refine fm_st (by with_reducible assumption) rfl (by with_reducible assumption) ?_
      | refine fm_pI (by with_reducible assumption) rfl rfl rfl rfl ?_
      | refine mj_rt rfl rfl rfl ⟨?_, by with_reducible rfl⟩
      | refine mj_rt rfl rfl rfl ⟨?_, ?_⟩
      | refine mj_rtl rfl rfl ⟨?_, by with_reducible rfl⟩
      | refine mj_rtl rfl rfl ⟨?_, ?_⟩
      | refine mj_rtv rfl rfl ⟨rfl, by with_reducible rfl⟩
      | refine mj_rtv rfl rfl ⟨rfl, ?_⟩
    all_goals (rw [e3] at *; simp [he_so, *]; try simp_all)
  | 4, _ =>
    refine mj_swi 133 rfl rfl (by decide +kernel) ?_
    repeat' first
      | refine mj_auto4 [] 80 rfl ?_
      | refine mj_if rfl rfl (fun c1 => ?_) (fun c1 => ?_)
      | refine fm_gR (by with_reducible assumption) rfl rfl rfl ?_
      | refine fm_gI (by with_reducible assumption) rfl rfl rfl ?_
      | refine fm_ld (by with_reducible assumption) rfl (by with_reducible assumption) ?_
      | refine fm_st (by with_reducible assumption) rfl (by with_reducible assumption) ?_
      | refine fm_pI (by with_reducible assumption) rfl rfl rfl rfl ?_
      | refine mj_rt rfl rfl rfl ⟨?_, by with_reducible rfl⟩
      | refine mj_rt rfl rfl rfl ⟨?_, ?_⟩
      | refine mj_rtl rfl rfl ⟨?_, by with_reducible rfl⟩
      | refine mj_rtl rfl rfl ⟨?_, ?_⟩
      | refine mj_rtv rfl rfl ⟨rfl, by with_reducible rfl⟩
      | refine mj_rtv rfl rfl ⟨rfl, ?_⟩
    all_goals (rw [e3] at *; simp [he_so, *])
def he_ws (M : Nat → Nat → Int32) (b : Nat) (s : Int32) (w : Nat) (v : Int32) : Nat → Int32
  | 0 => 0
  | k + 1 => if s >>> (nI k &&& 31) &&& 1 = 0 then he_ws M b s w v k else if he_so M b k w v = 0 then he_ws M b s w v k else he_ws M b s w v k ||| 1 <<< (nI k &&& 31)
set_option maxRecDepth 20000 in
theorem t_whereSo {b : Nat} (hb : fm_W b) (S : fm_S) (s : Int32) (w : Nat) (hw : w < 5) (x : Int32) : mj_big 4 5 [.ref b, .int s, .int (nI w), .int x] (fm_mk S) (some (.int (he_ws S.1 b s w x 8))) (fm_mk S) := by
  have k0 := fun k hk => t_isSo hb S k w hk hw x
  refine mj_ofB _ _ rfl rfl rfl ?_
  obtain ⟨res, hres⟩ : ∃ z9, z9 = he_ws S.1 b s w x 8 := ⟨_, rfl⟩
  rw [← hres]
  have lp : ∀ (n k : Nat), k + n = 8 → mj_Rn 3 (some .int) kX1_whereSo (fun v g => v = some (.int res) ∧ g = fm_mk S) (fm_mk S) 6 [some (.ref b), some (.int s), some (.int (nI w)), some (.int x), some (.int (he_ws S.1 b s w x k)), some (.int (nI k))] [] := by
    intro n
    induction n with
    | zero =>
      intro k  hk
      obtain rfl : k = 8 := by omega
      refine mj_begin6 [6] 80 rfl ?_
      refine mj_if rfl rfl (fun c1 => ?_) (fun c1 => absurd (by decide) c1)
      repeat' first
        | refine mj_auto6 [6] 80 rfl ?_
        | refine mj_if rfl rfl (fun c1 => ?_) (fun c1 => ?_)
        | refine fm_gR (by with_reducible assumption) rfl rfl rfl ?_
        | refine fm_gI (by with_reducible assumption) rfl rfl rfl ?_
        | refine fm_ld (by with_reducible assumption) rfl (by with_reducible assumption) ?_
        | refine fm_st (by with_reducible assumption) rfl (by with_reducible assumption) ?_
        | refine fm_pI (by with_reducible assumption) rfl rfl rfl rfl ?_
        | refine mj_rt rfl rfl rfl ⟨?_, by with_reducible rfl⟩
        | refine mj_rt rfl rfl rfl ⟨?_, ?_⟩
        | refine mj_rtl rfl rfl ⟨?_, by with_reducible rfl⟩
        | refine mj_rtl rfl rfl ⟨?_, ?_⟩
        | refine mj_rtv rfl rfl ⟨rfl, by with_reducible rfl⟩
        | refine mj_rtv rfl rfl ⟨rfl, ?_⟩
      all_goals first | rfl | (rw [hres]; done) | (simp [he_ws])
    | succ n ih =>
      intro k  hk
      clear hres
      have hk8 : k < 8 := by omega
      have e1 := nI8_lt k hk8
      have e2 := nI8_in k hk8
      have e3 := nI8_tn k hk8
      have k1 := k0 k hk8
      have ih := ih (k + 1) (by omega)
      rw [← nI_1] at ih
      refine mj_begin6 [6] 80 rfl ?_
      repeat' first
        | refine mj_auto6 [6] 80 rfl ?_
        | refine mj_if rfl rfl (fun c1 => ?_) (fun c1 => ?_)
        | refine mj_csB (k1 ..) rfl rfl rfl rfl rfl rfl rfl ?_
      all_goals first
        | exact absurd (by assumption) e1
        | (rw [e3] at *; simp only [he_ws, if_pos, if_neg, *, not_false_eq_true] at ih; exact ih)
        | (rw [e3] at *; rw [he_ws] at ih; (repeat' split at ih) <;> first | exact ih | contradiction)
        | (rw [he_ws] at ih; (repeat' split at ih) <;> first | exact ih | contradiction)
  refine mj_auto6 [6] 50 rfl ?_
  exact lp 8 0 rfl
def he_fit (M : Nat → Nat → Int32) (b : Nat) : Nat → Int32
  | 0 => wd_thereSet M b 8
  | k + 1 => he_ws M b (he_fit M b k) (M 47 k).toNatClampNeg (M 48 k) 8
set_option maxRecDepth 20000 in
theorem t_fitting {b : Nat} (hb : fm_W b) (S : fm_S) (n : Nat) (hn : n ≤ 12) (hs : S.1 46 2 = nI n) (hwh : ∀ k, k < n → ∃ w, w < 5 ∧ S.1 47 k = nI w) : mj_big 5 4 [.ref 46, .ref b] (fm_mk S) (some (.int (he_fit S.1 b n))) (fm_mk S) := by
  have k0 := t_thereSet hb S
  have k1 := fun s w hw x => t_whereSo hb S s w hw x
  refine mj_ofB _ _ rfl rfl rfl ?_
  obtain ⟨res, hres⟩ : ∃ x, x = he_fit S.1 b n := ⟨_, rfl⟩
  rw [← hres]
  have lp : ∀ (m k : Nat), k + m = n → mj_Rn 4 (some .int) kX1_fitting (fun v g => v = some (.int res) ∧ g = fm_mk S) (fm_mk S) 7 [some (.ref 46), some (.ref b), some (.int (he_fit S.1 b k)), some (.int (nI k))] [] := by
    intro m
    induction m with
    | zero =>
      intro k hk
      obtain rfl : k = n := by omega
      refine mj_begin4 [7] 50 rfl ?_
      refine fm_gI fm_s46 rfl rfl rfl ?_
      rw [hs]
      refine mj_if rfl rfl (fun c2 => ?_) (fun c2 => absurd (nI_le (Nat.le_refl k) (by omega)) c2)
      refine mj_auto4 [7] 50 rfl ?_
      exact mj_rt rfl rfl rfl ⟨by rw [hres], rfl⟩
    | succ m ih =>
      intro k hk
      have e1 : ¬ nI n ≤ nI k := nI_ge (by omega) (by omega)
      have e2 : vp_in (nI k) 12 := in_nI (by omega) (by omega)
      have e3 : (nI k).toNatClampNeg = k := nI_clamp (by omega)
      have ih := ih (k + 1) (by omega)
      rw [← nI_1] at ih
      obtain ⟨w, hw, hwe⟩ := hwh k (by omega)
      refine mj_begin4 [7] 50 rfl ?_
      refine fm_gI fm_s46 rfl rfl rfl ?_
      rw [hs]
      refine mj_if rfl rfl (fun c2 => absurd c2 e1) (fun c2 => ?_)
      refine mj_auto4 [7] 50 rfl ?_
      refine fm_gR fm_s46 rfl rfl rfl ?_
      refine mj_auto4 [7] 50 rfl ?_
      refine fm_ld fm_s47 rfl e2 ?_
      refine mj_auto4 [7] 50 rfl ?_
      refine fm_gR fm_s46 rfl rfl rfl ?_
      refine mj_auto4 [7] 50 rfl ?_
      refine fm_ld fm_s48 rfl e2 ?_
      rw [e3, hwe]
      refine mj_csB (k1 _ w hw _) rfl rfl rfl rfl rfl rfl rfl ?_
      refine mj_auto4 [7] 50 rfl ?_
      rw [he_fit, hwe, nI_clamp (by omega)] at ih
      exact ih
  refine mj_auto4 [7] 50 rfl ?_
  refine mj_cvB k0 (fm_o hb.1) rfl rfl rfl rfl rfl ⟨rfl, rfl⟩ rfl ?_
  refine mj_auto4 [7] 50 rfl ?_
  exact lp n 0 (by omega)
