/-! the reference -/
def fm_N (p : Nat) : Prop := fm_sh p = .inl (0, 43)
theorem fm_N220 : fm_N 220 := fm_s220
theorem fm_N226 : fm_N 226 := fm_s226
theorem fm_N227 : fm_N 227 := fm_s227
theorem ix8 (k : Nat) : (8 : Int32) + nI k = nI (8 + k) := nI_add 8 k
theorem ix16 (k : Nat) : (16 : Int32) + nI k = nI (16 + k) := nI_add 16 k
theorem ix24 (k : Nat) : (24 : Int32) + nI k = nI (24 + k) := nI_add 24 k
theorem ix32 (k : Nat) : (32 : Int32) + nI k = nI (32 + k) := nI_add 32 k
theorem in43 {k : Nat} (h : k < 43) : vp_in (nI k) 43 := in_nI h (by decide)
theorem tn43 {k : Nat} (h : k < 43) : (nI k).toNatClampNeg = k := nI_clamp (by omega)
theorem i8 {k : Nat} (h : k < 8) : vp_in ((8 : Int32) + nI k) 43 := by rw [ix8]; exact in43 (by omega)
theorem i16 {k : Nat} (h : k < 8) : vp_in ((16 : Int32) + nI k) 43 := by rw [ix16]; exact in43 (by omega)
theorem i24 {k : Nat} (h : k < 8) : vp_in ((24 : Int32) + nI k) 43 := by rw [ix24]; exact in43 (by omega)
theorem i32x {k : Nat} (h : k < 8) : vp_in ((32 : Int32) + nI k) 43 := by rw [ix32]; exact in43 (by omega)
theorem v8 {k : Nat} (h : k < 8) : ((8 : Int32) + nI k).toNatClampNeg = 8 + k := by rw [ix8]; exact tn43 (by omega)
theorem v16 {k : Nat} (h : k < 8) : ((16 : Int32) + nI k).toNatClampNeg = 16 + k := by rw [ix16]; exact tn43 (by omega)
theorem v24 {k : Nat} (h : k < 8) : ((24 : Int32) + nI k).toNatClampNeg = 24 + k := by rw [ix24]; exact tn43 (by omega)
theorem v32 {k : Nat} (h : k < 8) : ((32 : Int32) + nI k).toNatClampNeg = 32 + k := by rw [ix32]; exact tn43 (by omega)
def md_in (v l h : Int32) : Int32 := if v < l then 0 else if h < v then 0 else 1
set_option maxRecDepth 20000 in
theorem t_min3 (h : mj_H) (v l u : Int32) : mj_big 1 132 [.int v, .int l, .int u] h (some (.int (md_in v l u))) h := by
  refine mj_ofB _ _ rfl rfl rfl ?_
  repeat' first
    | refine mj_auto3 [] 80 rfl ?_
    | refine mj_if rfl rfl (fun c1 => ?_) (fun c1 => ?_)
    | refine mj_rt rfl rfl rfl ⟨?_, by with_reducible rfl⟩
    | refine mj_rt rfl rfl rfl ⟨?_, ?_⟩
    | refine mj_rtl rfl rfl ⟨?_, by with_reducible rfl⟩
    | refine mj_rtl rfl rfl ⟨?_, ?_⟩
    | refine mj_rtv rfl rfl ⟨rfl, by with_reducible rfl⟩
    | refine mj_rtv rfl rfl ⟨rfl, ?_⟩
  all_goals simp [md_in, *]
def md_has (b k : Int32) : Int32 := if ¬ b >>> (k &&& 31) &&& 1 = 1 then 0 else 1
set_option maxRecDepth 20000 in
theorem t_mhas (h : mj_H) (b k : Int32) : mj_big 1 133 [.int b, .int k] h (some (.int (md_has b k))) h := by
  refine mj_ofB _ _ rfl rfl rfl ?_
  repeat' first
    | refine mj_auto2 [] 80 rfl ?_
    | refine mj_if rfl rfl (fun c1 => ?_) (fun c1 => ?_)
    | refine mj_rt rfl rfl rfl ⟨?_, by with_reducible rfl⟩
    | refine mj_rt rfl rfl rfl ⟨?_, ?_⟩
    | refine mj_rtl rfl rfl ⟨?_, by with_reducible rfl⟩
    | refine mj_rtl rfl rfl ⟨?_, ?_⟩
    | refine mj_rtv rfl rfl ⟨rfl, by with_reducible rfl⟩
    | refine mj_rtv rfl rfl ⟨rfl, ?_⟩
  all_goals simp [md_has, *]
set_option maxRecDepth 20000 in
theorem t_mthrown (S : fm_S) : mj_big 1 131 [.ref 219] (fm_mk S) (some (.int (S.1 219 5))) (fm_mk S) := by
  refine mj_ofB _ _ rfl rfl rfl ?_
  repeat' first
    | refine mj_auto1 [] 80 rfl ?_
    | refine mj_if rfl rfl (fun c1 => ?_) (fun c1 => ?_)
    | refine fm_gR (by first | with_reducible assumption | with_reducible exact fm_s219) rfl rfl rfl ?_
    | refine fm_gI (by first | with_reducible assumption | with_reducible exact fm_s219) rfl rfl rfl ?_
    | refine fm_ld (by first | with_reducible assumption | with_reducible exact fm_s219) rfl (by with_reducible assumption) ?_
    | refine fm_st (by first | with_reducible assumption | with_reducible exact fm_s219) rfl (by with_reducible assumption) ?_
    | refine fm_pI (by first | with_reducible assumption | with_reducible exact fm_s219) rfl rfl rfl rfl ?_
    | refine mj_rt rfl rfl rfl ⟨?_, by with_reducible rfl⟩
    | refine mj_rt rfl rfl rfl ⟨?_, ?_⟩
    | refine mj_rtl rfl rfl ⟨?_, by with_reducible rfl⟩
    | refine mj_rtl rfl rfl ⟨?_, ?_⟩
    | refine mj_rtv rfl rfl ⟨rfl, by with_reducible rfl⟩
    | refine mj_rtv rfl rfl ⟨rfl, ?_⟩
  all_goals rfl
set_option maxRecDepth 20000 in
theorem t_mlost (S : fm_S) : mj_big 1 134 [.ref 219] (fm_mk S) (some (.int 0)) (fm_mk (fm_u S.1 219 5 1, S.2)) := by
  refine mj_ofB _ _ rfl rfl rfl ?_
  repeat' first
    | refine mj_auto1 [] 80 rfl ?_
    | refine mj_if rfl rfl (fun c1 => ?_) (fun c1 => ?_)
    | refine fm_gR (by first | with_reducible assumption | with_reducible exact fm_s219) rfl rfl rfl ?_
    | refine fm_gI (by first | with_reducible assumption | with_reducible exact fm_s219) rfl rfl rfl ?_
    | refine fm_ld (by first | with_reducible assumption | with_reducible exact fm_s219) rfl (by with_reducible assumption) ?_
    | refine fm_st (by first | with_reducible assumption | with_reducible exact fm_s219) rfl (by with_reducible assumption) ?_
    | refine fm_pI (by first | with_reducible assumption | with_reducible exact fm_s219) rfl rfl rfl rfl ?_
    | refine mj_rt rfl rfl rfl ⟨?_, by with_reducible rfl⟩
    | refine mj_rt rfl rfl rfl ⟨?_, ?_⟩
    | refine mj_rtl rfl rfl ⟨?_, by with_reducible rfl⟩
    | refine mj_rtl rfl rfl ⟨?_, ?_⟩
    | refine mj_rtv rfl rfl ⟨rfl, by with_reducible rfl⟩
    | refine mj_rtv rfl rfl ⟨rfl, ?_⟩
  all_goals rfl
def md_tell (S : fm_S) (v : Int64) : fm_S := (fm_u S.1 219 4 (S.1 219 4 + 1), fm_ul S.2.1 222 (S.1 219 4).toNatClampNeg v, S.2.2)
set_option maxRecDepth 20000 in
theorem t_mtell (S : fm_S) (n : Nat) (hn : n < 16) (hs : S.1 219 4 = nI n) (v : Int64) : mj_big 1 135 [.ref 219, .long v] (fm_mk S) none (fm_mk (md_tell S v)) := by
  have hin : vp_in (S.1 219 4) 16 := by rw [hs]; exact in_nI hn (by omega)
  obtain ⟨M, ML, R⟩ := S
  refine mj_ofB _ _ rfl rfl rfl ?_
  repeat' first
    | refine mj_auto3 [] 80 rfl ?_
    | refine mj_if rfl rfl (fun c1 => ?_) (fun c1 => ?_)
    | refine fn_gR (by first | with_reducible assumption | with_reducible exact fm_s219 | with_reducible exact fm_s222) rfl rfl rfl ?_
    | refine fn_gI (by first | with_reducible assumption | with_reducible exact fm_s219 | with_reducible exact fm_s222) rfl rfl rfl ?_
    | refine fn_ld (by first | with_reducible assumption | with_reducible exact fm_s219 | with_reducible exact fm_s222) rfl (by with_reducible assumption) ?_
    | refine fn_st (by first | with_reducible assumption | with_reducible exact fm_s219 | with_reducible exact fm_s222) rfl (by with_reducible assumption) ?_
    | refine fn_pI (by first | with_reducible assumption | with_reducible exact fm_s219 | with_reducible exact fm_s222) rfl rfl rfl rfl ?_
    | refine fn_gL (by first | with_reducible assumption | with_reducible exact fm_s219 | with_reducible exact fm_s222) rfl rfl rfl ?_
    | refine fn_pL (by first | with_reducible assumption | with_reducible exact fm_s219 | with_reducible exact fm_s222) rfl rfl rfl rfl ?_
    | refine fn_ldl (by first | with_reducible assumption | with_reducible exact fm_s219 | with_reducible exact fm_s222) rfl (by with_reducible assumption) ?_
    | refine fn_stl (by first | with_reducible assumption | with_reducible exact fm_s219 | with_reducible exact fm_s222) rfl (by with_reducible assumption) ?_
    | refine mj_rt rfl rfl rfl ⟨?_, by with_reducible rfl⟩
    | refine mj_rt rfl rfl rfl ⟨?_, ?_⟩
    | refine mj_rtl rfl rfl ⟨?_, by with_reducible rfl⟩
    | refine mj_rtl rfl rfl ⟨?_, ?_⟩
    | refine mj_rtv rfl rfl ⟨rfl, by with_reducible rfl⟩
    | refine mj_rtv rfl rfl ⟨rfl, ?_⟩
  all_goals rfl
def md_th (a : Nat → Int32) (k : Nat) : Int32 := if a k ≤ 0 then 0 else 1
set_option maxRecDepth 20000 in
theorem t_mthere {p : Nat} (hp : fm_N p) (S : fm_S) (k : Nat) (hk : k < 8) : mj_big 1 136 [.ref p, .int (nI k)] (fm_mk S) (some (.int (md_th (S.1 p) k))) (fm_mk S) := by
  have e2 : vp_in (nI k) 43 := in43 (by omega)
  have e3 := nI8_tn k hk
  unfold fm_N at hp
  refine mj_ofB _ _ rfl rfl rfl ?_
  repeat' first
    | refine mj_auto2 [] 80 rfl ?_
    | refine mj_if rfl rfl (fun c1 => ?_) (fun c1 => ?_)
    | refine fm_gR (by with_reducible assumption) rfl rfl rfl ?_
    | refine fm_gI (by with_reducible assumption) rfl rfl rfl ?_
    | refine fm_ld (by with_reducible assumption) rfl (by with_reducible assumption) ?_
    | refine fm_st (by with_reducible assumption) rfl (by with_reducible assumption) ?_
    | refine fm_pI (by with_reducible assumption) rfl rfl rfl rfl ?_
    | refine mj_rt rfl rfl rfl ⟨?_, by with_reducible rfl⟩
    | refine mj_rt rfl rfl rfl ⟨?_, ?_⟩
    | refine mj_rtl rfl rfl ⟨?_, by with_reducible rfl⟩
    | refine mj_rtl rfl rfl ⟨?_, ?_⟩
    | refine mj_rtv rfl rfl ⟨rfl, by with_reducible rfl⟩
    | refine mj_rtv rfl rfl ⟨rfl, ?_⟩
  all_goals (rw [e3] at *; simp [md_th, *])
def md_task (a : Nat → Int32) (q : Int32) : Int32 := if md_in q 0 7 = 0 then 0 else if md_th a q.toNatClampNeg = 0 then 0 else 1
theorem md_in7 {q : Int32} (h : ¬ md_in q 0 7 = 0) : ∃ k, k < 8 ∧ q = nI k := by
  unfold md_in at h
  by_cases h1 : q < 0
  · rw [if_pos h1] at h; exact absurd rfl h
  · rw [if_neg h1] at h
    by_cases h2 : 7 < q
    · rw [if_pos h2] at h; exact absurd rfl h
    · obtain ⟨j, hj, e⟩ := nI_of2 (M := 7) (n := 7) rfl h1 (Int32.not_lt.mp h2)
      exact ⟨j, by omega, e⟩
set_option maxRecDepth 20000 in
theorem t_mtask (S : fm_S) (q : Int32) : mj_big 2 137 [.ref 219, .int q] (fm_mk S) (some (.int (md_task (S.1 220) q))) (fm_mk S) := by
  refine mj_ofB _ _ rfl rfl rfl ?_
  refine mj_auto2 [] 50 rfl ?_
  refine mj_csB (t_min3 _ _ _ _) rfl rfl rfl rfl rfl rfl rfl ?_
  refine mj_if rfl rfl (fun c => ?_) (fun c => ?_)
  · refine mj_auto2 [] 50 rfl ?_
    exact mj_rt rfl rfl rfl ⟨by rw [md_task, if_pos c], rfl⟩
  obtain ⟨k, hk, rfl⟩ := md_in7 c
  have k1 := t_mthere fm_N220 S k hk
  refine mj_auto2 [] 50 rfl ?_
  refine fm_gR fm_s219 rfl rfl rfl ?_
  refine mj_auto2 [] 50 rfl ?_
  refine mj_csB k1 rfl rfl rfl rfl rfl rfl rfl ?_
  refine mj_if rfl rfl (fun c2 => ?_) (fun c2 => ?_)
  · refine mj_auto2 [] 50 rfl ?_
    exact mj_rt rfl rfl rfl ⟨by rw [md_task, if_neg c, nI8_tn k hk, if_pos c2], rfl⟩
  · refine mj_auto2 [] 50 rfl ?_
    exact mj_rt rfl rfl rfl ⟨by rw [md_task, if_neg c, nI8_tn k hk, if_neg c2], rfl⟩
def md_thereOf (a : Nat → Int32) : Nat → Int32
  | 0 => 0
  | k + 1 => if md_th a k = 0 then md_thereOf a k ||| 0 else md_thereOf a k ||| 1 <<< (nI k &&& 31)
set_option maxRecDepth 20000 in
theorem t_mthereOf {p : Nat} (hp : fm_N p) (S : fm_S) : mj_big 2 138 [.ref p] (fm_mk S) (some (.int (md_thereOf (S.1 p) 8))) (fm_mk S) := by
  have k0 := fun k hk => t_mthere hp S k hk
  refine mj_ofB _ _ rfl rfl rfl ?_
  obtain ⟨res, hres⟩ : ∃ z9, z9 = md_thereOf (S.1 p) 8 := ⟨_, rfl⟩
  rw [← hres]
  have lp : ∀ (n k : Nat), k + n = 8 → mj_Rn 1 (some .int) kX11_thereOf (fun v g => v = some (.int res) ∧ g = fm_mk S) (fm_mk S) 4 [some (.ref p), some (.int (md_thereOf (S.1 p) k)), some (.int (nI k))] [] := by
    intro n
    induction n with
    | zero =>
      intro k  hk
      obtain rfl : k = 8 := by omega
      refine mj_begin3 [4] 80 rfl ?_
      refine mj_if rfl rfl (fun c1 => ?_) (fun c1 => absurd (by decide) c1)
      repeat' first
        | refine mj_auto3 [4] 80 rfl ?_
        | refine mj_if rfl rfl (fun c1 => ?_) (fun c1 => ?_)
        | refine fm_gR (by with_reducible assumption) rfl rfl rfl ?_
        | refine fm_gI (by with_reducible assumption) rfl rfl rfl ?_
        | refine fm_ld (by with_reducible assumption) rfl (by with_reducible assumption) ?_
        | refine fm_st (by with_reducible assumption) rfl (by with_reducible assumption) ?_
        | refine fm_pI (by with_reducible assumption) rfl rfl rfl rfl ?_
        | refine mj_rt rfl rfl rfl ⟨?_, by with_reducible rfl⟩
        | refine mj_rt rfl rfl rfl ⟨?_, ?_⟩
        | refine mj_rtl rfl rfl ⟨?_, by with_reducible rfl⟩
        | refine mj_rtl rfl rfl ⟨?_, ?_⟩
        | refine mj_rtv rfl rfl ⟨rfl, by with_reducible rfl⟩
        | refine mj_rtv rfl rfl ⟨rfl, ?_⟩
      all_goals first | rfl | (rw [hres]; done) | (simp [md_thereOf])
    | succ n ih =>
      intro k  hk
      clear hres
      have hk8 : k < 8 := by omega
      have e1 := nI8_lt k hk8
      have e2 := nI8_in k hk8
      have e3 := nI8_tn k hk8
      have k1 := k0 k hk8
      have ih := ih (k + 1) (by omega)
      rw [← nI_1] at ih
      refine mj_begin3 [4] 80 rfl ?_
      repeat' first
        | refine mj_auto3 [4] 80 rfl ?_
        | refine mj_if rfl rfl (fun c1 => ?_) (fun c1 => ?_)
        | refine mj_csB (k1 ..) rfl rfl rfl rfl rfl rfl rfl ?_
      all_goals first
        | exact absurd (by assumption) e1
        | (rw [e3] at *; simp only [md_thereOf, if_pos, if_neg, *, not_false_eq_true] at ih; exact ih)
        | (rw [e3] at *; rw [md_thereOf] at ih; (repeat' split at ih) <;> first | exact ih | contradiction)
        | (rw [md_thereOf] at ih; (repeat' split at ih) <;> first | exact ih | contradiction)
  refine mj_auto3 [4] 50 rfl ?_
  exact lp 8 0 rfl
def md_rel (a : Nat → Int32) (k : Nat) (i : Int32) : Int32 := a (16 + k) + (i - 1) * a (8 + k) / a k
def md_dl (a : Nat → Int32) (k : Nat) (i : Int32) : Int32 := a (16 + k) + (i * a (8 + k) + a k - 1) / a k
def md_ov (a : Nat → Int32) (k : Nat) (i : Int32) : Int32 := if i_rem (i * a (8 + k)) (a k) = 0 then 0 else 1
def md_len (a : Nat → Int32) (k : Nat) (i : Int32) : Int32 := md_dl a k i - md_rel a k i
set_option maxRecDepth 20000 in
theorem t_mrel {p : Nat} (hp : fm_N p) (S : fm_S) (k : Nat) (hk : k < 8) (h0 : ¬ S.1 p k = 0) (i : Int32) : mj_big 1 142 [.ref p, .int (nI k), .int i] (fm_mk S) (some (.int (md_rel (S.1 p) k i))) (fm_mk S) := by
  have e2 : vp_in (nI k) 43 := in43 (by omega)
  have e8 := i8 hk
  have e16 := i16 hk
  have h0' : ¬ S.1 p (nI k).toNatClampNeg = 0 := by rw [nI8_tn k hk]; exact h0
  unfold fm_N at hp
  refine mj_ofB _ _ rfl rfl rfl ?_
  repeat' first
    | refine mj_auto3 [] 80 rfl ?_
    | refine mj_if rfl rfl (fun c1 => ?_) (fun c1 => ?_)
    | refine fm_gR (by with_reducible assumption) rfl rfl rfl ?_
    | refine fm_gI (by with_reducible assumption) rfl rfl rfl ?_
    | refine fm_ld (by with_reducible assumption) rfl (by with_reducible assumption) ?_
    | refine fm_st (by with_reducible assumption) rfl (by with_reducible assumption) ?_
    | refine fm_pI (by with_reducible assumption) rfl rfl rfl rfl ?_
    | refine mj_div rfl rfl (by assumption) ?_
    | refine mj_rt rfl rfl rfl ⟨?_, by with_reducible rfl⟩
    | refine mj_rt rfl rfl rfl ⟨?_, ?_⟩
    | refine mj_rtl rfl rfl ⟨?_, by with_reducible rfl⟩
    | refine mj_rtl rfl rfl ⟨?_, ?_⟩
    | refine mj_rtv rfl rfl ⟨rfl, by with_reducible rfl⟩
    | refine mj_rtv rfl rfl ⟨rfl, ?_⟩
  rw [v16 hk, v8 hk, nI8_tn k hk, md_rel]
set_option maxRecDepth 20000 in
theorem t_mdl {p : Nat} (hp : fm_N p) (S : fm_S) (k : Nat) (hk : k < 8) (h0 : ¬ S.1 p k = 0) (i : Int32) : mj_big 1 143 [.ref p, .int (nI k), .int i] (fm_mk S) (some (.int (md_dl (S.1 p) k i))) (fm_mk S) := by
  have e2 : vp_in (nI k) 43 := in43 (by omega)
  have e8 := i8 hk
  have e16 := i16 hk
  have h0' : ¬ S.1 p (nI k).toNatClampNeg = 0 := by rw [nI8_tn k hk]; exact h0
  unfold fm_N at hp
  refine mj_ofB _ _ rfl rfl rfl ?_
  repeat' first
    | refine mj_auto3 [] 80 rfl ?_
    | refine mj_if rfl rfl (fun c1 => ?_) (fun c1 => ?_)
    | refine fm_gR (by with_reducible assumption) rfl rfl rfl ?_
    | refine fm_gI (by with_reducible assumption) rfl rfl rfl ?_
    | refine fm_ld (by with_reducible assumption) rfl (by with_reducible assumption) ?_
    | refine fm_st (by with_reducible assumption) rfl (by with_reducible assumption) ?_
    | refine fm_pI (by with_reducible assumption) rfl rfl rfl rfl ?_
    | refine mj_div rfl rfl (by assumption) ?_
    | refine mj_rt rfl rfl rfl ⟨?_, by with_reducible rfl⟩
    | refine mj_rt rfl rfl rfl ⟨?_, ?_⟩
    | refine mj_rtl rfl rfl ⟨?_, by with_reducible rfl⟩
    | refine mj_rtl rfl rfl ⟨?_, ?_⟩
    | refine mj_rtv rfl rfl ⟨rfl, by with_reducible rfl⟩
    | refine mj_rtv rfl rfl ⟨rfl, ?_⟩
  rw [v16 hk, v8 hk, nI8_tn k hk, md_dl]
set_option maxRecDepth 20000 in
theorem t_mov {p : Nat} (hp : fm_N p) (S : fm_S) (k : Nat) (hk : k < 8) (h0 : ¬ S.1 p k = 0) (i : Int32) : mj_big 1 144 [.ref p, .int (nI k), .int i] (fm_mk S) (some (.int (md_ov (S.1 p) k i))) (fm_mk S) := by
  have e2 : vp_in (nI k) 43 := in43 (by omega)
  have e8 := i8 hk
  have e3 := nI8_tn k hk
  have h0' : ¬ S.1 p (nI k).toNatClampNeg = 0 := by rw [nI8_tn k hk]; exact h0
  have w8 := v8 hk
  unfold fm_N at hp
  refine mj_ofB _ _ rfl rfl rfl ?_
  repeat' first
    | refine mj_auto3 [] 80 rfl ?_
    | refine mj_if rfl rfl (fun c1 => ?_) (fun c1 => ?_)
    | refine fm_gR (by with_reducible assumption) rfl rfl rfl ?_
    | refine fm_gI (by with_reducible assumption) rfl rfl rfl ?_
    | refine fm_ld (by with_reducible assumption) rfl (by with_reducible assumption) ?_
    | refine fm_st (by with_reducible assumption) rfl (by with_reducible assumption) ?_
    | refine fm_pI (by with_reducible assumption) rfl rfl rfl rfl ?_
    | refine mj_div rfl rfl (by assumption) ?_
  · rw [w8, e3] at c1
    exact mj_rt rfl rfl rfl ⟨by rw [md_ov, i_rem, if_pos c1], rfl⟩
  · rw [w8, e3] at c1
    exact mj_rt rfl rfl rfl ⟨by rw [md_ov, i_rem, if_neg c1], rfl⟩
set_option maxRecDepth 20000 in
theorem t_mlen {p : Nat} (hp : fm_N p) (S : fm_S) (k : Nat) (hk : k < 8) (h0 : ¬ S.1 p k = 0) (i : Int32) : mj_big 2 145 [.ref p, .int (nI k), .int i] (fm_mk S) (some (.int (md_len (S.1 p) k i))) (fm_mk S) := by
  have k1 := t_mdl hp S k hk h0 i
  have k2 := t_mrel hp S k hk h0 i
  refine mj_ofB _ _ rfl rfl rfl ?_
  repeat' first
    | refine mj_auto3 [] 80 rfl ?_
    | refine mj_if rfl rfl (fun c1 => ?_) (fun c1 => ?_)
    | refine mj_csB (k1 ..) rfl rfl rfl rfl rfl rfl rfl ?_
    | refine mj_csB (k2 ..) rfl rfl rfl rfl rfl rfl rfl ?_
    | refine mj_rt rfl rfl rfl ⟨?_, by with_reducible rfl⟩
    | refine mj_rt rfl rfl rfl ⟨?_, ?_⟩
    | refine mj_rtl rfl rfl ⟨?_, by with_reducible rfl⟩
    | refine mj_rtl rfl rfl ⟨?_, ?_⟩
    | refine mj_rtv rfl rfl ⟨rfl, by with_reducible rfl⟩
    | refine mj_rtv rfl rfl ⟨rfl, ?_⟩
  rfl
def md_gl (a : Nat → Int32) (k : Nat) (fr : Int32) : Nat → Int32 → Option Int32
  | 0, _ => none
  | n + 1, j => if ¬ md_len a k j = 3 then (if ¬ md_ov a k j = 0 then md_gl a k fr n (j + 1) else some (md_dl a k j)) else if md_dl a k j - 1 < fr then (if ¬ md_ov a k j = 0 then md_gl a k fr n (j + 1) else some (md_dl a k j)) else some (md_dl a k j - 1)
def md_gok (a : Nat → Int32) (k : Nat) (i : Int32) : Prop := a (8 + k) ≤ 2 * a k → (md_gl a k (md_dl a k i) 13 i).isSome = true
def md_gp (a : Nat → Int32) (k : Nat) (i : Int32) : Int32 := if a (8 + k) ≤ 2 * a k then (md_gl a k (md_dl a k i) 13 i).getD 0 else 0
set_option maxRecDepth 20000 in
theorem t_mgroup {p : Nat} (hp : fm_N p) (S : fm_S) (k : Nat) (hk : k < 8) (h0 : ¬ S.1 p k = 0) (i : Int32) (hg : md_gok (S.1 p) k i) : mj_big 3 146 [.ref p, .int (nI k), .int i] (fm_mk S) (some (.int (md_gp (S.1 p) k i))) (fm_mk S) := by
  have k1 := fun i => t_mdl hp S k hk h0 i
  have k2 := fun i => t_mlen hp S k hk h0 i
  have k3 := fun i => t_mov hp S k hk h0 i
  have e2 : vp_in (nI k) 43 := in43 (by omega)
  have e8 := i8 hk
  unfold fm_N at hp
  refine mj_ofB _ _ rfl rfl rfl ?_
  have lp : ∀ (n : Nat) (j : Int32) (u : Option Value) (fr r : Int32), md_gl (S.1 p) k fr n j = some r → mj_Rn 2 (some .int) kX11_groupOf (fun v g => v = some (.int r) ∧ g = fm_mk S) (fm_mk S) 26 [some (.ref p), some (.int (nI k)), some (.int i), some (.int fr), some (.int j), u] [] := by
    intro n
    induction n with
    | zero => intro j u fr r h; cases h
    | succ n ih =>
      intro j u fr r h
      rw [md_gl] at h
      refine mj_begin6 [26] 50 rfl ?_
      refine mj_csB (k1 _) rfl rfl rfl rfl rfl rfl rfl ?_
      refine mj_auto6 [26] 50 rfl ?_
      refine mj_csB (k2 _) rfl rfl rfl rfl rfl rfl rfl ?_
      refine mj_auto6 [26] 50 rfl ?_
      have rest : (if ¬ md_ov (S.1 p) k j = 0 then md_gl (S.1 p) k fr n (j + 1) else some (md_dl (S.1 p) k j)) = some r → mj_Rn 2 (some .int) kX11_groupOf (fun v g => v = some (.int r) ∧ g = fm_mk S) (fm_mk S) 59 [some (.ref p), some (.int (nI k)), some (.int i), some (.int fr), some (.int j), some (.int (md_dl (S.1 p) k j))] [] := by
        intro h
        refine mj_auto6 [26] 50 rfl ?_
        refine mj_csB (k3 _) rfl rfl rfl rfl rfl rfl rfl ?_
        refine mj_if rfl rfl (fun c => ?_) (fun c => ?_)
        · rw [if_pos c] at h
          refine mj_auto6 [26] 50 rfl ?_
          exact ih _ _ _ _ h
        · rw [if_neg c] at h
          cases h
          refine mj_auto6 [26] 50 rfl ?_
          exact mj_rt rfl rfl rfl ⟨rfl, rfl⟩
      refine mj_if rfl rfl (fun c => ?_) (fun c => ?_)
      · rw [if_pos c] at h
        exact rest h
      · rw [if_neg c] at h
        refine mj_auto6 [26] 50 rfl ?_
        refine mj_if rfl rfl (fun c2 => ?_) (fun c2 => ?_)
        · rw [if_pos c2] at h
          exact rest h
        · rw [if_neg c2] at h
          cases h
          refine mj_auto6 [26] 50 rfl ?_
          exact mj_rt rfl rfl rfl ⟨rfl, rfl⟩
  refine mj_auto6 [26] 50 rfl ?_
  refine fm_ld hp rfl e2 ?_
  refine mj_auto6 [26] 50 rfl ?_
  refine fm_ld hp rfl e8 ?_
  rw [v8 hk, nI8_tn k hk, md_gp]
  refine mj_if rfl rfl (fun c => ?_) (fun c => ?_)
  · rw [if_pos c]
    have hs := hg c
    obtain ⟨r, hr⟩ := Option.isSome_iff_exists.mp hs
    rw [hr]
    refine mj_auto6 [26] 50 rfl ?_
    refine mj_csB (k1 _) rfl rfl rfl rfl rfl rfl rfl ?_
    refine mj_auto6 [26] 50 rfl ?_
    exact lp 13 i none _ r hr
  · rw [if_neg c]
    refine mj_auto6 [26] 50 rfl ?_
    exact mj_rt rfl rfl rfl ⟨rfl, rfl⟩
