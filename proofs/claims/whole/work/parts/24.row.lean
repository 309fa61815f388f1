theorem lg_ne {x y : Int64} (h : ¬ lg_cmp x y = 0) : ¬ x = y := fun q => h (by
  subst q
  unfold lg_cmp
  rw [if_neg (Int64.lt_irrefl), if_pos rfl])
theorem lg_pos {x y : Int64} (h : 0 < lg_cmp x y) : ¬ x = y := lg_ne (fun q => by rw [q] at h; exact absurd h (by decide))
set_option maxRecDepth 20000 in
theorem t_rclear (S : fm_S) : mj_big 1 15 [.ref 44] (fm_mk S) none (fm_mk (fm_u S.1 44 1 0, S.2)) := by
  refine mj_ofB _ _ rfl rfl rfl ?_
  repeat' first
    | refine mj_auto1 [] 80 rfl ?_
    | refine mj_if rfl rfl (fun c1 => ?_) (fun c1 => ?_)
    | refine fm_gR (by first | with_reducible assumption | with_reducible exact fm_s44) rfl rfl rfl ?_
    | refine fm_gI (by first | with_reducible assumption | with_reducible exact fm_s44) rfl rfl rfl ?_
    | refine fm_ld (by first | with_reducible assumption | with_reducible exact fm_s44) rfl (by with_reducible assumption) ?_
    | refine fm_st (by first | with_reducible assumption | with_reducible exact fm_s44) rfl (by with_reducible assumption) ?_
    | refine fm_pI (by first | with_reducible assumption | with_reducible exact fm_s44) rfl rfl rfl rfl ?_
    | refine mj_rt rfl rfl rfl ⟨?_, by with_reducible rfl⟩
    | refine mj_rt rfl rfl rfl ⟨?_, ?_⟩
    | refine mj_rtl rfl rfl ⟨?_, by with_reducible rfl⟩
    | refine mj_rtl rfl rfl ⟨?_, ?_⟩
    | refine mj_rtv rfl rfl ⟨rfl, by with_reducible rfl⟩
    | refine mj_rtv rfl rfl ⟨rfl, ?_⟩
def rw_add (S : fm_S) (v : Int64) : fm_S := if 8 ≤ S.1 44 1 then S else (fm_u S.1 44 1 (S.1 44 1 + 1), fm_ul S.2.1 45 (S.1 44 1).toNatClampNeg v, S.2.2)
/-- the ROW's size is right -/
def rw_ok (S : fm_S) : Prop := ¬ S.1 44 1 < 0 ∧ S.1 44 1 ≤ 8
set_option maxRecDepth 20000 in
theorem t_radd (S : fm_S) (hs : rw_ok S) (v : Int64) : mj_big 1 16 [.ref 44, .long v] (fm_mk S) none (fm_mk (rw_add S v)) := by
  refine mj_ofB _ _ rfl rfl rfl ?_
  repeat' first
    | refine mj_auto3 [] 80 rfl ?_
    | refine mj_if rfl rfl (fun c1 => ?_) (fun c1 => ?_)
    | refine fm_gR (by first | with_reducible assumption | with_reducible exact fm_s44 | with_reducible exact fm_s45) rfl rfl rfl ?_
    | refine fm_gI (by first | with_reducible assumption | with_reducible exact fm_s44 | with_reducible exact fm_s45) rfl rfl rfl ?_
    | refine fm_ld (by first | with_reducible assumption | with_reducible exact fm_s44 | with_reducible exact fm_s45) rfl (in8 hs.1 (by assumption)) ?_
    | refine fm_st (by first | with_reducible assumption | with_reducible exact fm_s44 | with_reducible exact fm_s45) rfl (in8 hs.1 (by assumption)) ?_
    | refine fm_pI (by first | with_reducible assumption | with_reducible exact fm_s44 | with_reducible exact fm_s45) rfl rfl rfl rfl ?_
    | refine fm_gL (by first | with_reducible assumption | with_reducible exact fm_s44 | with_reducible exact fm_s45) rfl rfl rfl ?_
    | refine fm_pL (by first | with_reducible assumption | with_reducible exact fm_s44 | with_reducible exact fm_s45) rfl rfl rfl rfl ?_
    | refine fm_ldl (by first | with_reducible assumption | with_reducible exact fm_s44 | with_reducible exact fm_s45) rfl (in8 hs.1 (by assumption)) ?_
    | refine fm_stl (by first | with_reducible assumption | with_reducible exact fm_s44 | with_reducible exact fm_s45) rfl (in8 hs.1 (by assumption)) ?_
    | refine mj_rt rfl rfl rfl ⟨?_, by with_reducible rfl⟩
    | refine mj_rt rfl rfl rfl ⟨?_, ?_⟩
    | refine mj_rtl rfl rfl ⟨?_, by with_reducible rfl⟩
    | refine mj_rtl rfl rfl ⟨?_, ?_⟩
    | refine mj_rtv rfl rfl ⟨rfl, by with_reducible rfl⟩
    | refine mj_rtv rfl rfl ⟨rfl, ?_⟩
  all_goals (rw [rw_add]; first | rw [if_pos (by assumption)] | rw [if_neg (by assumption)])
def rw_gl : Nat → Int64 → Int64 → Int64
  | 0, g, _ => g
  | n + 1, g, l => if lg_cmp l 0 = 0 then g else rw_gl n l (g - g / l * l)
set_option maxRecDepth 20000 in
theorem t_commonDivisor (h : mj_H) (a b : Int64) : mj_big 1 18 [.long a, .long b] h (some (.long (rw_gl 100 a b))) h := by
  refine mj_ofB _ _ rfl rfl rfl ?_
  have lp : ∀ (n k : Nat) (g l : Int64) (u : Option Value), k + n = 100 → mj_Rn 0 (some .long) kX4_commonDivisor (fun v g' => v = some (.long (rw_gl n g l)) ∧ g' = h) h 9 [some (.long a), none, some (.long b), none, some (.long g), none, some (.long l), none, some (.int (nI k)), u, none] [] := by
    intro n
    induction n with
    | zero =>
      intro k g l u hk
      obtain rfl : k = 100 := by omega
      refine mj_begin11 [9] 50 rfl ?_
      refine mj_if rfl rfl (fun c1 => ?_) (fun c1 => absurd (by decide) c1)
      refine mj_auto11 [9] 50 rfl ?_
      exact mj_rtl rfl rfl ⟨rfl, rfl⟩
    | succ n ih =>
      intro k g l u hk
      have e1 : ¬ (100 : Int32) ≤ nI k := nI_ge (b := 100) (by omega) (by omega)
      refine mj_begin11 [9] 50 rfl ?_
      refine mj_if rfl rfl (fun c1 => absurd c1 e1) (fun c1 => ?_)
      refine mj_auto11 [9] 50 rfl ?_
      refine mj_if rfl rfl (fun c2 => ?_) (fun c2 => ?_)
      · refine mj_auto11 [9] 50 rfl ?_
        exact mj_rtl rfl rfl ⟨by rw [rw_gl, if_pos c2], rfl⟩
      · refine mj_auto11 [9] 50 rfl ?_
        refine mj_div rfl rfl (lg_ne c2) ?_
        refine mj_auto11 [9] 50 rfl ?_
        rw [rw_gl, if_neg c2]
        have ih := ih (k + 1) l (g - g / l * l) (some (.long (g - g / l * l))) (by omega)
        rw [← nI_1] at ih
        exact ih
  refine mj_auto11 [9] 50 rfl ?_
  exact lp 100 0 a b none rfl
theorem rw_add_ok {S : fm_S} (h : rw_ok S) (v : Int64) : rw_ok (rw_add S v) := by
  unfold rw_add
  split
  · exact h
  · next c =>
    obtain ⟨j, hj, he⟩ := nI_of2 (M := 8) (n := 8) rfl h.1 h.2
    unfold rw_ok
    dsimp only
    rw [fm_u_at]
    rw [he] at c ⊢
    have : ∀ j, j ≤ 8 → ¬ (8 : Int32) ≤ nI j → ¬ nI j + 1 < 0 ∧ nI j + 1 ≤ 8 := by decide +kernel
    exact this j hj c
def rw_fr (S : fm_S) (u l : Int64) : fm_S := if 0 < lg_cmp (rw_gl 100 (jd_labs u) l) 0 then rw_add (rw_add S (u / rw_gl 100 (jd_labs u) l)) (l / rw_gl 100 (jd_labs u) l) else S
set_option maxRecDepth 20000 in
theorem t_addFraction (S : fm_S) (hs : rw_ok S) (u l : Int64) : mj_big 2 17 [.ref 44, .long u, .long l] (fm_mk S) none (fm_mk (rw_fr S u l)) := by
  have k1 := fun v => t_radd S hs v
  have k2 := fun v w => t_radd (rw_add S v) (rw_add_ok hs v) w
  refine mj_ofB _ _ rfl rfl rfl ?_
  refine mj_auto7 [] 50 rfl ?_
  refine mj_csB (t_labs _ _) rfl rfl rfl rfl rfl rfl rfl ?_
  refine mj_auto7 [] 50 rfl ?_
  refine mj_csB (t_commonDivisor _ _ _) rfl rfl rfl rfl rfl rfl rfl ?_
  refine mj_auto7 [] 50 rfl ?_
  refine mj_if rfl rfl (fun c1 => ?_) (fun c1 => ?_)
  · rw [rw_fr, if_pos c1]
    refine mj_auto7 [] 50 rfl ?_
    refine mj_div rfl rfl (lg_pos c1) ?_
    refine mj_cvB (k1 _) (fm_o fm_s44) rfl rfl rfl rfl rfl ⟨rfl, rfl⟩ rfl ?_
    refine mj_auto7 [] 50 rfl ?_
    refine mj_div rfl rfl (lg_pos c1) ?_
    refine mj_cvB (k2 _ _) (fm_o fm_s44) rfl rfl rfl rfl rfl ⟨rfl, rfl⟩ rfl ?_
    exact mj_rtv rfl rfl ⟨rfl, rfl⟩
  · rw [rw_fr, if_neg c1]
    exact mj_rtv rfl rfl ⟨rfl, rfl⟩
set_option maxRecDepth 20000 in
theorem t_eclear (S : fm_S) : mj_big 1 0 [.ref 53] (fm_mk S) none (fm_mk (fm_u S.1 53 0 (-1), S.2)) := by
  refine mj_ofB _ _ rfl rfl rfl ?_
  repeat' first
    | refine mj_auto1 [] 80 rfl ?_
    | refine mj_if rfl rfl (fun c1 => ?_) (fun c1 => ?_)
    | refine fm_gR (by first | with_reducible assumption | with_reducible exact fm_s53) rfl rfl rfl ?_
    | refine fm_gI (by first | with_reducible assumption | with_reducible exact fm_s53) rfl rfl rfl ?_
    | refine fm_ld (by first | with_reducible assumption | with_reducible exact fm_s53) rfl (by with_reducible assumption) ?_
    | refine fm_st (by first | with_reducible assumption | with_reducible exact fm_s53) rfl (by with_reducible assumption) ?_
    | refine fm_pI (by first | with_reducible assumption | with_reducible exact fm_s53) rfl rfl rfl rfl ?_
    | refine mj_rt rfl rfl rfl ⟨?_, by with_reducible rfl⟩
    | refine mj_rt rfl rfl rfl ⟨?_, ?_⟩
    | refine mj_rtl rfl rfl ⟨?_, by with_reducible rfl⟩
    | refine mj_rtl rfl rfl ⟨?_, ?_⟩
    | refine mj_rtv rfl rfl ⟨rfl, by with_reducible rfl⟩
    | refine mj_rtv rfl rfl ⟨rfl, ?_⟩
def ex_a (S : fm_S) (t k : Int32) (u l : Int64) : fm_S := (fm_u (fm_u S.1 53 0 t) 53 1 k, fm_ul (fm_ul S.2.1 53 2 u) 53 3 l, S.2.2)
def ex_b (S : fm_S) (u l : Int64) : fm_S := (S.1, fm_ul (fm_ul S.2.1 53 4 u) 53 5 l, S.2.2)
def ex_take (S : fm_S) (t k : Int32) (u l : Int64) : fm_S :=
  if S.1 53 0 = -1 then ex_b (ex_a S t k u l) u l else
    let S1 := if lg_cmp (u * S.2.1 53 3) (S.2.1 53 2 * l) ≤ 0 then S else ex_a S t k u l
    if 0 ≤ lg_cmp (u * S1.2.1 53 5) (S1.2.1 53 4 * l) then S1 else ex_b S1 u l
set_option maxRecDepth 20000 in
theorem t_etake (S : fm_S) (t k : Int32) (u l : Int64) : mj_big 1 1 [.ref 53, .int t, .int k, .long u, .long l] (fm_mk S) none (fm_mk (ex_take S t k u l)) := by
  obtain ⟨M, ML, R⟩ := S
  refine mj_ofB _ _ rfl rfl rfl ?_
  refine mj_auto8 [] 50 rfl ?_
  refine fn_gI fm_s53 rfl rfl rfl ?_
  refine mj_auto8 [] 50 rfl ?_
  refine mj_if rfl rfl (fun c => ?_) (fun c => ?_)
  · repeat' first
      | refine mj_auto8 [] 80 rfl ?_
      | refine mj_if rfl rfl (fun c1 => ?_) (fun c1 => ?_)
      | refine fn_gR (by first | with_reducible assumption | with_reducible exact fm_s53) rfl rfl rfl ?_
      | refine fn_gI (by first | with_reducible assumption | with_reducible exact fm_s53) rfl rfl rfl ?_
      | refine fn_ld (by first | with_reducible assumption | with_reducible exact fm_s53) rfl (by with_reducible assumption) ?_
      | refine fn_st (by first | with_reducible assumption | with_reducible exact fm_s53) rfl (by with_reducible assumption) ?_
      | refine fn_pI (by first | with_reducible assumption | with_reducible exact fm_s53) rfl rfl rfl rfl ?_
      | refine fn_gL (by first | with_reducible assumption | with_reducible exact fm_s53) rfl rfl rfl ?_
      | refine fn_pL (by first | with_reducible assumption | with_reducible exact fm_s53) rfl rfl rfl rfl ?_
      | refine fn_ldl (by first | with_reducible assumption | with_reducible exact fm_s53) rfl (by with_reducible assumption) ?_
      | refine fn_stl (by first | with_reducible assumption | with_reducible exact fm_s53) rfl (by with_reducible assumption) ?_
      | refine mj_rt rfl rfl rfl ⟨?_, by with_reducible rfl⟩
      | refine mj_rt rfl rfl rfl ⟨?_, ?_⟩
      | refine mj_rtl rfl rfl ⟨?_, by with_reducible rfl⟩
      | refine mj_rtl rfl rfl ⟨?_, ?_⟩
      | refine mj_rtv rfl rfl ⟨rfl, by with_reducible rfl⟩
      | refine mj_rtv rfl rfl ⟨rfl, ?_⟩
    all_goals first
      | (simp only [ex_take, ex_a, ex_b, if_neg c, if_pos, if_neg, *, not_false_eq_true]; done)
      | (exfalso; simp_all; done)
      | (simp_all [ex_take, ex_a, ex_b]; done)
  · have c := Classical.not_not.mp c
    repeat' first
      | refine mj_auto8 [] 80 rfl ?_
      | refine mj_if rfl rfl (fun c1 => ?_) (fun c1 => ?_)
      | refine fn_gR (by first | with_reducible assumption | with_reducible exact fm_s53) rfl rfl rfl ?_
      | refine fn_gI (by first | with_reducible assumption | with_reducible exact fm_s53) rfl rfl rfl ?_
      | refine fn_ld (by first | with_reducible assumption | with_reducible exact fm_s53) rfl (by with_reducible assumption) ?_
      | refine fn_st (by first | with_reducible assumption | with_reducible exact fm_s53) rfl (by with_reducible assumption) ?_
      | refine fn_pI (by first | with_reducible assumption | with_reducible exact fm_s53) rfl rfl rfl rfl ?_
      | refine fn_gL (by first | with_reducible assumption | with_reducible exact fm_s53) rfl rfl rfl ?_
      | refine fn_pL (by first | with_reducible assumption | with_reducible exact fm_s53) rfl rfl rfl rfl ?_
      | refine fn_ldl (by first | with_reducible assumption | with_reducible exact fm_s53) rfl (by with_reducible assumption) ?_
      | refine fn_stl (by first | with_reducible assumption | with_reducible exact fm_s53) rfl (by with_reducible assumption) ?_
      | refine mj_rt rfl rfl rfl ⟨?_, by with_reducible rfl⟩
      | refine mj_rt rfl rfl rfl ⟨?_, ?_⟩
      | refine mj_rtl rfl rfl ⟨?_, by with_reducible rfl⟩
      | refine mj_rtl rfl rfl ⟨?_, ?_⟩
      | refine mj_rtv rfl rfl ⟨rfl, by with_reducible rfl⟩
      | refine mj_rtv rfl rfl ⟨rfl, ?_⟩
    all_goals first
      | (simp only [ex_take, ex_a, ex_b, if_pos c]; done)
      | (exfalso; simp_all; done)
