theorem fm_w1 : fm_sh 1 = .inr (9, [(2, 2), (2, 3), (2, 4), (2, 5), (2, 6), (2, 7), (2, 8), (2, 9), (2, 10), (2, 11), (0, 10), (0, 11), (0, 12), (0, 13), (0, 14), (0, 15), (0, 16)]) := by decide +kernel
theorem fm_w12 : fm_sh 12 = .inr (9, [(2, 13), (2, 14), (2, 15), (2, 16), (2, 17), (2, 18), (2, 19), (2, 20), (2, 21), (2, 22), (0, 10), (0, 11), (0, 12), (0, 13), (0, 14), (0, 15), (0, 16)]) := by decide +kernel
theorem fm_w23 : fm_sh 23 = .inr (9, [(2, 24), (2, 25), (2, 26), (2, 27), (2, 28), (2, 29), (2, 30), (2, 31), (2, 32), (2, 33), (0, 10), (0, 11), (0, 12), (0, 13), (0, 14), (0, 15), (0, 16)]) := by decide +kernel
theorem rw_add_M {S : fm_S} {v : Int64} {a : Nat} (h : ¬ a = 44) : (rw_add S v).1 a = S.1 a := by
  unfold rw_add
  split
  · rfl
  · exact fm_u_off h
theorem rw_add_R {S : fm_S} {v : Int64} : (rw_add S v).2.2 = S.2.2 := by
  unfold rw_add
  split <;> rfl
theorem rw_clear_ok (M : Nat → Nat → Int32) (X : (Nat → Nat → Int64) × (Nat → Nat → Option Nat)) : rw_ok (fm_u M 44 1 0, X) := by
  unfold rw_ok
  dsimp only
  rw [fm_u_at]
  decide
set_option maxRecDepth 20000 in
theorem t_sign (S : fm_S) (hs : sc_ok S.1) (v : Int32) : mj_big 2 74 [.ref 0, .int v] (fm_mk S) (some (.int (sc_apA S.1))) (fm_mk (sc_apM S.1 v, S.2)) := by
  have k1 := t_append S hs v
  refine mj_ofB _ _ rfl rfl rfl ?_
  refine mj_auto2 [] 50 rfl ?_
  refine fm_gR fm_s0 rfl rfl rfl ?_
  refine mj_auto2 [] 50 rfl ?_
  refine mj_cvB k1 (fm_o fm_s38) rfl rfl rfl rfl rfl ⟨rfl, rfl⟩ rfl ?_
  exact mj_rt rfl rfl rfl ⟨rfl, rfl⟩
theorem sc_cutA_01 (M : Nat → Nat → Int32) (n : Int32) : sc_cutA M n = 0 ∨ sc_cutA M n = 1 := by
  unfold sc_cutA
  split
  · exact Or.inl rfl
  · split
    · exact Or.inr rfl
    · exact Or.inl rfl
theorem nar01 {x : Int32} (h : x = 0 ∨ x = 1) : narrow .boolean (.int x) = .int x := by
  rcases h with rfl | rfl <;> rfl
set_option maxRecDepth 20000 in
theorem t_end (S : fm_S) (n : Int32) : mj_big 2 75 [.ref 0, .int n] (fm_mk S) (some (.int (sc_cutA S.1 n))) (fm_mk (sc_cutM S.1 n, S.2)) := by
  have k1 := t_cutTo S n
  refine mj_ofB _ _ rfl rfl rfl ?_
  refine mj_auto2 [] 50 rfl ?_
  refine fm_gR fm_s0 rfl rfl rfl ?_
  refine mj_auto2 [] 50 rfl ?_
  refine mj_cvB k1 (fm_o fm_s38) rfl rfl rfl rfl rfl ⟨rfl, rfl⟩ rfl ?_
  exact mj_rt rfl rfl (nar01 (sc_cutA_01 S.1 n)) ⟨rfl, rfl⟩
set_option maxRecDepth 20000 in
theorem t_forget (S : fm_S) : mj_big 2 110 [.ref 0] (fm_mk S) (some (.int (S.1 46 2))) (fm_mk (fm_u S.1 46 2 0, S.2)) := by
  have k1 := t_hclear S
  refine mj_ofB _ _ rfl rfl rfl ?_
  refine mj_auto1 [] 50 rfl ?_
  refine fm_gR fm_s0 rfl rfl rfl ?_
  refine mj_cvB k1 (fm_o fm_s46) rfl rfl rfl rfl rfl ⟨rfl, rfl⟩ rfl ?_
  exact mj_rt rfl rfl rfl ⟨rfl, rfl⟩
set_option maxRecDepth 20000 in
theorem t_denies (S : fm_S) : mj_big 2 114 [.ref 0] (fm_mk S) (some (.int (S.1 49 3))) (fm_mk (fm_u S.1 49 3 0, S.2)) := by
  have k1 := t_siclear S
  refine mj_ofB _ _ rfl rfl rfl ?_
  refine mj_auto1 [] 50 rfl ?_
  refine fm_gR fm_s0 rfl rfl rfl ?_
  refine mj_cvB k1 (fm_o fm_s49) rfl rfl rfl rfl rfl ⟨rfl, rfl⟩ rfl ?_
  exact mj_rt rfl rfl rfl ⟨rfl, rfl⟩
set_option maxRecDepth 20000 in
theorem t_saw (M : Nat → Nat → Int32) (ML : Nat → Nat → Int64) (R : Nat → Nat → Option Nat) (n : Nat) (hn : n ≤ 10) (hs : M 49 3 = nI n) (i r : Int32) : mj_big 2 113 [.ref 0, .int i, .int r] (fm_mk (M, ML, R)) (some (.int (si_addA M i r))) (fm_mk (si_addM M i r, ML, R)) := by
  have k1 := t_siadd M ML R n hn hs i r
  refine mj_ofB _ _ rfl rfl rfl ?_
  refine mj_auto3 [] 50 rfl ?_
  refine fm_gR fm_s0 rfl rfl rfl ?_
  refine mj_auto3 [] 50 rfl ?_
  refine mj_cvB k1 (fm_o fm_s49) rfl rfl rfl rfl rfl ⟨rfl, rfl⟩ rfl ?_
  exact mj_rt rfl rfl rfl ⟨rfl, rfl⟩
set_option maxRecDepth 20000 in
theorem t_undo (M : Nat → Nat → Int32) (ML : Nat → Nat → Int64) (R : Nat → Nat → Option Nat) (hR : pa_R R) (a z : Nat) (ha : a < 12) (hz : z ≤ 12) (h1 : M 34 1 = nI a) (h2 : M 34 2 = nI z) : mj_big 3 90 [.ref 0] (fm_mk (M, ML, R)) (some (.int (pa_bbA z))) (fm_mk (pa_bbM M a z 1, ML, R)) := by
  have k1 := t_bringBack fm_W1 (by decide) M ML R hR a z ha hz h1 h2
  refine mj_ofB _ _ rfl rfl rfl ?_
  refine mj_auto1 [] 50 rfl ?_
  refine fm_gR fm_s0 rfl rfl rfl ?_
  refine mj_auto1 [] 50 rfl ?_
  refine fm_gR fm_s0 rfl rfl rfl ?_
  refine mj_cvB k1 (fm_o fm_s34) rfl rfl rfl rfl rfl ⟨rfl, rfl⟩ rfl ?_
  exact mj_rt rfl rfl rfl ⟨rfl, rfl⟩
theorem pa_kA_01 (i : Int32) : pa_kA i = 0 ∨ pa_kA i = 1 := by
  unfold pa_kA
  split
  · exact Or.inl rfl
  · split
    · exact Or.inr rfl
    · exact Or.inl rfl
theorem pa_bkA_01 (M : Nat → Nat → Int32) (i : Int32) : pa_bkA M i = 0 ∨ pa_bkA M i = 1 := by
  unfold pa_bkA
  split
  · exact Or.inl rfl
  · split
    · exact Or.inl rfl
    · split
      · exact Or.inr rfl
      · exact Or.inl rfl
set_option maxRecDepth 20000 in
theorem t_keep (M : Nat → Nat → Int32) (ML : Nat → Nat → Int64) (R : Nat → Nat → Option Nat) (hR : pa_R R) (i : Int32) : mj_big 3 127 [.ref 0, .int i] (fm_mk (M, ML, R)) (some (.int (pa_kA i))) (fm_mk (pa_kM M i 1, ML, R)) := by
  have k1 := t_keepUnder fm_W1 (by decide) M ML R hR i
  refine mj_ofB _ _ rfl rfl rfl ?_
  refine mj_auto2 [] 50 rfl ?_
  refine fm_gR fm_s0 rfl rfl rfl ?_
  refine mj_auto2 [] 50 rfl ?_
  refine fm_gR fm_s0 rfl rfl rfl ?_
  refine mj_cvB k1 (fm_o fm_s34) rfl rfl rfl rfl rfl ⟨rfl, rfl⟩ rfl ?_
  exact mj_rt rfl rfl (nar01 (pa_kA_01 i)) ⟨rfl, rfl⟩
set_option maxRecDepth 20000 in
theorem t_again (M : Nat → Nat → Int32) (ML : Nat → Nat → Int64) (R : Nat → Nat → Option Nat) (hR : pa_R R) (i : Int32) : mj_big 3 128 [.ref 0, .int i] (fm_mk (M, ML, R)) (some (.int (pa_bkA M i))) (fm_mk (pa_bkM M i 1, ML, R)) := by
  have k1 := t_bringKept fm_W1 (by decide) M ML R hR i
  refine mj_ofB _ _ rfl rfl rfl ?_
  refine mj_auto2 [] 50 rfl ?_
  refine fm_gR fm_s0 rfl rfl rfl ?_
  refine mj_auto2 [] 50 rfl ?_
  refine fm_gR fm_s0 rfl rfl rfl ?_
  refine mj_cvB k1 (fm_o fm_s34) rfl rfl rfl rfl rfl ⟨rfl, rfl⟩ rfl ?_
  exact mj_rt rfl rfl (nar01 (pa_bkA_01 M i)) ⟨rfl, rfl⟩
set_option maxRecDepth 20000 in
theorem t_nextDraw (h : mj_H) (r : Int32) : mj_big 1 125 [.int r] h (some (.int (r * 1103515245 + 12345))) h := by
  refine mj_ofB _ _ rfl rfl rfl ?_
  repeat' first
    | refine mj_auto1 [] 80 rfl ?_
    | refine mj_if rfl rfl (fun c1 => ?_) (fun c1 => ?_)
    | refine mj_rt rfl rfl rfl ⟨?_, by with_reducible rfl⟩
    | refine mj_rt rfl rfl rfl ⟨?_, ?_⟩
    | refine mj_rtl rfl rfl ⟨?_, by with_reducible rfl⟩
    | refine mj_rtl rfl rfl ⟨?_, ?_⟩
    | refine mj_rtv rfl rfl ⟨rfl, by with_reducible rfl⟩
    | refine mj_rtv rfl rfl ⟨rfl, ?_⟩
  all_goals rfl
set_option maxRecDepth 20000 in
theorem t_drawOf (h : mj_H) (r n : Int32) (hn : ¬ n ≤ 0) : mj_big 1 126 [.int r, .int n] h (some (.int (i_rem (mj_ushr r 16) n))) h := by
  have hn0 := i32_ne0 hn
  refine mj_ofB _ _ rfl rfl rfl ?_
  refine mj_auto2 [] 50 rfl ?_
  refine mj_if rfl rfl (fun c => absurd c hn) (fun c => ?_)
  refine mj_auto2 [] 50 rfl ?_
  refine mj_div rfl rfl hn0 ?_
  refine mj_auto2 [] 50 rfl ?_
  exact mj_rt rfl rfl rfl ⟨rfl, rfl⟩
def cl_en (k v : Int32) : Int32 := if k = 0 then v.toInt8.toInt32 else if k = 1 then v.toInt16.toInt32 else v
set_option maxRecDepth 20000 in
theorem t_entry (h : mj_H) (k v : Int32) : mj_big 1 81 [.int k, .int v] h (some (.int (cl_en k v))) h := by
  refine mj_ofB _ _ rfl rfl rfl ?_
  refine mj_auto2 [] 50 rfl ?_
  by_cases e1 : k = 0
  · subst e1
    refine mj_swi 28 rfl rfl (by decide +kernel) ?_
    repeat' first
      | refine mj_auto2 [] 80 rfl ?_
      | refine mj_if rfl rfl (fun c1 => ?_) (fun c1 => ?_)
      | refine mj_rt rfl rfl rfl ⟨?_, by with_reducible rfl⟩
      | refine mj_rt rfl rfl rfl ⟨?_, ?_⟩
      | refine mj_rtl rfl rfl ⟨?_, by with_reducible rfl⟩
      | refine mj_rtl rfl rfl ⟨?_, ?_⟩
      | refine mj_rtv rfl rfl ⟨rfl, by with_reducible rfl⟩
      | refine mj_rtv rfl rfl ⟨rfl, ?_⟩
    all_goals simp [cl_en]
  by_cases e2 : k = 1
  · subst e2
    refine mj_swi 31 rfl rfl (by decide +kernel) ?_
    repeat' first
      | refine mj_auto2 [] 80 rfl ?_
      | refine mj_if rfl rfl (fun c1 => ?_) (fun c1 => ?_)
      | refine mj_rt rfl rfl rfl ⟨?_, by with_reducible rfl⟩
      | refine mj_rt rfl rfl rfl ⟨?_, ?_⟩
      | refine mj_rtl rfl rfl ⟨?_, by with_reducible rfl⟩
      | refine mj_rtl rfl rfl ⟨?_, ?_⟩
      | refine mj_rtv rfl rfl ⟨rfl, by with_reducible rfl⟩
      | refine mj_rtv rfl rfl ⟨rfl, ?_⟩
    all_goals simp [cl_en]
  refine mj_swi 34 rfl rfl (by show (1 : Int) + Op.lookupswitch.offset [(0, 27), (1, 30)] 33 k.toInt = 34; rw [lv_osw (a := 0) e1 rfl, lv_osw (a := 1) e2 rfl]; rfl) ?_
  repeat' first
    | refine mj_auto2 [] 80 rfl ?_
    | refine mj_if rfl rfl (fun c1 => ?_) (fun c1 => ?_)
    | refine mj_rt rfl rfl rfl ⟨?_, by with_reducible rfl⟩
    | refine mj_rt rfl rfl rfl ⟨?_, ?_⟩
    | refine mj_rtl rfl rfl ⟨?_, by with_reducible rfl⟩
    | refine mj_rtl rfl rfl ⟨?_, ?_⟩
    | refine mj_rtv rfl rfl ⟨rfl, by with_reducible rfl⟩
    | refine mj_rtv rfl rfl ⟨rfl, ?_⟩
  all_goals simp [cl_en, *]
def cl_gain (v x y : Int32) : Int32 := if x + y ≤ v then 3 * x else if 0 < x + y then 3 * v * x / (x + y) - y else 3 * x
set_option maxRecDepth 20000 in
theorem t_gain (h : mj_H) (v x y : Int32) : mj_big 1 121 [.int v, .int x, .int y] h (some (.int (cl_gain v x y))) h := by
  have hne : 0 < x + y → ¬ x + y = 0 := fun q z => by rw [z] at q; exact absurd q (by decide)
  refine mj_ofB _ _ rfl rfl rfl ?_
  refine mj_auto4 [] 50 rfl ?_
  refine mj_if rfl rfl (fun c => ?_) (fun c => ?_)
  · refine mj_auto4 [] 50 rfl ?_
    exact mj_rt rfl rfl rfl ⟨by rw [cl_gain, if_pos c], rfl⟩
  refine mj_auto4 [] 50 rfl ?_
  refine mj_if rfl rfl (fun c2 => ?_) (fun c2 => ?_)
  · refine mj_auto4 [] 50 rfl ?_
    refine mj_div rfl rfl (hne c2) ?_
    refine mj_auto4 [] 50 rfl ?_
    exact mj_rt rfl rfl rfl ⟨by rw [cl_gain, if_neg c, if_pos c2], rfl⟩
  · refine mj_auto4 [] 50 rfl ?_
    exact mj_rt rfl rfl rfl ⟨by rw [cl_gain, if_neg c, if_neg c2], rfl⟩
def cl_best (v x y : Int32) : Nat → Nat → Int32
  | 0, _ => 1
  | n + 1, k => if cl_gain v (nI k) y ≤ cl_gain v x y then cl_best v x y n (k + 1) else 0
set_option maxRecDepth 20000 in
theorem t_isBest (h : mj_H) (v x y : Int32) : mj_big 2 120 [.int v, .int x, .int y] h (some (.int (cl_best v x y 10 0))) h := by
  refine mj_ofB _ _ rfl rfl rfl ?_
  have lp : ∀ (n k : Nat), k + n = 10 → mj_Rn 1 (some .boolean) kX10_isBest (fun v' g => v' = some (.int (cl_best v x y n k)) ∧ g = h) h 10 [some (.int v), some (.int x), some (.int y), some (.int (cl_gain v x y)), some (.int (nI k))] [] := by
    intro n
    induction n with
    | zero =>
      intro k hk
      obtain rfl : k = 10 := by omega
      refine mj_begin5 [10] 50 rfl ?_
      refine mj_if rfl rfl (fun c2 => ?_) (fun c2 => absurd (by decide) c2)
      refine mj_auto5 [10] 50 rfl ?_
      exact mj_rt rfl rfl rfl ⟨rfl, rfl⟩
    | succ n ih =>
      intro k hk
      have e1 : ¬ (10 : Int32) ≤ nI k := nI_ge (b := 10) (by omega) (by omega)
      have ih := ih (k + 1) (by omega)
      rw [← nI_1] at ih
      refine mj_begin5 [10] 50 rfl ?_
      refine mj_if rfl rfl (fun c2 => absurd c2 e1) (fun c2 => ?_)
      refine mj_auto5 [10] 50 rfl ?_
      refine mj_csB (t_gain _ _ _ _) rfl rfl rfl rfl rfl rfl rfl ?_
      refine mj_auto5 [10] 50 rfl ?_
      refine mj_if rfl rfl (fun c3 => ?_) (fun c3 => ?_)
      · rw [cl_best, if_pos c3]
        refine mj_auto5 [10] 50 rfl ?_
        exact ih
      · rw [cl_best, if_neg c3]
        refine mj_auto5 [10] 50 rfl ?_
        exact mj_rt rfl rfl rfl ⟨rfl, rfl⟩
  refine mj_auto5 [10] 50 rfl ?_
  refine mj_csB (t_gain _ _ _ _) rfl rfl rfl rfl rfl rfl rfl ?_
  refine mj_auto5 [10] 50 rfl ?_
  exact lp 10 0 rfl
