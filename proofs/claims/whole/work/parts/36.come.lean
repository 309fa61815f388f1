theorem cp23 (M : Nat → Nat → Int32) (X : (Nat → Nat → Int64) × (Nat → Nat → Option Nat)) : mj_big 1 48 [.ref 23, .ref 1] (fm_mk (M, X)) none (fm_mk (gi (cl_lt M) 23 40 0 0 cl_no 0, X)) := t_copyFrom fm_W23 fm_W1 (by omega) (M, X)
abbrev lt (M : Nat → Nat → Int32) (N P : Nat) (hd : Nat → Int32) (k : Nat) : Nat → Nat → Int32 := gi (cl_lt M) 23 40 N P hd k
theorem lt_off {M : Nat → Nat → Int32} {N P : Nat} {hd : Nat → Int32} {k a : Nat} (h : a < 23 ∨ 33 < a) : lt M N P hd k a = M a := (gi_off (by omega) k).trans (cl_lt_1 h)
def cs_runsA (M : Nat → Nat → Int32) (N P : Nat) (n : Int32) : Int32 := if n < 0 then -1 else if n ≤ 99 then lt M N P cl_no (n.toNatClampNeg + 1) 23 13 else -1
def cs_runsS (M : Nat → Nat → Int32) (ML : Nat → Nat → Int64) (R : Nat → Nat → Option Nat) (N P : Nat) (n : Int32) : fm_S := if n < 0 then (M, ML, R) else if n ≤ 99 then rw_add (cs_C (lt M N P cl_no (n.toNatClampNeg + 1)) ML R) (lt M N P cl_no (n.toNatClampNeg + 1) 23 12 - M 1 12).toInt64 else (M, ML, R)
set_option maxRecDepth 20000 in
theorem t_runs {M : Nat → Nat → Int32} {ML : Nat → Nat → Int64} {R : Nat → Nat → Option Nat} {N P B a z : Nat} (h : cl_ok M R N P B a z) (n : Int32) : mj_big 6 96 [.ref 0, .int n] (fm_mk (M, ML, R)) (some (.int (cs_runsA M N P n))) (fm_mk (cs_runsS M ML R N P n)) := by
  have kg := fun k hk => cl_go h cl_no (ML, R) k hk
  have k1 := cp23 M (ML, R)
  refine mj_ofB _ _ rfl rfl rfl ?_
  rw [cs_runsA, cs_runsS]
  refine mj_auto3 [25] 50 rfl ?_
  refine mj_if rfl rfl (fun c => ?_) (fun c => ?_)
  · rw [if_pos c, if_pos c]
    refine mj_auto3 [25] 50 rfl ?_
    exact mj_rt rfl rfl rfl ⟨rfl, rfl⟩
  rw [if_neg c, if_neg c]
  refine mj_auto3 [25] 50 rfl ?_
  refine mj_if rfl rfl (fun c2 => ?_) (fun c2 => ?_)
  rotate_left
  · rw [if_neg c2, if_neg c2]
    refine mj_auto3 [25] 50 rfl ?_
    exact mj_rt rfl rfl rfl ⟨rfl, rfl⟩
  rw [if_pos c2, if_pos c2]
  obtain ⟨m, hm, rfl⟩ := nI_of2 (M := 99) (n := 99) rfl c c2
  rw [nI_clamp (by omega)]
  refine mj_auto3 [25] 50 rfl ?_
  refine fm_gR fm_s0 rfl rfl rfl ?_
  refine mj_auto3 [25] 50 rfl ?_
  refine fm_gR fm_s0 rfl rfl rfl ?_
  refine mj_cvB k1 (fm_o fm_w23) rfl rfl rfl rfl rfl ⟨rfl, rfl⟩ rfl ?_
  refine mj_auto3 [25] 50 rfl ?_
  obtain ⟨F, hF⟩ : ∃ x, x = lt M N P cl_no (m + 1) := ⟨_, rfl⟩
  have hF1 : F 1 = M 1 := by rw [hF]; exact lt_off (by omega)
  rw [← hF]
  have k3 := t_rclear (F, ML, R)
  have k4 := fun v => t_radd (cs_C F ML R) (rw_clear_ok F (ML, R)) v
  have lp : ∀ (n k : Nat), k + n = m + 1 → mj_Rn 5 (some .int) kX10_runs (fun v g => v = some (.int (F 23 13)) ∧ g = fm_mk (rw_add (cs_C F ML R) (F 23 12 - M 1 12).toInt64)) (fm_mk (lt M N P cl_no k, ML, R)) 25 [some (.ref 0), some (.int (nI m)), some (.int (nI k))] [] := by
    intro n
    induction n with
    | zero =>
      intro k hk
      obtain rfl : k = m + 1 := by omega
      rw [← hF]
      refine mj_begin3 [25] 50 rfl ?_
      refine mj_if rfl rfl (fun c3 => ?_) (fun c3 => absurd (nI_lt (by omega) (by omega)) c3)
      refine mj_auto3 [25] 50 rfl ?_
      refine fm_gR fm_s0 rfl rfl rfl ?_
      refine mj_cvB k3 (fm_o fm_s44) rfl rfl rfl rfl rfl ⟨rfl, rfl⟩ rfl ?_
      refine mj_auto3 [25] 50 rfl ?_
      refine fm_gR fm_s0 rfl rfl rfl ?_
      refine mj_auto3 [25] 50 rfl ?_
      refine fm_gR fm_s0 rfl rfl rfl ?_
      refine fm_gI fm_w23 rfl rfl rfl ?_
      refine mj_auto3 [25] 50 rfl ?_
      refine fm_gR fm_s0 rfl rfl rfl ?_
      refine fm_gI fm_w1 rfl rfl rfl ?_
      dsimp only
      rw [fm_u_off (show ¬ 1 = 44 by decide), fm_u_off (show ¬ 23 = 44 by decide), hF1]
      refine mj_auto3 [25] 50 rfl ?_
      refine mj_cvB (k4 _) (fm_o fm_s44) rfl rfl rfl rfl rfl ⟨rfl, rfl⟩ rfl ?_
      refine mj_auto3 [25] 50 rfl ?_
      refine fm_gR fm_s0 rfl rfl rfl ?_
      refine fm_gI fm_w23 rfl rfl rfl ?_
      rw [rw_add_M (show ¬ 23 = 44 by decide)]
      dsimp only
      rw [fm_u_off (show ¬ 23 = 44 by decide)]
      exact mj_rt rfl rfl rfl ⟨rfl, rfl⟩
    | succ n ih =>
      intro k hk
      have e1 : ¬ nI m < nI k := nI_nlt (by omega) (by omega)
      have ih := ih (k + 1) (by omega)
      rw [← nI_1] at ih
      refine mj_begin3 [25] 50 rfl ?_
      refine mj_if rfl rfl (fun c3 => absurd c3 e1) (fun c3 => ?_)
      refine mj_auto3 [25] 50 rfl ?_
      refine fm_gR fm_s0 rfl rfl rfl ?_
      refine mj_auto3 [25] 50 rfl ?_
      refine fm_gR fm_s0 rfl rfl rfl ?_
      refine mj_auto3 [25] 50 rfl ?_
      refine mj_cvB (kg k (by omega)) (fm_o fm_w23) rfl rfl rfl rfl rfl ⟨rfl, rfl⟩ rfl ?_
      refine mj_auto3 [25] 50 rfl ?_
      exact ih
  exact lp (m + 1) 0 (by omega)
/-- the first of the SLOTS k, k + 1 .. (n of them) in which one is missed -/
def cs_ms (M : Nat → Nat → Int32) (N P : Nat) : Nat → Nat → Option Nat
  | 0, _ => none
  | n + 1, k => if lt M N P cl_no (k + 1) 23 15 = 0 then cs_ms M N P n (k + 1) else some k
def cs_msA (M : Nat → Nat → Int32) (N P : Nat) (o : Option Nat) : Int32 := match o with
  | none => -2
  | some k => lt M N P cl_no k 23 11
def cs_msS (M : Nat → Nat → Int32) (ML : Nat → Nat → Int64) (R : Nat → Nat → Option Nat) (N P : Nat) (o : Option Nat) : fm_S := match o with
  | none => (lt M N P cl_no 99, ML, R)
  | some k => rw_add (cs_C (lt M N P cl_no (k + 1)) ML R) (lt M N P cl_no (k + 1) 23 15).toInt64
set_option maxRecDepth 20000 in
theorem t_misses {M : Nat → Nat → Int32} {ML : Nat → Nat → Int64} {R : Nat → Nat → Option Nat} {N P B a z : Nat} (h : cl_ok M R N P B a z) : mj_big 6 98 [.ref 0] (fm_mk (M, ML, R)) (some (.int (cs_msA M N P (cs_ms M N P 99 0)))) (fm_mk (cs_msS M ML R N P (cs_ms M N P 99 0))) := by
  have kg := fun k hk => cl_go h cl_no (ML, R) k hk
  have k1 := cp23 M (ML, R)
  have k3 := fun k => t_rclear (lt M N P cl_no k, ML, R)
  have k4 := fun k v => t_radd (cs_C (lt M N P cl_no k) ML R) (rw_clear_ok (lt M N P cl_no k) (ML, R)) v
  refine mj_ofB _ _ rfl rfl rfl ?_
  refine mj_auto3 [13] 50 rfl ?_
  refine fm_gR fm_s0 rfl rfl rfl ?_
  refine mj_auto3 [13] 50 rfl ?_
  refine fm_gR fm_s0 rfl rfl rfl ?_
  refine mj_cvB k1 (fm_o fm_w23) rfl rfl rfl rfl rfl ⟨rfl, rfl⟩ rfl ?_
  refine mj_auto3 [13] 50 rfl ?_
  obtain ⟨F, hF⟩ : ∃ x, x = cs_ms M N P 99 0 := ⟨_, rfl⟩
  rw [← hF]
  have lp : ∀ (n k : Nat) (u : Option Value), k + n = 99 → cs_ms M N P n k = F → mj_Rn 5 (some .int) kX10_misses (fun v g => v = some (.int (cs_msA M N P F)) ∧ g = fm_mk (cs_msS M ML R N P F)) (fm_mk (lt M N P cl_no k, ML, R)) 13 [some (.ref 0), some (.int (nI k)), u] [] := by
    intro n
    induction n with
    | zero =>
      intro k u hk hfe
      obtain rfl : k = 99 := by omega
      rw [cs_ms] at hfe
      rw [← hfe]
      refine mj_begin3 [13] 50 rfl ?_
      refine mj_if rfl rfl (fun c3 => ?_) (fun c3 => absurd (by decide) c3)
      refine mj_auto3 [13] 50 rfl ?_
      exact mj_rt rfl rfl rfl ⟨rfl, rfl⟩
    | succ n ih =>
      intro k u hk hfe
      have e1 : ¬ (99 : Int32) ≤ nI k := nI_ge (b := 99) (by omega) (by omega)
      rw [cs_ms] at hfe
      refine mj_begin3 [13] 50 rfl ?_
      refine mj_if rfl rfl (fun c3 => absurd c3 e1) (fun c3 => ?_)
      refine mj_auto3 [13] 50 rfl ?_
      refine fm_gR fm_s0 rfl rfl rfl ?_
      refine fm_gI fm_w23 rfl rfl rfl ?_
      refine mj_auto3 [13] 50 rfl ?_
      refine fm_gR fm_s0 rfl rfl rfl ?_
      refine mj_auto3 [13] 50 rfl ?_
      refine fm_gR fm_s0 rfl rfl rfl ?_
      refine mj_auto3 [13] 50 rfl ?_
      refine mj_cvB (kg k (by omega)) (fm_o fm_w23) rfl rfl rfl rfl rfl ⟨rfl, rfl⟩ rfl ?_
      refine mj_auto3 [13] 50 rfl ?_
      refine fm_gR fm_s0 rfl rfl rfl ?_
      refine fm_gI fm_w23 rfl rfl rfl ?_
      refine mj_if rfl rfl (fun c4 => ?_) (fun c4 => ?_)
      · rw [if_pos c4] at hfe
        refine mj_auto3 [13] 50 rfl ?_
        have ih := fun u => ih (k + 1) u (by omega) hfe
        simp only [← nI_1] at ih
        exact ih _
      · rw [if_neg c4] at hfe
        rw [← hfe]
        refine mj_auto3 [13] 50 rfl ?_
        refine fm_gR fm_s0 rfl rfl rfl ?_
        refine mj_cvB (k3 (k + 1)) (fm_o fm_s44) rfl rfl rfl rfl rfl ⟨rfl, rfl⟩ rfl ?_
        refine mj_auto3 [13] 50 rfl ?_
        refine fm_gR fm_s0 rfl rfl rfl ?_
        refine mj_auto3 [13] 50 rfl ?_
        refine fm_gR fm_s0 rfl rfl rfl ?_
        refine fm_gI fm_w23 rfl rfl rfl ?_
        dsimp only
        rw [fm_u_off (show ¬ 23 = 44 by decide)]
        refine mj_auto3 [13] 50 rfl ?_
        refine mj_cvB (k4 (k + 1) _) (fm_o fm_s44) rfl rfl rfl rfl rfl ⟨rfl, rfl⟩ rfl ?_
        refine mj_auto3 [13] 50 rfl ?_
        exact mj_rt rfl rfl rfl ⟨rfl, rfl⟩
  exact lp 99 0 none rfl hF.symm
/-- whether one is missed, a TASK being held back in the first SLOTS -/
def cs_hd (t w : Int32) : Nat → Int32 := fun k => if w ≤ nI k then -1 else t
def cs_mk (M : Nat → Nat → Int32) (N P : Nat) (t w : Int32) : Nat → Nat → Nat
  | 0, k => k
  | n + 1, k => if lt M N P (cs_hd t w) (k + 1) 23 15 = 0 then cs_mk M N P t w n (k + 1) else 100 + k
def cs_mkA (r : Nat) : Int32 := if r < 100 then 0 else 1
def cs_mkM (M : Nat → Nat → Int32) (N P : Nat) (t w : Int32) (r : Nat) : Nat → Nat → Int32 := if r < 100 then lt M N P (cs_hd t w) r else lt M N P (cs_hd t w) (r - 100 + 1)
set_option maxRecDepth 20000 in
theorem t_mwk {M : Nat → Nat → Int32} {ML : Nat → Nat → Int64} {R : Nat → Nat → Option Nat} {N P B a z : Nat} (h : cl_ok M R N P B a z) (t w : Int32) : mj_big 6 106 [.ref 0, .int t, .int w] (fm_mk (M, ML, R)) (some (.int (cs_mkA (cs_mk M N P t w 60 0)))) (fm_mk (cs_mkM M N P t w (cs_mk M N P t w 60 0), ML, R)) := by
  have kg := fun k hk => cl_go h (cs_hd t w) (ML, R) k hk
  have k1 := cp23 M (ML, R)
  refine mj_ofB _ _ rfl rfl rfl ?_
  refine mj_auto4 [13] 50 rfl ?_
  refine fm_gR fm_s0 rfl rfl rfl ?_
  refine mj_auto4 [13] 50 rfl ?_
  refine fm_gR fm_s0 rfl rfl rfl ?_
  refine mj_cvB k1 (fm_o fm_w23) rfl rfl rfl rfl rfl ⟨rfl, rfl⟩ rfl ?_
  refine mj_auto4 [13] 50 rfl ?_
  obtain ⟨F, hF⟩ : ∃ x, x = cs_mk M N P t w 60 0 := ⟨_, rfl⟩
  rw [← hF]
  have lp : ∀ (n k : Nat), k + n = 60 → cs_mk M N P t w n k = F → mj_Rn 5 (some .boolean) kX10_missesWhenKept (fun v g => v = some (.int (cs_mkA F)) ∧ g = fm_mk (cs_mkM M N P t w F, ML, R)) (fm_mk (lt M N P (cs_hd t w) k, ML, R)) 13 [some (.ref 0), some (.int t), some (.int w), some (.int (nI k))] [] := by
    intro n
    induction n with
    | zero =>
      intro k hk hfe
      obtain rfl : k = 60 := by omega
      rw [cs_mk] at hfe
      rw [← hfe]
      refine mj_begin4 [13] 50 rfl ?_
      refine mj_if rfl rfl (fun c3 => ?_) (fun c3 => absurd (by decide) c3)
      refine mj_auto4 [13] 50 rfl ?_
      exact mj_rt rfl rfl rfl ⟨rfl, rfl⟩
    | succ n ih =>
      intro k hk hfe
      have e1 : ¬ (60 : Int32) ≤ nI k := nI_ge (b := 60) (by omega) (by omega)
      rw [cs_mk] at hfe
      have kg := kg k (by omega)
      have rest : mj_Rn 5 (some .boolean) kX10_missesWhenKept (fun v g => v = some (.int (cs_mkA F)) ∧ g = fm_mk (cs_mkM M N P t w F, ML, R)) (fm_mk (lt M N P (cs_hd t w) k, ML, R)) 37 [some (.ref 0), some (.int t), some (.int w), some (.int (nI k))] [.int (cs_hd t w k), .ref 40, .ref 23] := by
        refine mj_cvB kg (fm_o fm_w23) rfl rfl rfl rfl rfl ⟨rfl, rfl⟩ rfl ?_
        refine mj_auto4 [13] 50 rfl ?_
        refine fm_gR fm_s0 rfl rfl rfl ?_
        refine fm_gI fm_w23 rfl rfl rfl ?_
        refine mj_if rfl rfl (fun c4 => ?_) (fun c4 => ?_)
        · rw [if_pos c4] at hfe
          refine mj_auto4 [13] 50 rfl ?_
          have ih := ih (k + 1) (by omega) hfe
          rw [← nI_1] at ih
          exact ih
        · rw [if_neg c4] at hfe
          refine mj_auto4 [13] 50 rfl ?_
          refine mj_rt rfl rfl rfl ⟨?_, ?_⟩
          · rw [← hfe, cs_mkA, if_neg (by omega)]
          · rw [← hfe, cs_mkM, if_neg (by omega), show 100 + k - 100 + 1 = k + 1 by omega]
      refine mj_begin4 [13] 50 rfl ?_
      refine mj_if rfl rfl (fun c3 => absurd c3 e1) (fun c3 => ?_)
      refine mj_auto4 [13] 50 rfl ?_
      refine fm_gR fm_s0 rfl rfl rfl ?_
      refine mj_auto4 [13] 50 rfl ?_
      refine fm_gR fm_s0 rfl rfl rfl ?_
      refine mj_auto4 [13] 50 rfl ?_
      refine mj_if rfl rfl (fun c4 => ?_) (fun c4 => ?_)
      · have e : cs_hd t w k = -1 := by rw [cs_hd, if_pos c4]
        rw [e] at rest
        exact mj_step rfl rfl rest
      · have e : cs_hd t w k = t := by rw [cs_hd, if_neg c4]
        rw [e] at rest
        exact mj_step rfl rfl (mj_step rfl rfl rest)
  exact lp 60 0 rfl hF.symm
