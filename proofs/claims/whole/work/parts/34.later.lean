theorem wd_copy_row {M : Nat → Nat → Int32} {b o j q : Nat} (hj : 0 < j ∧ j ≤ 10) (hq : q < 8) : wd_copy M b o (b + j) q = M (o + j) q := by
  unfold wd_copy
  rw [if_neg (by omega), if_pos (by omega), show b + j - b = j by omega, va_cpy, if_pos (by omega), Nat.zero_add, Nat.sub_zero]
theorem wd_copy_ix {M : Nat → Nat → Int32} {b o i : Nat} : wd_copy M b o b i = if i = 12 then M o 12 else if i = 11 then M o 11 else if i = 10 then M o 10 else M b i := by
  unfold wd_copy
  rw [if_pos rfl]
  simp only [upd]
theorem wd_copy_bn {M : Nat → Nat → Int32} {b o B : Nat} (h : wd_bn M o B) : wd_bn (wd_copy M b o) b B := fun q hq => by
  rw [wd_copy_row (j := 1) (by omega) hq, wd_copy_row (j := 6) (by omega) hq]
  exact h q hq
/-- SLOTS go by, k of them, one being held back in each -/
def gi (M : Nat → Nat → Int32) (b t N P : Nat) (hd : Nat → Int32) : Nat → Nat → Nat → Int32
  | 0 => M
  | k + 1 => wd_gob (gi M b t N P hd k) b t N P (hd k)
theorem gi_off {M : Nat → Nat → Int32} {b t N P : Nat} {hd : Nat → Int32} {a : Nat} (h : a < b ∨ (b < a ∧ a < b + 6) ∨ b + 10 < a) : ∀ k, gi M b t N P hd k a = M a := by
  intro k
  induction k with
  | zero => rfl
  | succ k ih => rw [gi, wd_gob_off h, ih]
theorem gi_10 {M : Nat → Nat → Int32} {b t N P : Nat} {hd : Nat → Int32} : ∀ k, gi M b t N P hd k b 10 = M b 10 := by
  intro k
  induction k with
  | zero => rfl
  | succ k ih => rw [gi, wd_gob_ix (by decide) (by decide) (by decide) (by decide) (by decide), ih]
theorem gi_bn {M : Nat → Nat → Int32} {b t N P B : Nat} {hd : Nat → Int32} (h : wd_bn M b B) : ∀ k, B + k < 2 ^ 30 → wd_bn (gi M b t N P hd k) b (B + k) := by
  intro k
  induction k with
  | zero => intro _; exact h
  | succ k ih => intro hk; exact (ih (by omega)).gob (by omega)
theorem gi_go {M : Nat → Nat → Int32} {b t N P B : Nat} {hd : Nat → Int32} {X : (Nat → Nat → Int64) × (Nat → Nat → Option Nat)} (hb : fm_W b) (ht : fm_T t) (hdj : t + 1 < b ∨ b + 10 < t) (hN : N ≤ 5) (hsz : M t 1 = nI N) (hP : P < 2 ^ 31) (hp : M b 10 = nI P) (hbn : wd_bn M b B) (k : Nat) (hk : B + k < 2 ^ 30) : mj_big 5 63 [.ref b, .ref t, .int (hd k)] (fm_mk (gi M b t N P hd k, X)) none (fm_mk (gi M b t N P hd (k + 1), X)) :=
  t_goBy hb ht hdj (gi M b t N P hd k, X) N P hN (by dsimp only; rw [gi_off (by omega)]; exact hsz) hP (by dsimp only; rw [gi_10]; exact hp) ((gi_bn hbn k hk).bd (by omega)) (hd k)
/-- what the class's state must be -/
def cl_ok (M : Nat → Nat → Int32) (R : Nat → Nat → Option Nat) (N P B a z : Nat) : Prop := N ≤ 5 ∧ M 40 1 = nI N ∧ P < 2 ^ 31 ∧ M 1 10 = nI P ∧ wd_bn M 1 B ∧ B < 2 ^ 29 ∧ pa_R R ∧ a < 12 ∧ z ≤ 12 ∧ M 34 1 = nI a ∧ M 34 2 = nI z
abbrev cl_lt (M : Nat → Nat → Int32) : Nat → Nat → Int32 := wd_copy M 23 1
theorem cl_lt_1 {M : Nat → Nat → Int32} {a : Nat} (h : a < 23 ∨ 33 < a) : cl_lt M a = M a := wd_copy_off (by omega)
theorem cl_lt_10 {M : Nat → Nat → Int32} : cl_lt M 23 10 = M 1 10 := by
  show wd_copy M 23 1 23 10 = M 1 10
  rw [wd_copy_ix]
  rfl
abbrev cl_no : Nat → Int32 := fun _ => -1
theorem cl_go {M : Nat → Nat → Int32} {R : Nat → Nat → Option Nat} {N P B a z : Nat} (h : cl_ok M R N P B a z) (hd : Nat → Int32) (X : (Nat → Nat → Int64) × (Nat → Nat → Option Nat)) (k : Nat) (hk : k ≤ 200) : mj_big 5 63 [.ref 23, .ref 40, .int (hd k)] (fm_mk (gi (cl_lt M) 23 40 N P hd k, X)) none (fm_mk (gi (cl_lt M) 23 40 N P hd (k + 1), X)) := by
  obtain ⟨h1, h2, h3, h4, h5, h6, -⟩ := h
  exact gi_go fm_W23 fm_T40 (by omega) h1 ((congrFun (cl_lt_1 (M := M) (a := 40) (by omega)) 1).trans h2) h3 (cl_lt_10.trans h4) (wd_copy_bn h5) k (by omega)
set_option maxRecDepth 20000 in
theorem t_rifd (M : Nat → Nat → Int32) (ML : Nat → Nat → Int64) (R : Nat → Nat → Option Nat) (hR : pa_R R) (a z : Nat) (ha : a < 12) (hz : z ≤ 12) (h1 : M 34 1 = nI a) (h2 : M 34 2 = nI z) (v : Int32) : mj_big 3 87 [.ref 0, .int v] (fm_mk (M, ML, R)) (some (.int v)) (fm_mk (if v < 0 then M else pa_rem M a z 12, ML, R)) := by
  have k1 := t_remember fm_W12 (by decide) M ML R hR a z ha hz h1 h2
  refine mj_ofB _ _ rfl rfl rfl ?_
  refine mj_auto2 [] 50 rfl ?_
  refine mj_if rfl rfl (fun c => ?_) (fun c => ?_)
  · rw [if_pos c]
    refine mj_auto2 [] 50 rfl ?_
    exact mj_rt rfl rfl rfl ⟨rfl, rfl⟩
  · rw [if_neg c]
    refine mj_auto2 [] 50 rfl ?_
    refine fm_gR fm_s0 rfl rfl rfl ?_
    refine mj_auto2 [] 50 rfl ?_
    refine fm_gR fm_s0 rfl rfl rfl ?_
    refine mj_cvB k1 (fm_o fm_s34) rfl rfl rfl rfl rfl ⟨rfl, rfl⟩ rfl ?_
    refine mj_auto2 [] 50 rfl ?_
    exact mj_rt rfl rfl rfl ⟨rfl, rfl⟩
abbrev cl_bf (M : Nat → Nat → Int32) : Nat → Nat → Int32 := wd_copy M 12 1
theorem cl_bf_1 {M : Nat → Nat → Int32} {a : Nat} (h : a < 12 ∨ 22 < a) : cl_bf M a = M a := wd_copy_off (by omega)
theorem wd_tpM_off {M : Nat → Nat → Int32} {b a : Nat} {v : Int32} (h : ¬ a = b) : wd_tpM M b v a = M a := by
  unfold wd_tpM
  repeat' split
  all_goals first | rfl | exact fm_u_off h
theorem wd_teM_off {M : Nat → Nat → Int32} {b a : Nat} {v : Int32} (h : ¬ a = b + 5) : wd_teM M b v a = M a := by
  unfold wd_teM
  split
  · exact fm_u_off h
  · rfl
theorem wd_lgM_off {M : Nat → Nat → Int32} {b a : Nat} {v : Int32} (h : a < b + 2 ∨ b + 3 < a) : wd_lgM M b v a = M a := by
  unfold wd_lgM
  split
  · split
    · rw [wd_lgM', fm_u_off (by omega), fm_u_off (by omega)]
    · rfl
  · rfl
set_option maxRecDepth 20000 in
theorem t_processors {M : Nat → Nat → Int32} {ML : Nat → Nat → Int64} {R : Nat → Nat → Option Nat} {N P B a z : Nat} (h : cl_ok M R N P B a z) (v : Int32) : mj_big 4 84 [.ref 0, .int v] (fm_mk (M, ML, R)) (some (.int (wd_tpA (cl_bf M) 1 v))) (fm_mk (if wd_tpA (cl_bf M) 1 v < 0 then wd_tpM (cl_bf M) 1 v else pa_rem (wd_tpM (cl_bf M) 1 v) a z 12, ML, R)) := by
  obtain ⟨h1, h2, h3, h4, h5, h6, h7, h8, h9, h10, h11⟩ := h
  have k1 := t_copyFrom fm_W12 fm_W1 (by omega) (M, ML, R)
  have k2 := t_takeProcessors fm_W1 (cl_bf M, ML, R) v
  have k3 := t_rifd (wd_tpM (cl_bf M) 1 v) ML R h7 a z h8 h9 (by rw [wd_tpM_off (by decide), cl_bf_1 (by omega)]; exact h10) (by rw [wd_tpM_off (by decide), cl_bf_1 (by omega)]; exact h11) (wd_tpA (cl_bf M) 1 v)
  refine mj_ofB _ _ rfl rfl rfl ?_
  refine mj_auto2 [] 50 rfl ?_
  refine fm_gR fm_s0 rfl rfl rfl ?_
  refine mj_auto2 [] 50 rfl ?_
  refine fm_gR fm_s0 rfl rfl rfl ?_
  refine mj_cvB k1 (fm_o fm_w12) rfl rfl rfl rfl rfl ⟨rfl, rfl⟩ rfl ?_
  refine mj_auto2 [] 50 rfl ?_
  refine fm_gR fm_s0 rfl rfl rfl ?_
  refine mj_auto2 [] 50 rfl ?_
  refine mj_cvB k2 (fm_o fm_w1) rfl rfl rfl rfl rfl ⟨rfl, rfl⟩ rfl ?_
  refine mj_cvB k3 (fm_o fm_s0) rfl rfl rfl rfl rfl ⟨rfl, rfl⟩ rfl ?_
  exact mj_rt rfl rfl rfl ⟨rfl, rfl⟩
set_option maxRecDepth 20000 in
theorem t_hurries {M : Nat → Nat → Int32} {ML : Nat → Nat → Int64} {R : Nat → Nat → Option Nat} {N P B a z : Nat} (h : cl_ok M R N P B a z) (v : Int32) : mj_big 4 86 [.ref 0, .int v] (fm_mk (M, ML, R)) (some (.int (wd_teA (cl_bf M) 1 v))) (fm_mk (if wd_teA (cl_bf M) 1 v < 0 then wd_teM (cl_bf M) 1 v else pa_rem (wd_teM (cl_bf M) 1 v) a z 12, ML, R)) := by
  obtain ⟨h1, h2, h3, h4, h5, h6, h7, h8, h9, h10, h11⟩ := h
  have k1 := t_copyFrom fm_W12 fm_W1 (by omega) (M, ML, R)
  have k2 := t_turnEarly fm_W1 (cl_bf M, ML, R) v
  have k3 := t_rifd (wd_teM (cl_bf M) 1 v) ML R h7 a z h8 h9 (by rw [wd_teM_off (by decide), cl_bf_1 (by omega)]; exact h10) (by rw [wd_teM_off (by decide), cl_bf_1 (by omega)]; exact h11) (wd_teA (cl_bf M) 1 v)
  refine mj_ofB _ _ rfl rfl rfl ?_
  refine mj_auto2 [] 50 rfl ?_
  refine fm_gR fm_s0 rfl rfl rfl ?_
  refine mj_auto2 [] 50 rfl ?_
  refine fm_gR fm_s0 rfl rfl rfl ?_
  refine mj_cvB k1 (fm_o fm_w12) rfl rfl rfl rfl rfl ⟨rfl, rfl⟩ rfl ?_
  refine mj_auto2 [] 50 rfl ?_
  refine fm_gR fm_s0 rfl rfl rfl ?_
  refine mj_auto2 [] 50 rfl ?_
  refine mj_cvB k2 (fm_o fm_w1) rfl rfl rfl rfl rfl ⟨rfl, rfl⟩ rfl ?_
  refine mj_cvB k3 (fm_o fm_s0) rfl rfl rfl rfl rfl ⟨rfl, rfl⟩ rfl ?_
  exact mj_rt rfl rfl rfl ⟨rfl, rfl⟩
set_option maxRecDepth 20000 in
theorem t_leaves {M : Nat → Nat → Int32} {ML : Nat → Nat → Int64} {R : Nat → Nat → Option Nat} {N P B a z : Nat} (h : cl_ok M R N P B a z) (v : Int32) : mj_big 6 85 [.ref 0, .int v] (fm_mk (M, ML, R)) (some (.int (wd_lgA (cl_bf M) 1 v))) (fm_mk (if wd_lgA (cl_bf M) 1 v < 0 then wd_lgM (cl_bf M) 1 v else pa_rem (wd_lgM (cl_bf M) 1 v) a z 12, ML, R)) := by
  obtain ⟨h1, h2, h3, h4, h5, h6, h7, h8, h9, h10, h11⟩ := h
  have k1 := t_copyFrom fm_W12 fm_W1 (by omega) (M, ML, R)
  have k2 := t_letGo fm_W1 (cl_bf M, ML, R) ((h5.row (cl_bf_1 (by omega)) (cl_bf_1 (by omega))).bd (by omega)) v
  have k3 := t_rifd (wd_lgM (cl_bf M) 1 v) ML R h7 a z h8 h9 (by rw [wd_lgM_off (by omega), cl_bf_1 (by omega)]; exact h10) (by rw [wd_lgM_off (by omega), cl_bf_1 (by omega)]; exact h11) (wd_lgA (cl_bf M) 1 v)
  refine mj_ofB _ _ rfl rfl rfl ?_
  refine mj_auto2 [] 50 rfl ?_
  refine fm_gR fm_s0 rfl rfl rfl ?_
  refine mj_auto2 [] 50 rfl ?_
  refine fm_gR fm_s0 rfl rfl rfl ?_
  refine mj_cvB k1 (fm_o fm_w12) rfl rfl rfl rfl rfl ⟨rfl, rfl⟩ rfl ?_
  refine mj_auto2 [] 50 rfl ?_
  refine fm_gR fm_s0 rfl rfl rfl ?_
  refine mj_auto2 [] 50 rfl ?_
  refine mj_cvB k2 (fm_o fm_w1) rfl rfl rfl rfl rfl ⟨rfl, rfl⟩ rfl ?_
  refine mj_cvB k3 (fm_o fm_s0) rfl rfl rfl rfl rfl ⟨rfl, rfl⟩ rfl ?_
  exact mj_rt rfl rfl rfl ⟨rfl, rfl⟩
