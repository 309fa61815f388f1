/-! the law's cases: one call of each side -/
abbrev lL (i : Int32) (a5 a6 a7 : Option Value) : mj_L := [some (.ref 250), some (.ref 0), some (.ref 219), some (.ref 246), some (.int i), a5, a6, a7]
def nI5 (t : Nat) : Int32 := match t with
  | 0 => 0
  | 1 => 1
  | 2 => 2
  | 3 => 3
  | _ => 4
abbrev lx (xs : Nat → Int32) (i : Int32) (t : Nat) : Int32 := xs (i + nI5 t).toNatClampNeg
abbrev lI : Type := Nat → (Nat → Nat → Int32) → (Nat → Nat → Int64) → (Nat → Nat → Option Nat) → Prop
def lq (IV : lI) (B : Nat) (i : Int32) : mj_H → Nat → mj_L → List Value → Prop := fun h pc L st => pc = 1435 ∧ st = [] ∧ ∃ M ML R a5 a6 a7, h = fm_mk (M, ML, R) ∧ IV B M ML R ∧ L = lL i a5 a6 a7
def lwP (IV : lI) (B kC kR : Nat) (as : List Value) (M : Nat → Nat → Int32) (ML : Nat → Nat → Int64) (R : Nat → Nat → Option Nat) : Prop := ∃ v M1 L1 R1 M2 L2 R2, mj_big 110 kC (.ref 0 :: as) (fm_mk (M, ML, R)) (some (.int v)) (fm_mk (M1, L1, R1)) ∧ mj_big 110 kR (.ref 219 :: as) (fm_mk (M1, L1, R1)) (some (.int v)) (fm_mk (M2, L2, R2)) ∧ IV B M2 L2 R2
def lc_ok (k a ci : Nat) : Bool := match mj_sigs[k]? with
  | some sg => Nat.beq sg.2.2.2.2.1 a && !sg.2.2.2.2.2.1 && Nat.beq sg.2.2.2.2.2.2.1 ci
  | none => false
theorem lc_call {k ci ix b : Nat} {bs rest : List Value} {h : mj_H} (hk : lc_ok k (bs.length + 1) ci = true) (h0 : ∃ fs, h b = .inr (ci, fs)) (hr : (rest.map fun v => v.category).sum ≤ 8) : mj_call (.invokevirtual ix) k (bs.reverse ++ .ref b :: rest) h (.ref b :: bs) rest := by
  unfold lc_ok at hk
  split at hk
  next sg hsg =>
    simp only [Bool.and_eq_true, Bool.not_eq_true'] at hk
    obtain ⟨⟨e1, e2⟩, e3⟩ := hk
    have e1 := Nat.eq_of_beq_eq_true e1
    have e3 := Nat.eq_of_beq_eq_true e3
    obtain ⟨fs, h0⟩ := h0
    exact ⟨sg, hsg, by simp, by simpa using e1.symm, hr, e2, b, bs, fs, rfl, by rw [h0, e3]⟩
  next => cases hk
theorem lc_nm {k : Nat} (h : k < 238) : ¬ ms_math k := by
  unfold ms_math
  omega
theorem f0 (S : fm_S) : ∃ fs, fm_mk S 0 = .inr (10, fs) := ⟨_, rfl⟩
theorem f219 (S : fm_S) : ∃ fs, fm_mk S 219 = .inr (11, fs) := ⟨_, rfl⟩
variable {xs : Nat → Int32} {Ln : Nat} {i : Int32} {a5 a6 a7 : Option Value} {IV : lI} {B : Nat} {M : Nat → Nat → Int32} {ML : Nat → Nat → Int64} {R : Nat → Nat → Option Nat}

set_option maxRecDepth 20000 in
theorem lo_74 : lc_ok 74 2 10 = true := by decide +kernel
set_option maxRecDepth 20000 in
theorem lo_75 : lc_ok 75 2 10 = true := by decide +kernel
set_option maxRecDepth 20000 in
theorem lo_76 : lc_ok 76 1 10 = true := by decide +kernel
set_option maxRecDepth 20000 in
theorem lo_77 : lc_ok 77 1 10 = true := by decide +kernel
set_option maxRecDepth 20000 in
theorem lo_78 : lc_ok 78 3 10 = true := by decide +kernel
set_option maxRecDepth 20000 in
theorem lo_79 : lc_ok 79 4 10 = true := by decide +kernel
set_option maxRecDepth 20000 in
theorem lo_80 : lc_ok 80 5 10 = true := by decide +kernel
set_option maxRecDepth 20000 in
theorem lo_82 : lc_ok 82 1 10 = true := by decide +kernel
set_option maxRecDepth 20000 in
theorem lo_83 : lc_ok 83 2 10 = true := by decide +kernel
set_option maxRecDepth 20000 in
theorem lo_84 : lc_ok 84 2 10 = true := by decide +kernel
set_option maxRecDepth 20000 in
theorem lo_85 : lc_ok 85 2 10 = true := by decide +kernel
set_option maxRecDepth 20000 in
theorem lo_86 : lc_ok 86 2 10 = true := by decide +kernel
set_option maxRecDepth 20000 in
theorem lo_88 : lc_ok 88 1 10 = true := by decide +kernel
set_option maxRecDepth 20000 in
theorem lo_90 : lc_ok 90 1 10 = true := by decide +kernel
set_option maxRecDepth 20000 in
theorem lo_91 : lc_ok 91 2 10 = true := by decide +kernel
set_option maxRecDepth 20000 in
theorem lo_92 : lc_ok 92 1 10 = true := by decide +kernel
set_option maxRecDepth 20000 in
theorem lo_93 : lc_ok 93 1 10 = true := by decide +kernel
set_option maxRecDepth 20000 in
theorem lo_94 : lc_ok 94 1 10 = true := by decide +kernel
set_option maxRecDepth 20000 in
theorem lo_95 : lc_ok 95 2 10 = true := by decide +kernel
set_option maxRecDepth 20000 in
theorem lo_96 : lc_ok 96 2 10 = true := by decide +kernel
set_option maxRecDepth 20000 in
theorem lo_97 : lc_ok 97 3 10 = true := by decide +kernel
set_option maxRecDepth 20000 in
theorem lo_98 : lc_ok 98 1 10 = true := by decide +kernel
set_option maxRecDepth 20000 in
theorem lo_99 : lc_ok 99 1 10 = true := by decide +kernel
set_option maxRecDepth 20000 in
theorem lo_100 : lc_ok 100 3 10 = true := by decide +kernel
set_option maxRecDepth 20000 in
theorem lo_101 : lc_ok 101 2 10 = true := by decide +kernel
set_option maxRecDepth 20000 in
theorem lo_103 : lc_ok 103 2 10 = true := by decide +kernel
set_option maxRecDepth 20000 in
theorem lo_104 : lc_ok 104 2 10 = true := by decide +kernel
set_option maxRecDepth 20000 in
theorem lo_105 : lc_ok 105 2 10 = true := by decide +kernel
set_option maxRecDepth 20000 in
theorem lo_107 : lc_ok 107 1 10 = true := by decide +kernel
set_option maxRecDepth 20000 in
theorem lo_108 : lc_ok 108 1 10 = true := by decide +kernel
set_option maxRecDepth 20000 in
theorem lo_109 : lc_ok 109 3 10 = true := by decide +kernel
set_option maxRecDepth 20000 in
theorem lo_110 : lc_ok 110 1 10 = true := by decide +kernel
set_option maxRecDepth 20000 in
theorem lo_111 : lc_ok 111 1 10 = true := by decide +kernel
set_option maxRecDepth 20000 in
theorem lo_112 : lc_ok 112 1 10 = true := by decide +kernel
set_option maxRecDepth 20000 in
theorem lo_113 : lc_ok 113 3 10 = true := by decide +kernel
set_option maxRecDepth 20000 in
theorem lo_114 : lc_ok 114 1 10 = true := by decide +kernel
set_option maxRecDepth 20000 in
theorem lo_115 : lc_ok 115 1 10 = true := by decide +kernel
set_option maxRecDepth 20000 in
theorem lo_116 : lc_ok 116 1 10 = true := by decide +kernel
set_option maxRecDepth 20000 in
theorem lo_117 : lc_ok 117 4 10 = true := by decide +kernel
set_option maxRecDepth 20000 in
theorem lo_118 : lc_ok 118 2 10 = true := by decide +kernel
set_option maxRecDepth 20000 in
theorem lo_119 : lc_ok 119 2 10 = true := by decide +kernel
set_option maxRecDepth 20000 in
theorem lo_122 : lc_ok 122 1 10 = true := by decide +kernel
set_option maxRecDepth 20000 in
theorem lo_124 : lc_ok 124 3 10 = true := by decide +kernel
set_option maxRecDepth 20000 in
theorem lo_127 : lc_ok 127 2 10 = true := by decide +kernel
set_option maxRecDepth 20000 in
theorem lo_128 : lc_ok 128 2 10 = true := by decide +kernel
set_option maxRecDepth 20000 in
theorem lo_129 : lc_ok 129 2 10 = true := by decide +kernel
set_option maxRecDepth 20000 in
theorem lo_130 : lc_ok 130 2 10 = true := by decide +kernel
set_option maxRecDepth 20000 in
theorem lo_131 : lc_ok 131 1 11 = true := by decide +kernel
set_option maxRecDepth 20000 in
theorem lo_151 : lc_ok 151 2 11 = true := by decide +kernel
set_option maxRecDepth 20000 in
theorem lo_152 : lc_ok 152 2 11 = true := by decide +kernel
set_option maxRecDepth 20000 in
theorem lo_163 : lc_ok 163 1 11 = true := by decide +kernel
set_option maxRecDepth 20000 in
theorem lo_166 : lc_ok 166 1 11 = true := by decide +kernel
set_option maxRecDepth 20000 in
theorem lo_167 : lc_ok 167 3 11 = true := by decide +kernel
set_option maxRecDepth 20000 in
theorem lo_168 : lc_ok 168 4 11 = true := by decide +kernel
set_option maxRecDepth 20000 in
theorem lo_169 : lc_ok 169 5 11 = true := by decide +kernel
set_option maxRecDepth 20000 in
theorem lo_173 : lc_ok 173 1 11 = true := by decide +kernel
set_option maxRecDepth 20000 in
theorem lo_175 : lc_ok 175 2 11 = true := by decide +kernel
set_option maxRecDepth 20000 in
theorem lo_177 : lc_ok 177 2 11 = true := by decide +kernel
set_option maxRecDepth 20000 in
theorem lo_180 : lc_ok 180 2 11 = true := by decide +kernel
set_option maxRecDepth 20000 in
theorem lo_181 : lc_ok 181 2 11 = true := by decide +kernel
set_option maxRecDepth 20000 in
theorem lo_182 : lc_ok 182 1 11 = true := by decide +kernel
set_option maxRecDepth 20000 in
theorem lo_185 : lc_ok 185 1 11 = true := by decide +kernel
set_option maxRecDepth 20000 in
theorem lo_187 : lc_ok 187 2 11 = true := by decide +kernel
set_option maxRecDepth 20000 in
theorem lo_188 : lc_ok 188 1 11 = true := by decide +kernel
set_option maxRecDepth 20000 in
theorem lo_189 : lc_ok 189 1 11 = true := by decide +kernel
set_option maxRecDepth 20000 in
theorem lo_191 : lc_ok 191 1 11 = true := by decide +kernel
set_option maxRecDepth 20000 in
theorem lo_192 : lc_ok 192 2 11 = true := by decide +kernel
set_option maxRecDepth 20000 in
theorem lo_193 : lc_ok 193 2 11 = true := by decide +kernel
set_option maxRecDepth 20000 in
theorem lo_194 : lc_ok 194 3 11 = true := by decide +kernel
set_option maxRecDepth 20000 in
theorem lo_195 : lc_ok 195 1 11 = true := by decide +kernel
set_option maxRecDepth 20000 in
theorem lo_196 : lc_ok 196 1 11 = true := by decide +kernel
set_option maxRecDepth 20000 in
theorem lo_197 : lc_ok 197 3 11 = true := by decide +kernel
set_option maxRecDepth 20000 in
theorem lo_198 : lc_ok 198 2 11 = true := by decide +kernel
set_option maxRecDepth 20000 in
theorem lo_199 : lc_ok 199 2 11 = true := by decide +kernel
set_option maxRecDepth 20000 in
theorem lo_203 : lc_ok 203 2 11 = true := by decide +kernel
set_option maxRecDepth 20000 in
theorem lo_204 : lc_ok 204 2 11 = true := by decide +kernel
set_option maxRecDepth 20000 in
theorem lo_205 : lc_ok 205 1 11 = true := by decide +kernel
set_option maxRecDepth 20000 in
theorem lo_206 : lc_ok 206 1 11 = true := by decide +kernel
set_option maxRecDepth 20000 in
theorem lo_209 : lc_ok 209 3 11 = true := by decide +kernel
set_option maxRecDepth 20000 in
theorem lo_210 : lc_ok 210 1 11 = true := by decide +kernel
set_option maxRecDepth 20000 in
theorem lo_213 : lc_ok 213 1 11 = true := by decide +kernel
set_option maxRecDepth 20000 in
theorem lo_214 : lc_ok 214 1 11 = true := by decide +kernel
set_option maxRecDepth 20000 in
theorem lo_215 : lc_ok 215 3 11 = true := by decide +kernel
set_option maxRecDepth 20000 in
theorem lo_216 : lc_ok 216 1 11 = true := by decide +kernel
set_option maxRecDepth 20000 in
theorem lo_218 : lc_ok 218 1 11 = true := by decide +kernel
set_option maxRecDepth 20000 in
theorem lo_219 : lc_ok 219 1 11 = true := by decide +kernel
set_option maxRecDepth 20000 in
theorem lo_220 : lc_ok 220 4 11 = true := by decide +kernel
set_option maxRecDepth 20000 in
theorem lo_222 : lc_ok 222 2 11 = true := by decide +kernel
set_option maxRecDepth 20000 in
theorem lo_225 : lc_ok 225 2 11 = true := by decide +kernel
set_option maxRecDepth 20000 in
theorem lo_227 : lc_ok 227 1 11 = true := by decide +kernel
set_option maxRecDepth 20000 in
theorem lo_230 : lc_ok 230 3 11 = true := by decide +kernel
set_option maxRecDepth 20000 in
theorem lo_231 : lc_ok 231 2 11 = true := by decide +kernel
set_option maxRecDepth 20000 in
theorem lo_232 : lc_ok 232 2 11 = true := by decide +kernel
set_option maxRecDepth 20000 in
theorem lo_233 : lc_ok 233 2 11 = true := by decide +kernel
set_option maxRecDepth 20000 in
theorem lo_234 : lc_ok 234 2 11 = true := by decide +kernel
set_option maxRecDepth 20000 in
theorem lc_0 (hv : ∀ t : Nat, t ≤ 4 → vp_in (i + nI5 t) Ln) (hP : lwP IV B 74 151 [.int (lx xs i 1)] M ML R) : PSt 110 xs Ln kl_0 (lq IV B i) (fm_mk (M, ML, R)) 240 (lL i a5 a6 a7) [] := by
  obtain ⟨v, M1, L1, R1, M2, L2, R2, b1, b2, hI⟩ := hP
  refine PS_gos (pc' := 246) (L' := lL i a5 a6 a7) (st' := [.int (i + nI5 1), .ref 250, .ref 0]) [246] 8 rfl ?_
  refine PS_sld rfl (hv 1 (by decide)) ?_
  refine PS_call rfl (lc_call (b := 0) (bs := [.int (lx xs i 1)]) (rest := []) lo_74 (f0 _) (Nat.le_of_ble_eq_true rfl)) (lc_nm (by decide)) b1 ?_
  refine PS_gos (pc' := 256) (L' := lL i a5 a6 a7) (st' := [.int (i + nI5 1), .ref 250, .ref 219, .int v]) [256] 8 rfl ?_
  refine PS_sld rfl (hv 1 (by decide)) ?_
  refine PS_call rfl (lc_call (b := 219) (bs := [.int (lx xs i 1)]) (rest := [.int v]) lo_151 (f219 _) (Nat.le_of_ble_eq_true rfl)) (lc_nm (by decide)) b2 ?_
  exact PS_yes rfl rfl rfl (PS_end ⟨rfl, rfl, _, _, _, _, _, _, rfl, hI, rfl⟩)
set_option maxRecDepth 20000 in
theorem lc_1 (hv : ∀ t : Nat, t ≤ 4 → vp_in (i + nI5 t) Ln) (hP : lwP IV B 75 152 [.int (lx xs i 1)] M ML R) : PSt 110 xs Ln kl_1 (lq IV B i) (fm_mk (M, ML, R)) 265 (lL i a5 a6 a7) [] := by
  obtain ⟨v, M1, L1, R1, M2, L2, R2, b1, b2, hI⟩ := hP
  refine PS_gos (pc' := 271) (L' := lL i a5 a6 a7) (st' := [.int (i + nI5 1), .ref 250, .ref 0]) [271] 8 rfl ?_
  refine PS_sld rfl (hv 1 (by decide)) ?_
  refine PS_call rfl (lc_call (b := 0) (bs := [.int (lx xs i 1)]) (rest := []) lo_75 (f0 _) (Nat.le_of_ble_eq_true rfl)) (lc_nm (by decide)) b1 ?_
  refine PS_gos (pc' := 281) (L' := lL i a5 a6 a7) (st' := [.int (i + nI5 1), .ref 250, .ref 219, .int v]) [281] 8 rfl ?_
  refine PS_sld rfl (hv 1 (by decide)) ?_
  refine PS_call rfl (lc_call (b := 219) (bs := [.int (lx xs i 1)]) (rest := [.int v]) lo_152 (f219 _) (Nat.le_of_ble_eq_true rfl)) (lc_nm (by decide)) b2 ?_
  exact PS_yes rfl rfl rfl (PS_end ⟨rfl, rfl, _, _, _, _, _, _, rfl, hI, rfl⟩)
set_option maxRecDepth 20000 in
theorem lc_2 (hv : ∀ t : Nat, t ≤ 4 → vp_in (i + nI5 t) Ln) (hP : lwP IV B 76 163 [] M ML R) : PSt 110 xs Ln kl_2 (lq IV B i) (fm_mk (M, ML, R)) 290 (lL i a5 a6 a7) [] := by
  obtain ⟨v, M1, L1, R1, M2, L2, R2, b1, b2, hI⟩ := hP
  refine PS_gos (pc' := 291) (L' := lL i a5 a6 a7) (st' := [.ref 0]) [291] 6 rfl ?_
  refine PS_call rfl (lc_call (b := 0) (bs := []) (rest := []) lo_76 (f0 _) (Nat.le_of_ble_eq_true rfl)) (lc_nm (by decide)) b1 ?_
  refine PS_gos (pc' := 295) (L' := lL i a5 a6 a7) (st' := [.ref 219, .int v]) [295] 6 rfl ?_
  refine PS_call rfl (lc_call (b := 219) (bs := []) (rest := [.int v]) lo_163 (f219 _) (Nat.le_of_ble_eq_true rfl)) (lc_nm (by decide)) b2 ?_
  exact PS_yes rfl rfl rfl (PS_end ⟨rfl, rfl, _, _, _, _, _, _, rfl, hI, rfl⟩)
set_option maxRecDepth 20000 in
theorem lc_3 (hv : ∀ t : Nat, t ≤ 4 → vp_in (i + nI5 t) Ln) (hP : lwP IV B 77 166 [] M ML R) : PSt 110 xs Ln kl_3 (lq IV B i) (fm_mk (M, ML, R)) 303 (lL i a5 a6 a7) [] := by
  obtain ⟨v, M1, L1, R1, M2, L2, R2, b1, b2, hI⟩ := hP
  refine PS_gos (pc' := 304) (L' := lL i a5 a6 a7) (st' := [.ref 0]) [304] 6 rfl ?_
  refine PS_call rfl (lc_call (b := 0) (bs := []) (rest := []) lo_77 (f0 _) (Nat.le_of_ble_eq_true rfl)) (lc_nm (by decide)) b1 ?_
  refine PS_gos (pc' := 308) (L' := lL i a5 a6 a7) (st' := [.ref 219, .int v]) [308] 6 rfl ?_
  refine PS_call rfl (lc_call (b := 219) (bs := []) (rest := [.int v]) lo_166 (f219 _) (Nat.le_of_ble_eq_true rfl)) (lc_nm (by decide)) b2 ?_
  exact PS_yes rfl rfl rfl (PS_end ⟨rfl, rfl, _, _, _, _, _, _, rfl, hI, rfl⟩)
set_option maxRecDepth 20000 in
theorem lc_6 (hv : ∀ t : Nat, t ≤ 4 → vp_in (i + nI5 t) Ln) (hP : lwP IV B 80 169 [.int (lx xs i 1), .int (lx xs i 2), .int (lx xs i 3), .int (lx xs i 4)] M ML R) : PSt 110 xs Ln kl_6 (lq IV B i) (fm_mk (M, ML, R)) 464 (lL i a5 a6 a7) [] := by
  obtain ⟨v, M1, L1, R1, M2, L2, R2, b1, b2, hI⟩ := hP
  refine PS_gos (pc' := 470) (L' := lL i a5 a6 a7) (st' := [.int (i + nI5 1), .ref 250, .ref 0]) [470] 8 rfl ?_
  refine PS_sld rfl (hv 1 (by decide)) ?_
  refine PS_gos (pc' := 476) (L' := lL i a5 a6 a7) (st' := [.int (i + nI5 2), .ref 250, .int (lx xs i 1), .ref 0]) [476] 8 rfl ?_
  refine PS_sld rfl (hv 2 (by decide)) ?_
  refine PS_gos (pc' := 482) (L' := lL i a5 a6 a7) (st' := [.int (i + nI5 3), .ref 250, .int (lx xs i 2), .int (lx xs i 1), .ref 0]) [482] 8 rfl ?_
  refine PS_sld rfl (hv 3 (by decide)) ?_
  refine PS_gos (pc' := 488) (L' := lL i a5 a6 a7) (st' := [.int (i + nI5 4), .ref 250, .int (lx xs i 3), .int (lx xs i 2), .int (lx xs i 1), .ref 0]) [488] 8 rfl ?_
  refine PS_sld rfl (hv 4 (by decide)) ?_
  refine PS_call rfl (lc_call (b := 0) (bs := [.int (lx xs i 1), .int (lx xs i 2), .int (lx xs i 3), .int (lx xs i 4)]) (rest := []) lo_80 (f0 _) (Nat.le_of_ble_eq_true rfl)) (lc_nm (by decide)) b1 ?_
  refine PS_gos (pc' := 498) (L' := lL i a5 a6 a7) (st' := [.int (i + nI5 1), .ref 250, .ref 219, .int v]) [498] 8 rfl ?_
  refine PS_sld rfl (hv 1 (by decide)) ?_
  refine PS_gos (pc' := 504) (L' := lL i a5 a6 a7) (st' := [.int (i + nI5 2), .ref 250, .int (lx xs i 1), .ref 219, .int v]) [504] 8 rfl ?_
  refine PS_sld rfl (hv 2 (by decide)) ?_
  refine PS_gos (pc' := 510) (L' := lL i a5 a6 a7) (st' := [.int (i + nI5 3), .ref 250, .int (lx xs i 2), .int (lx xs i 1), .ref 219, .int v]) [510] 8 rfl ?_
  refine PS_sld rfl (hv 3 (by decide)) ?_
  refine PS_gos (pc' := 516) (L' := lL i a5 a6 a7) (st' := [.int (i + nI5 4), .ref 250, .int (lx xs i 3), .int (lx xs i 2), .int (lx xs i 1), .ref 219, .int v]) [516] 8 rfl ?_
  refine PS_sld rfl (hv 4 (by decide)) ?_
  refine PS_call rfl (lc_call (b := 219) (bs := [.int (lx xs i 1), .int (lx xs i 2), .int (lx xs i 3), .int (lx xs i 4)]) (rest := [.int v]) lo_169 (f219 _) (Nat.le_of_ble_eq_true rfl)) (lc_nm (by decide)) b2 ?_
  exact PS_yes rfl rfl rfl (PS_end ⟨rfl, rfl, _, _, _, _, _, _, rfl, hI, rfl⟩)
set_option maxRecDepth 20000 in
theorem lc_7 (hv : ∀ t : Nat, t ≤ 4 → vp_in (i + nI5 t) Ln) (hP : lwP IV B 82 173 [] M ML R) : PSt 110 xs Ln kl_7 (lq IV B i) (fm_mk (M, ML, R)) 525 (lL i a5 a6 a7) [] := by
  obtain ⟨v, M1, L1, R1, M2, L2, R2, b1, b2, hI⟩ := hP
  refine PS_gos (pc' := 526) (L' := lL i a5 a6 a7) (st' := [.ref 0]) [526] 6 rfl ?_
  refine PS_call rfl (lc_call (b := 0) (bs := []) (rest := []) lo_82 (f0 _) (Nat.le_of_ble_eq_true rfl)) (lc_nm (by decide)) b1 ?_
  refine PS_gos (pc' := 530) (L' := lL i a5 a6 a7) (st' := [.ref 219, .int v]) [530] 6 rfl ?_
  refine PS_call rfl (lc_call (b := 219) (bs := []) (rest := [.int v]) lo_173 (f219 _) (Nat.le_of_ble_eq_true rfl)) (lc_nm (by decide)) b2 ?_
  exact PS_yes rfl rfl rfl (PS_end ⟨rfl, rfl, _, _, _, _, _, _, rfl, hI, rfl⟩)
set_option maxRecDepth 20000 in
theorem lc_8 (hv : ∀ t : Nat, t ≤ 4 → vp_in (i + nI5 t) Ln) (hP : lwP IV B 83 175 [.int (lx xs i 1)] M ML R) : PSt 110 xs Ln kl_8 (lq IV B i) (fm_mk (M, ML, R)) 538 (lL i a5 a6 a7) [] := by
  obtain ⟨v, M1, L1, R1, M2, L2, R2, b1, b2, hI⟩ := hP
  refine PS_gos (pc' := 544) (L' := lL i a5 a6 a7) (st' := [.int (i + nI5 1), .ref 250, .ref 0]) [544] 8 rfl ?_
  refine PS_sld rfl (hv 1 (by decide)) ?_
  refine PS_call rfl (lc_call (b := 0) (bs := [.int (lx xs i 1)]) (rest := []) lo_83 (f0 _) (Nat.le_of_ble_eq_true rfl)) (lc_nm (by decide)) b1 ?_
  refine PS_gos (pc' := 554) (L' := lL i a5 a6 a7) (st' := [.int (i + nI5 1), .ref 250, .ref 219, .int v]) [554] 8 rfl ?_
  refine PS_sld rfl (hv 1 (by decide)) ?_
  refine PS_call rfl (lc_call (b := 219) (bs := [.int (lx xs i 1)]) (rest := [.int v]) lo_175 (f219 _) (Nat.le_of_ble_eq_true rfl)) (lc_nm (by decide)) b2 ?_
  exact PS_yes rfl rfl rfl (PS_end ⟨rfl, rfl, _, _, _, _, _, _, rfl, hI, rfl⟩)
set_option maxRecDepth 20000 in
theorem lc_9 (hv : ∀ t : Nat, t ≤ 4 → vp_in (i + nI5 t) Ln) (hP : lwP IV B 84 177 [.int (lx xs i 1)] M ML R) : PSt 110 xs Ln kl_9 (lq IV B i) (fm_mk (M, ML, R)) 563 (lL i a5 a6 a7) [] := by
  obtain ⟨v, M1, L1, R1, M2, L2, R2, b1, b2, hI⟩ := hP
  refine PS_gos (pc' := 569) (L' := lL i a5 a6 a7) (st' := [.int (i + nI5 1), .ref 250, .ref 0]) [569] 8 rfl ?_
  refine PS_sld rfl (hv 1 (by decide)) ?_
  refine PS_call rfl (lc_call (b := 0) (bs := [.int (lx xs i 1)]) (rest := []) lo_84 (f0 _) (Nat.le_of_ble_eq_true rfl)) (lc_nm (by decide)) b1 ?_
  refine PS_gos (pc' := 579) (L' := lL i a5 a6 a7) (st' := [.int (i + nI5 1), .ref 250, .ref 219, .int v]) [579] 8 rfl ?_
  refine PS_sld rfl (hv 1 (by decide)) ?_
  refine PS_call rfl (lc_call (b := 219) (bs := [.int (lx xs i 1)]) (rest := [.int v]) lo_177 (f219 _) (Nat.le_of_ble_eq_true rfl)) (lc_nm (by decide)) b2 ?_
  exact PS_yes rfl rfl rfl (PS_end ⟨rfl, rfl, _, _, _, _, _, _, rfl, hI, rfl⟩)
set_option maxRecDepth 20000 in
theorem lc_10 (hv : ∀ t : Nat, t ≤ 4 → vp_in (i + nI5 t) Ln) (hP : lwP IV B 85 180 [.int (lx xs i 1)] M ML R) : PSt 110 xs Ln kl_10 (lq IV B i) (fm_mk (M, ML, R)) 588 (lL i a5 a6 a7) [] := by
  obtain ⟨v, M1, L1, R1, M2, L2, R2, b1, b2, hI⟩ := hP
  refine PS_gos (pc' := 594) (L' := lL i a5 a6 a7) (st' := [.int (i + nI5 1), .ref 250, .ref 0]) [594] 8 rfl ?_
  refine PS_sld rfl (hv 1 (by decide)) ?_
  refine PS_call rfl (lc_call (b := 0) (bs := [.int (lx xs i 1)]) (rest := []) lo_85 (f0 _) (Nat.le_of_ble_eq_true rfl)) (lc_nm (by decide)) b1 ?_
  refine PS_gos (pc' := 604) (L' := lL i a5 a6 a7) (st' := [.int (i + nI5 1), .ref 250, .ref 219, .int v]) [604] 8 rfl ?_
  refine PS_sld rfl (hv 1 (by decide)) ?_
  refine PS_call rfl (lc_call (b := 219) (bs := [.int (lx xs i 1)]) (rest := [.int v]) lo_180 (f219 _) (Nat.le_of_ble_eq_true rfl)) (lc_nm (by decide)) b2 ?_
  exact PS_yes rfl rfl rfl (PS_end ⟨rfl, rfl, _, _, _, _, _, _, rfl, hI, rfl⟩)
set_option maxRecDepth 20000 in
theorem lc_11 (hv : ∀ t : Nat, t ≤ 4 → vp_in (i + nI5 t) Ln) (hP : lwP IV B 86 181 [.int (lx xs i 1)] M ML R) : PSt 110 xs Ln kl_11 (lq IV B i) (fm_mk (M, ML, R)) 613 (lL i a5 a6 a7) [] := by
  obtain ⟨v, M1, L1, R1, M2, L2, R2, b1, b2, hI⟩ := hP
  refine PS_gos (pc' := 619) (L' := lL i a5 a6 a7) (st' := [.int (i + nI5 1), .ref 250, .ref 0]) [619] 8 rfl ?_
  refine PS_sld rfl (hv 1 (by decide)) ?_
  refine PS_call rfl (lc_call (b := 0) (bs := [.int (lx xs i 1)]) (rest := []) lo_86 (f0 _) (Nat.le_of_ble_eq_true rfl)) (lc_nm (by decide)) b1 ?_
  refine PS_gos (pc' := 629) (L' := lL i a5 a6 a7) (st' := [.int (i + nI5 1), .ref 250, .ref 219, .int v]) [629] 8 rfl ?_
  refine PS_sld rfl (hv 1 (by decide)) ?_
  refine PS_call rfl (lc_call (b := 219) (bs := [.int (lx xs i 1)]) (rest := [.int v]) lo_181 (f219 _) (Nat.le_of_ble_eq_true rfl)) (lc_nm (by decide)) b2 ?_
  exact PS_yes rfl rfl rfl (PS_end ⟨rfl, rfl, _, _, _, _, _, _, rfl, hI, rfl⟩)
set_option maxRecDepth 20000 in
theorem lc_12 (hv : ∀ t : Nat, t ≤ 4 → vp_in (i + nI5 t) Ln) (hP : lwP IV B 88 182 [] M ML R) : PSt 110 xs Ln kl_12 (lq IV B i) (fm_mk (M, ML, R)) 638 (lL i a5 a6 a7) [] := by
  obtain ⟨v, M1, L1, R1, M2, L2, R2, b1, b2, hI⟩ := hP
  refine PS_gos (pc' := 639) (L' := lL i a5 a6 a7) (st' := [.ref 0]) [639] 6 rfl ?_
  refine PS_call rfl (lc_call (b := 0) (bs := []) (rest := []) lo_88 (f0 _) (Nat.le_of_ble_eq_true rfl)) (lc_nm (by decide)) b1 ?_
  refine PS_gos (pc' := 643) (L' := lL i a5 a6 a7) (st' := [.ref 219, .int v]) [643] 6 rfl ?_
  refine PS_call rfl (lc_call (b := 219) (bs := []) (rest := [.int v]) lo_182 (f219 _) (Nat.le_of_ble_eq_true rfl)) (lc_nm (by decide)) b2 ?_
  exact PS_yes rfl rfl rfl (PS_end ⟨rfl, rfl, _, _, _, _, _, _, rfl, hI, rfl⟩)
set_option maxRecDepth 20000 in
theorem lc_13 (hv : ∀ t : Nat, t ≤ 4 → vp_in (i + nI5 t) Ln) (hP : lwP IV B 90 185 [] M ML R) : PSt 110 xs Ln kl_13 (lq IV B i) (fm_mk (M, ML, R)) 651 (lL i a5 a6 a7) [] := by
  obtain ⟨v, M1, L1, R1, M2, L2, R2, b1, b2, hI⟩ := hP
  refine PS_gos (pc' := 652) (L' := lL i a5 a6 a7) (st' := [.ref 0]) [652] 6 rfl ?_
  refine PS_call rfl (lc_call (b := 0) (bs := []) (rest := []) lo_90 (f0 _) (Nat.le_of_ble_eq_true rfl)) (lc_nm (by decide)) b1 ?_
  refine PS_gos (pc' := 656) (L' := lL i a5 a6 a7) (st' := [.ref 219, .int v]) [656] 6 rfl ?_
  refine PS_call rfl (lc_call (b := 219) (bs := []) (rest := [.int v]) lo_185 (f219 _) (Nat.le_of_ble_eq_true rfl)) (lc_nm (by decide)) b2 ?_
  exact PS_yes rfl rfl rfl (PS_end ⟨rfl, rfl, _, _, _, _, _, _, rfl, hI, rfl⟩)
set_option maxRecDepth 20000 in
theorem lc_14 (hv : ∀ t : Nat, t ≤ 4 → vp_in (i + nI5 t) Ln) (hP : lwP IV B 91 187 [.int (lx xs i 1)] M ML R) : PSt 110 xs Ln kl_14 (lq IV B i) (fm_mk (M, ML, R)) 664 (lL i a5 a6 a7) [] := by
  obtain ⟨v, M1, L1, R1, M2, L2, R2, b1, b2, hI⟩ := hP
  refine PS_gos (pc' := 670) (L' := lL i a5 a6 a7) (st' := [.int (i + nI5 1), .ref 250, .ref 0]) [670] 8 rfl ?_
  refine PS_sld rfl (hv 1 (by decide)) ?_
  refine PS_call rfl (lc_call (b := 0) (bs := [.int (lx xs i 1)]) (rest := []) lo_91 (f0 _) (Nat.le_of_ble_eq_true rfl)) (lc_nm (by decide)) b1 ?_
  refine PS_gos (pc' := 680) (L' := lL i a5 a6 a7) (st' := [.int (i + nI5 1), .ref 250, .ref 219, .int v]) [680] 8 rfl ?_
  refine PS_sld rfl (hv 1 (by decide)) ?_
  refine PS_call rfl (lc_call (b := 219) (bs := [.int (lx xs i 1)]) (rest := [.int v]) lo_187 (f219 _) (Nat.le_of_ble_eq_true rfl)) (lc_nm (by decide)) b2 ?_
  exact PS_yes rfl rfl rfl (PS_end ⟨rfl, rfl, _, _, _, _, _, _, rfl, hI, rfl⟩)
set_option maxRecDepth 20000 in
theorem lc_15 (hv : ∀ t : Nat, t ≤ 4 → vp_in (i + nI5 t) Ln) (hP : lwP IV B 92 188 [] M ML R) : PSt 110 xs Ln kl_15 (lq IV B i) (fm_mk (M, ML, R)) 689 (lL i a5 a6 a7) [] := by
  obtain ⟨v, M1, L1, R1, M2, L2, R2, b1, b2, hI⟩ := hP
  refine PS_gos (pc' := 690) (L' := lL i a5 a6 a7) (st' := [.ref 0]) [690] 6 rfl ?_
  refine PS_call rfl (lc_call (b := 0) (bs := []) (rest := []) lo_92 (f0 _) (Nat.le_of_ble_eq_true rfl)) (lc_nm (by decide)) b1 ?_
  refine PS_gos (pc' := 694) (L' := lL i a5 a6 a7) (st' := [.ref 219, .int v]) [694] 6 rfl ?_
  refine PS_call rfl (lc_call (b := 219) (bs := []) (rest := [.int v]) lo_188 (f219 _) (Nat.le_of_ble_eq_true rfl)) (lc_nm (by decide)) b2 ?_
  exact PS_yes rfl rfl rfl (PS_end ⟨rfl, rfl, _, _, _, _, _, _, rfl, hI, rfl⟩)
set_option maxRecDepth 20000 in
theorem lc_16 (hv : ∀ t : Nat, t ≤ 4 → vp_in (i + nI5 t) Ln) (hP : lwP IV B 93 189 [] M ML R) : PSt 110 xs Ln kl_16 (lq IV B i) (fm_mk (M, ML, R)) 702 (lL i a5 a6 a7) [] := by
  obtain ⟨v, M1, L1, R1, M2, L2, R2, b1, b2, hI⟩ := hP
  refine PS_gos (pc' := 703) (L' := lL i a5 a6 a7) (st' := [.ref 0]) [703] 6 rfl ?_
  refine PS_call rfl (lc_call (b := 0) (bs := []) (rest := []) lo_93 (f0 _) (Nat.le_of_ble_eq_true rfl)) (lc_nm (by decide)) b1 ?_
  refine PS_gos (pc' := 707) (L' := lL i a5 a6 a7) (st' := [.ref 219, .int v]) [707] 6 rfl ?_
  refine PS_call rfl (lc_call (b := 219) (bs := []) (rest := [.int v]) lo_189 (f219 _) (Nat.le_of_ble_eq_true rfl)) (lc_nm (by decide)) b2 ?_
  exact PS_yes rfl rfl rfl (PS_end ⟨rfl, rfl, _, _, _, _, _, _, rfl, hI, rfl⟩)
set_option maxRecDepth 20000 in
theorem lc_17 (hv : ∀ t : Nat, t ≤ 4 → vp_in (i + nI5 t) Ln) (hP : lwP IV B 94 191 [] M ML R) : PSt 110 xs Ln kl_17 (lq IV B i) (fm_mk (M, ML, R)) 715 (lL i a5 a6 a7) [] := by
  obtain ⟨v, M1, L1, R1, M2, L2, R2, b1, b2, hI⟩ := hP
  refine PS_gos (pc' := 716) (L' := lL i a5 a6 a7) (st' := [.ref 0]) [716] 6 rfl ?_
  refine PS_call rfl (lc_call (b := 0) (bs := []) (rest := []) lo_94 (f0 _) (Nat.le_of_ble_eq_true rfl)) (lc_nm (by decide)) b1 ?_
  refine PS_gos (pc' := 720) (L' := lL i a5 a6 a7) (st' := [.ref 219, .int v]) [720] 6 rfl ?_
  refine PS_call rfl (lc_call (b := 219) (bs := []) (rest := [.int v]) lo_191 (f219 _) (Nat.le_of_ble_eq_true rfl)) (lc_nm (by decide)) b2 ?_
  exact PS_yes rfl rfl rfl (PS_end ⟨rfl, rfl, _, _, _, _, _, _, rfl, hI, rfl⟩)
set_option maxRecDepth 20000 in
theorem lc_18 (hv : ∀ t : Nat, t ≤ 4 → vp_in (i + nI5 t) Ln) (hP : lwP IV B 95 192 [.int (lx xs i 1)] M ML R) : PSt 110 xs Ln kl_18 (lq IV B i) (fm_mk (M, ML, R)) 728 (lL i a5 a6 a7) [] := by
  obtain ⟨v, M1, L1, R1, M2, L2, R2, b1, b2, hI⟩ := hP
  refine PS_gos (pc' := 734) (L' := lL i a5 a6 a7) (st' := [.int (i + nI5 1), .ref 250, .ref 0]) [734] 8 rfl ?_
  refine PS_sld rfl (hv 1 (by decide)) ?_
  refine PS_call rfl (lc_call (b := 0) (bs := [.int (lx xs i 1)]) (rest := []) lo_95 (f0 _) (Nat.le_of_ble_eq_true rfl)) (lc_nm (by decide)) b1 ?_
  refine PS_gos (pc' := 744) (L' := lL i a5 a6 a7) (st' := [.int (i + nI5 1), .ref 250, .ref 219, .int v]) [744] 8 rfl ?_
  refine PS_sld rfl (hv 1 (by decide)) ?_
  refine PS_call rfl (lc_call (b := 219) (bs := [.int (lx xs i 1)]) (rest := [.int v]) lo_192 (f219 _) (Nat.le_of_ble_eq_true rfl)) (lc_nm (by decide)) b2 ?_
  exact PS_yes rfl rfl rfl (PS_end ⟨rfl, rfl, _, _, _, _, _, _, rfl, hI, rfl⟩)
set_option maxRecDepth 20000 in
theorem lc_19 (hv : ∀ t : Nat, t ≤ 4 → vp_in (i + nI5 t) Ln) (hP : lwP IV B 96 193 [.int (lx xs i 1)] M ML R) : PSt 110 xs Ln kl_19 (lq IV B i) (fm_mk (M, ML, R)) 753 (lL i a5 a6 a7) [] := by
  obtain ⟨v, M1, L1, R1, M2, L2, R2, b1, b2, hI⟩ := hP
  refine PS_gos (pc' := 759) (L' := lL i a5 a6 a7) (st' := [.int (i + nI5 1), .ref 250, .ref 0]) [759] 8 rfl ?_
  refine PS_sld rfl (hv 1 (by decide)) ?_
  refine PS_call rfl (lc_call (b := 0) (bs := [.int (lx xs i 1)]) (rest := []) lo_96 (f0 _) (Nat.le_of_ble_eq_true rfl)) (lc_nm (by decide)) b1 ?_
  refine PS_gos (pc' := 769) (L' := lL i a5 a6 a7) (st' := [.int (i + nI5 1), .ref 250, .ref 219, .int v]) [769] 8 rfl ?_
  refine PS_sld rfl (hv 1 (by decide)) ?_
  refine PS_call rfl (lc_call (b := 219) (bs := [.int (lx xs i 1)]) (rest := [.int v]) lo_193 (f219 _) (Nat.le_of_ble_eq_true rfl)) (lc_nm (by decide)) b2 ?_
  exact PS_yes rfl rfl rfl (PS_end ⟨rfl, rfl, _, _, _, _, _, _, rfl, hI, rfl⟩)
set_option maxRecDepth 20000 in
theorem lc_20 (hv : ∀ t : Nat, t ≤ 4 → vp_in (i + nI5 t) Ln) (hP : lwP IV B 97 194 [.int (lx xs i 1), .int (lx xs i 2)] M ML R) : PSt 110 xs Ln kl_20 (lq IV B i) (fm_mk (M, ML, R)) 778 (lL i a5 a6 a7) [] := by
  obtain ⟨v, M1, L1, R1, M2, L2, R2, b1, b2, hI⟩ := hP
  refine PS_gos (pc' := 784) (L' := lL i a5 a6 a7) (st' := [.int (i + nI5 1), .ref 250, .ref 0]) [784] 8 rfl ?_
  refine PS_sld rfl (hv 1 (by decide)) ?_
  refine PS_gos (pc' := 790) (L' := lL i a5 a6 a7) (st' := [.int (i + nI5 2), .ref 250, .int (lx xs i 1), .ref 0]) [790] 8 rfl ?_
  refine PS_sld rfl (hv 2 (by decide)) ?_
  refine PS_call rfl (lc_call (b := 0) (bs := [.int (lx xs i 1), .int (lx xs i 2)]) (rest := []) lo_97 (f0 _) (Nat.le_of_ble_eq_true rfl)) (lc_nm (by decide)) b1 ?_
  refine PS_gos (pc' := 800) (L' := lL i a5 a6 a7) (st' := [.int (i + nI5 1), .ref 250, .ref 219, .int v]) [800] 8 rfl ?_
  refine PS_sld rfl (hv 1 (by decide)) ?_
  refine PS_gos (pc' := 806) (L' := lL i a5 a6 a7) (st' := [.int (i + nI5 2), .ref 250, .int (lx xs i 1), .ref 219, .int v]) [806] 8 rfl ?_
  refine PS_sld rfl (hv 2 (by decide)) ?_
  refine PS_call rfl (lc_call (b := 219) (bs := [.int (lx xs i 1), .int (lx xs i 2)]) (rest := [.int v]) lo_194 (f219 _) (Nat.le_of_ble_eq_true rfl)) (lc_nm (by decide)) b2 ?_
  exact PS_yes rfl rfl rfl (PS_end ⟨rfl, rfl, _, _, _, _, _, _, rfl, hI, rfl⟩)
set_option maxRecDepth 20000 in
theorem lc_21 (hv : ∀ t : Nat, t ≤ 4 → vp_in (i + nI5 t) Ln) (hP : lwP IV B 98 195 [] M ML R) : PSt 110 xs Ln kl_21 (lq IV B i) (fm_mk (M, ML, R)) 815 (lL i a5 a6 a7) [] := by
  obtain ⟨v, M1, L1, R1, M2, L2, R2, b1, b2, hI⟩ := hP
  refine PS_gos (pc' := 816) (L' := lL i a5 a6 a7) (st' := [.ref 0]) [816] 6 rfl ?_
  refine PS_call rfl (lc_call (b := 0) (bs := []) (rest := []) lo_98 (f0 _) (Nat.le_of_ble_eq_true rfl)) (lc_nm (by decide)) b1 ?_
  refine PS_gos (pc' := 820) (L' := lL i a5 a6 a7) (st' := [.ref 219, .int v]) [820] 6 rfl ?_
  refine PS_call rfl (lc_call (b := 219) (bs := []) (rest := [.int v]) lo_195 (f219 _) (Nat.le_of_ble_eq_true rfl)) (lc_nm (by decide)) b2 ?_
  exact PS_yes rfl rfl rfl (PS_end ⟨rfl, rfl, _, _, _, _, _, _, rfl, hI, rfl⟩)
set_option maxRecDepth 20000 in
theorem lc_22 (hv : ∀ t : Nat, t ≤ 4 → vp_in (i + nI5 t) Ln) (hP : lwP IV B 99 196 [] M ML R) : PSt 110 xs Ln kl_22 (lq IV B i) (fm_mk (M, ML, R)) 828 (lL i a5 a6 a7) [] := by
  obtain ⟨v, M1, L1, R1, M2, L2, R2, b1, b2, hI⟩ := hP
  refine PS_gos (pc' := 829) (L' := lL i a5 a6 a7) (st' := [.ref 0]) [829] 6 rfl ?_
  refine PS_call rfl (lc_call (b := 0) (bs := []) (rest := []) lo_99 (f0 _) (Nat.le_of_ble_eq_true rfl)) (lc_nm (by decide)) b1 ?_
  refine PS_gos (pc' := 833) (L' := lL i a5 a6 a7) (st' := [.ref 219, .int v]) [833] 6 rfl ?_
  refine PS_call rfl (lc_call (b := 219) (bs := []) (rest := [.int v]) lo_196 (f219 _) (Nat.le_of_ble_eq_true rfl)) (lc_nm (by decide)) b2 ?_
  exact PS_yes rfl rfl rfl (PS_end ⟨rfl, rfl, _, _, _, _, _, _, rfl, hI, rfl⟩)
set_option maxRecDepth 20000 in
theorem lc_23 (hv : ∀ t : Nat, t ≤ 4 → vp_in (i + nI5 t) Ln) (hP : lwP IV B 100 197 [.int (lx xs i 1), .int (lx xs i 2)] M ML R) : PSt 110 xs Ln kl_23 (lq IV B i) (fm_mk (M, ML, R)) 841 (lL i a5 a6 a7) [] := by
  obtain ⟨v, M1, L1, R1, M2, L2, R2, b1, b2, hI⟩ := hP
  refine PS_gos (pc' := 847) (L' := lL i a5 a6 a7) (st' := [.int (i + nI5 1), .ref 250, .ref 0]) [847] 8 rfl ?_
  refine PS_sld rfl (hv 1 (by decide)) ?_
  refine PS_gos (pc' := 853) (L' := lL i a5 a6 a7) (st' := [.int (i + nI5 2), .ref 250, .int (lx xs i 1), .ref 0]) [853] 8 rfl ?_
  refine PS_sld rfl (hv 2 (by decide)) ?_
  refine PS_call rfl (lc_call (b := 0) (bs := [.int (lx xs i 1), .int (lx xs i 2)]) (rest := []) lo_100 (f0 _) (Nat.le_of_ble_eq_true rfl)) (lc_nm (by decide)) b1 ?_
  refine PS_gos (pc' := 863) (L' := lL i a5 a6 a7) (st' := [.int (i + nI5 1), .ref 250, .ref 219, .int v]) [863] 8 rfl ?_
  refine PS_sld rfl (hv 1 (by decide)) ?_
  refine PS_gos (pc' := 869) (L' := lL i a5 a6 a7) (st' := [.int (i + nI5 2), .ref 250, .int (lx xs i 1), .ref 219, .int v]) [869] 8 rfl ?_
  refine PS_sld rfl (hv 2 (by decide)) ?_
  refine PS_call rfl (lc_call (b := 219) (bs := [.int (lx xs i 1), .int (lx xs i 2)]) (rest := [.int v]) lo_197 (f219 _) (Nat.le_of_ble_eq_true rfl)) (lc_nm (by decide)) b2 ?_
  exact PS_yes rfl rfl rfl (PS_end ⟨rfl, rfl, _, _, _, _, _, _, rfl, hI, rfl⟩)
set_option maxRecDepth 20000 in
theorem lc_24 (hv : ∀ t : Nat, t ≤ 4 → vp_in (i + nI5 t) Ln) (hP : lwP IV B 101 198 [.int (lx xs i 1)] M ML R) : PSt 110 xs Ln kl_24 (lq IV B i) (fm_mk (M, ML, R)) 878 (lL i a5 a6 a7) [] := by
  obtain ⟨v, M1, L1, R1, M2, L2, R2, b1, b2, hI⟩ := hP
  refine PS_gos (pc' := 884) (L' := lL i a5 a6 a7) (st' := [.int (i + nI5 1), .ref 250, .ref 0]) [884] 8 rfl ?_
  refine PS_sld rfl (hv 1 (by decide)) ?_
  refine PS_call rfl (lc_call (b := 0) (bs := [.int (lx xs i 1)]) (rest := []) lo_101 (f0 _) (Nat.le_of_ble_eq_true rfl)) (lc_nm (by decide)) b1 ?_
  refine PS_gos (pc' := 894) (L' := lL i a5 a6 a7) (st' := [.int (i + nI5 1), .ref 250, .ref 219, .int v]) [894] 8 rfl ?_
  refine PS_sld rfl (hv 1 (by decide)) ?_
  refine PS_call rfl (lc_call (b := 219) (bs := [.int (lx xs i 1)]) (rest := [.int v]) lo_198 (f219 _) (Nat.le_of_ble_eq_true rfl)) (lc_nm (by decide)) b2 ?_
  exact PS_yes rfl rfl rfl (PS_end ⟨rfl, rfl, _, _, _, _, _, _, rfl, hI, rfl⟩)
set_option maxRecDepth 20000 in
theorem lc_25 (hv : ∀ t : Nat, t ≤ 4 → vp_in (i + nI5 t) Ln) (hP : lwP IV B 103 199 [.int (lx xs i 1)] M ML R) : PSt 110 xs Ln kl_25 (lq IV B i) (fm_mk (M, ML, R)) 903 (lL i a5 a6 a7) [] := by
  obtain ⟨v, M1, L1, R1, M2, L2, R2, b1, b2, hI⟩ := hP
  refine PS_gos (pc' := 909) (L' := lL i a5 a6 a7) (st' := [.int (i + nI5 1), .ref 250, .ref 0]) [909] 8 rfl ?_
  refine PS_sld rfl (hv 1 (by decide)) ?_
  refine PS_call rfl (lc_call (b := 0) (bs := [.int (lx xs i 1)]) (rest := []) lo_103 (f0 _) (Nat.le_of_ble_eq_true rfl)) (lc_nm (by decide)) b1 ?_
  refine PS_gos (pc' := 919) (L' := lL i a5 a6 a7) (st' := [.int (i + nI5 1), .ref 250, .ref 219, .int v]) [919] 8 rfl ?_
  refine PS_sld rfl (hv 1 (by decide)) ?_
  refine PS_call rfl (lc_call (b := 219) (bs := [.int (lx xs i 1)]) (rest := [.int v]) lo_199 (f219 _) (Nat.le_of_ble_eq_true rfl)) (lc_nm (by decide)) b2 ?_
  exact PS_yes rfl rfl rfl (PS_end ⟨rfl, rfl, _, _, _, _, _, _, rfl, hI, rfl⟩)
set_option maxRecDepth 20000 in
theorem lc_26 (hv : ∀ t : Nat, t ≤ 4 → vp_in (i + nI5 t) Ln) (hP : lwP IV B 104 203 [.int (lx xs i 1)] M ML R) : PSt 110 xs Ln kl_26 (lq IV B i) (fm_mk (M, ML, R)) 928 (lL i a5 a6 a7) [] := by
  obtain ⟨v, M1, L1, R1, M2, L2, R2, b1, b2, hI⟩ := hP
  refine PS_gos (pc' := 934) (L' := lL i a5 a6 a7) (st' := [.int (i + nI5 1), .ref 250, .ref 0]) [934] 8 rfl ?_
  refine PS_sld rfl (hv 1 (by decide)) ?_
  refine PS_call rfl (lc_call (b := 0) (bs := [.int (lx xs i 1)]) (rest := []) lo_104 (f0 _) (Nat.le_of_ble_eq_true rfl)) (lc_nm (by decide)) b1 ?_
  refine PS_gos (pc' := 944) (L' := lL i a5 a6 a7) (st' := [.int (i + nI5 1), .ref 250, .ref 219, .int v]) [944] 8 rfl ?_
  refine PS_sld rfl (hv 1 (by decide)) ?_
  refine PS_call rfl (lc_call (b := 219) (bs := [.int (lx xs i 1)]) (rest := [.int v]) lo_203 (f219 _) (Nat.le_of_ble_eq_true rfl)) (lc_nm (by decide)) b2 ?_
  exact PS_yes rfl rfl rfl (PS_end ⟨rfl, rfl, _, _, _, _, _, _, rfl, hI, rfl⟩)
set_option maxRecDepth 20000 in
theorem lc_27 (hv : ∀ t : Nat, t ≤ 4 → vp_in (i + nI5 t) Ln) (hP : lwP IV B 105 204 [.int (lx xs i 1)] M ML R) : PSt 110 xs Ln kl_27 (lq IV B i) (fm_mk (M, ML, R)) 953 (lL i a5 a6 a7) [] := by
  obtain ⟨v, M1, L1, R1, M2, L2, R2, b1, b2, hI⟩ := hP
  refine PS_gos (pc' := 959) (L' := lL i a5 a6 a7) (st' := [.int (i + nI5 1), .ref 250, .ref 0]) [959] 8 rfl ?_
  refine PS_sld rfl (hv 1 (by decide)) ?_
  refine PS_call rfl (lc_call (b := 0) (bs := [.int (lx xs i 1)]) (rest := []) lo_105 (f0 _) (Nat.le_of_ble_eq_true rfl)) (lc_nm (by decide)) b1 ?_
  refine PS_gos (pc' := 969) (L' := lL i a5 a6 a7) (st' := [.int (i + nI5 1), .ref 250, .ref 219, .int v]) [969] 8 rfl ?_
  refine PS_sld rfl (hv 1 (by decide)) ?_
  refine PS_call rfl (lc_call (b := 219) (bs := [.int (lx xs i 1)]) (rest := [.int v]) lo_204 (f219 _) (Nat.le_of_ble_eq_true rfl)) (lc_nm (by decide)) b2 ?_
  exact PS_yes rfl rfl rfl (PS_end ⟨rfl, rfl, _, _, _, _, _, _, rfl, hI, rfl⟩)
set_option maxRecDepth 20000 in
theorem lc_28 (hv : ∀ t : Nat, t ≤ 4 → vp_in (i + nI5 t) Ln) (hP : lwP IV B 107 205 [] M ML R) : PSt 110 xs Ln kl_28 (lq IV B i) (fm_mk (M, ML, R)) 978 (lL i a5 a6 a7) [] := by
  obtain ⟨v, M1, L1, R1, M2, L2, R2, b1, b2, hI⟩ := hP
  refine PS_gos (pc' := 979) (L' := lL i a5 a6 a7) (st' := [.ref 0]) [979] 6 rfl ?_
  refine PS_call rfl (lc_call (b := 0) (bs := []) (rest := []) lo_107 (f0 _) (Nat.le_of_ble_eq_true rfl)) (lc_nm (by decide)) b1 ?_
  refine PS_gos (pc' := 983) (L' := lL i a5 a6 a7) (st' := [.ref 219, .int v]) [983] 6 rfl ?_
  refine PS_call rfl (lc_call (b := 219) (bs := []) (rest := [.int v]) lo_205 (f219 _) (Nat.le_of_ble_eq_true rfl)) (lc_nm (by decide)) b2 ?_
  exact PS_yes rfl rfl rfl (PS_end ⟨rfl, rfl, _, _, _, _, _, _, rfl, hI, rfl⟩)
set_option maxRecDepth 20000 in
theorem lc_29 (hv : ∀ t : Nat, t ≤ 4 → vp_in (i + nI5 t) Ln) (hP : lwP IV B 108 206 [] M ML R) : PSt 110 xs Ln kl_29 (lq IV B i) (fm_mk (M, ML, R)) 991 (lL i a5 a6 a7) [] := by
  obtain ⟨v, M1, L1, R1, M2, L2, R2, b1, b2, hI⟩ := hP
  refine PS_gos (pc' := 992) (L' := lL i a5 a6 a7) (st' := [.ref 0]) [992] 6 rfl ?_
  refine PS_call rfl (lc_call (b := 0) (bs := []) (rest := []) lo_108 (f0 _) (Nat.le_of_ble_eq_true rfl)) (lc_nm (by decide)) b1 ?_
  refine PS_gos (pc' := 996) (L' := lL i a5 a6 a7) (st' := [.ref 219, .int v]) [996] 6 rfl ?_
  refine PS_call rfl (lc_call (b := 219) (bs := []) (rest := [.int v]) lo_206 (f219 _) (Nat.le_of_ble_eq_true rfl)) (lc_nm (by decide)) b2 ?_
  exact PS_yes rfl rfl rfl (PS_end ⟨rfl, rfl, _, _, _, _, _, _, rfl, hI, rfl⟩)
set_option maxRecDepth 20000 in
theorem lc_30 (hv : ∀ t : Nat, t ≤ 4 → vp_in (i + nI5 t) Ln) (hP : lwP IV B 109 209 [.int (lx xs i 1), .int (lx xs i 2)] M ML R) : PSt 110 xs Ln kl_30 (lq IV B i) (fm_mk (M, ML, R)) 1004 (lL i a5 a6 a7) [] := by
  obtain ⟨v, M1, L1, R1, M2, L2, R2, b1, b2, hI⟩ := hP
  refine PS_gos (pc' := 1010) (L' := lL i a5 a6 a7) (st' := [.int (i + nI5 1), .ref 250, .ref 0]) [1010] 8 rfl ?_
  refine PS_sld rfl (hv 1 (by decide)) ?_
  refine PS_gos (pc' := 1016) (L' := lL i a5 a6 a7) (st' := [.int (i + nI5 2), .ref 250, .int (lx xs i 1), .ref 0]) [1016] 8 rfl ?_
  refine PS_sld rfl (hv 2 (by decide)) ?_
  refine PS_call rfl (lc_call (b := 0) (bs := [.int (lx xs i 1), .int (lx xs i 2)]) (rest := []) lo_109 (f0 _) (Nat.le_of_ble_eq_true rfl)) (lc_nm (by decide)) b1 ?_
  refine PS_gos (pc' := 1026) (L' := lL i a5 a6 a7) (st' := [.int (i + nI5 1), .ref 250, .ref 219, .int v]) [1026] 8 rfl ?_
  refine PS_sld rfl (hv 1 (by decide)) ?_
  refine PS_gos (pc' := 1032) (L' := lL i a5 a6 a7) (st' := [.int (i + nI5 2), .ref 250, .int (lx xs i 1), .ref 219, .int v]) [1032] 8 rfl ?_
  refine PS_sld rfl (hv 2 (by decide)) ?_
  refine PS_call rfl (lc_call (b := 219) (bs := [.int (lx xs i 1), .int (lx xs i 2)]) (rest := [.int v]) lo_209 (f219 _) (Nat.le_of_ble_eq_true rfl)) (lc_nm (by decide)) b2 ?_
  exact PS_yes rfl rfl rfl (PS_end ⟨rfl, rfl, _, _, _, _, _, _, rfl, hI, rfl⟩)
set_option maxRecDepth 20000 in
theorem lc_31 (hv : ∀ t : Nat, t ≤ 4 → vp_in (i + nI5 t) Ln) (hP : lwP IV B 110 210 [] M ML R) : PSt 110 xs Ln kl_31 (lq IV B i) (fm_mk (M, ML, R)) 1041 (lL i a5 a6 a7) [] := by
  obtain ⟨v, M1, L1, R1, M2, L2, R2, b1, b2, hI⟩ := hP
  refine PS_gos (pc' := 1042) (L' := lL i a5 a6 a7) (st' := [.ref 0]) [1042] 6 rfl ?_
  refine PS_call rfl (lc_call (b := 0) (bs := []) (rest := []) lo_110 (f0 _) (Nat.le_of_ble_eq_true rfl)) (lc_nm (by decide)) b1 ?_
  refine PS_gos (pc' := 1046) (L' := lL i a5 a6 a7) (st' := [.ref 219, .int v]) [1046] 6 rfl ?_
  refine PS_call rfl (lc_call (b := 219) (bs := []) (rest := [.int v]) lo_210 (f219 _) (Nat.le_of_ble_eq_true rfl)) (lc_nm (by decide)) b2 ?_
  exact PS_yes rfl rfl rfl (PS_end ⟨rfl, rfl, _, _, _, _, _, _, rfl, hI, rfl⟩)
set_option maxRecDepth 20000 in
theorem lc_32 (hv : ∀ t : Nat, t ≤ 4 → vp_in (i + nI5 t) Ln) (hP : lwP IV B 111 213 [] M ML R) : PSt 110 xs Ln kl_32 (lq IV B i) (fm_mk (M, ML, R)) 1054 (lL i a5 a6 a7) [] := by
  obtain ⟨v, M1, L1, R1, M2, L2, R2, b1, b2, hI⟩ := hP
  refine PS_gos (pc' := 1055) (L' := lL i a5 a6 a7) (st' := [.ref 0]) [1055] 6 rfl ?_
  refine PS_call rfl (lc_call (b := 0) (bs := []) (rest := []) lo_111 (f0 _) (Nat.le_of_ble_eq_true rfl)) (lc_nm (by decide)) b1 ?_
  refine PS_gos (pc' := 1059) (L' := lL i a5 a6 a7) (st' := [.ref 219, .int v]) [1059] 6 rfl ?_
  refine PS_call rfl (lc_call (b := 219) (bs := []) (rest := [.int v]) lo_213 (f219 _) (Nat.le_of_ble_eq_true rfl)) (lc_nm (by decide)) b2 ?_
  exact PS_yes rfl rfl rfl (PS_end ⟨rfl, rfl, _, _, _, _, _, _, rfl, hI, rfl⟩)
set_option maxRecDepth 20000 in
theorem lc_33 (hv : ∀ t : Nat, t ≤ 4 → vp_in (i + nI5 t) Ln) (hP : lwP IV B 112 214 [] M ML R) : PSt 110 xs Ln kl_33 (lq IV B i) (fm_mk (M, ML, R)) 1067 (lL i a5 a6 a7) [] := by
  obtain ⟨v, M1, L1, R1, M2, L2, R2, b1, b2, hI⟩ := hP
  refine PS_gos (pc' := 1068) (L' := lL i a5 a6 a7) (st' := [.ref 0]) [1068] 6 rfl ?_
  refine PS_call rfl (lc_call (b := 0) (bs := []) (rest := []) lo_112 (f0 _) (Nat.le_of_ble_eq_true rfl)) (lc_nm (by decide)) b1 ?_
  refine PS_gos (pc' := 1072) (L' := lL i a5 a6 a7) (st' := [.ref 219, .int v]) [1072] 6 rfl ?_
  refine PS_call rfl (lc_call (b := 219) (bs := []) (rest := [.int v]) lo_214 (f219 _) (Nat.le_of_ble_eq_true rfl)) (lc_nm (by decide)) b2 ?_
  exact PS_yes rfl rfl rfl (PS_end ⟨rfl, rfl, _, _, _, _, _, _, rfl, hI, rfl⟩)
set_option maxRecDepth 20000 in
theorem lc_34 (hv : ∀ t : Nat, t ≤ 4 → vp_in (i + nI5 t) Ln) (hP : lwP IV B 113 215 [.int (lx xs i 1), .int (lx xs i 2)] M ML R) : PSt 110 xs Ln kl_34 (lq IV B i) (fm_mk (M, ML, R)) 1080 (lL i a5 a6 a7) [] := by
  obtain ⟨v, M1, L1, R1, M2, L2, R2, b1, b2, hI⟩ := hP
  refine PS_gos (pc' := 1086) (L' := lL i a5 a6 a7) (st' := [.int (i + nI5 1), .ref 250, .ref 0]) [1086] 8 rfl ?_
  refine PS_sld rfl (hv 1 (by decide)) ?_
  refine PS_gos (pc' := 1092) (L' := lL i a5 a6 a7) (st' := [.int (i + nI5 2), .ref 250, .int (lx xs i 1), .ref 0]) [1092] 8 rfl ?_
  refine PS_sld rfl (hv 2 (by decide)) ?_
  refine PS_call rfl (lc_call (b := 0) (bs := [.int (lx xs i 1), .int (lx xs i 2)]) (rest := []) lo_113 (f0 _) (Nat.le_of_ble_eq_true rfl)) (lc_nm (by decide)) b1 ?_
  refine PS_gos (pc' := 1102) (L' := lL i a5 a6 a7) (st' := [.int (i + nI5 1), .ref 250, .ref 219, .int v]) [1102] 8 rfl ?_
  refine PS_sld rfl (hv 1 (by decide)) ?_
  refine PS_gos (pc' := 1108) (L' := lL i a5 a6 a7) (st' := [.int (i + nI5 2), .ref 250, .int (lx xs i 1), .ref 219, .int v]) [1108] 8 rfl ?_
  refine PS_sld rfl (hv 2 (by decide)) ?_
  refine PS_call rfl (lc_call (b := 219) (bs := [.int (lx xs i 1), .int (lx xs i 2)]) (rest := [.int v]) lo_215 (f219 _) (Nat.le_of_ble_eq_true rfl)) (lc_nm (by decide)) b2 ?_
  exact PS_yes rfl rfl rfl (PS_end ⟨rfl, rfl, _, _, _, _, _, _, rfl, hI, rfl⟩)
set_option maxRecDepth 20000 in
theorem lc_35 (hv : ∀ t : Nat, t ≤ 4 → vp_in (i + nI5 t) Ln) (hP : lwP IV B 114 216 [] M ML R) : PSt 110 xs Ln kl_35 (lq IV B i) (fm_mk (M, ML, R)) 1117 (lL i a5 a6 a7) [] := by
  obtain ⟨v, M1, L1, R1, M2, L2, R2, b1, b2, hI⟩ := hP
  refine PS_gos (pc' := 1118) (L' := lL i a5 a6 a7) (st' := [.ref 0]) [1118] 6 rfl ?_
  refine PS_call rfl (lc_call (b := 0) (bs := []) (rest := []) lo_114 (f0 _) (Nat.le_of_ble_eq_true rfl)) (lc_nm (by decide)) b1 ?_
  refine PS_gos (pc' := 1122) (L' := lL i a5 a6 a7) (st' := [.ref 219, .int v]) [1122] 6 rfl ?_
  refine PS_call rfl (lc_call (b := 219) (bs := []) (rest := [.int v]) lo_216 (f219 _) (Nat.le_of_ble_eq_true rfl)) (lc_nm (by decide)) b2 ?_
  exact PS_yes rfl rfl rfl (PS_end ⟨rfl, rfl, _, _, _, _, _, _, rfl, hI, rfl⟩)
set_option maxRecDepth 20000 in
theorem lc_36 (hv : ∀ t : Nat, t ≤ 4 → vp_in (i + nI5 t) Ln) (hP : lwP IV B 115 218 [] M ML R) : PSt 110 xs Ln kl_36 (lq IV B i) (fm_mk (M, ML, R)) 1130 (lL i a5 a6 a7) [] := by
  obtain ⟨v, M1, L1, R1, M2, L2, R2, b1, b2, hI⟩ := hP
  refine PS_gos (pc' := 1131) (L' := lL i a5 a6 a7) (st' := [.ref 0]) [1131] 6 rfl ?_
  refine PS_call rfl (lc_call (b := 0) (bs := []) (rest := []) lo_115 (f0 _) (Nat.le_of_ble_eq_true rfl)) (lc_nm (by decide)) b1 ?_
  refine PS_gos (pc' := 1135) (L' := lL i a5 a6 a7) (st' := [.ref 219, .int v]) [1135] 6 rfl ?_
  refine PS_call rfl (lc_call (b := 219) (bs := []) (rest := [.int v]) lo_218 (f219 _) (Nat.le_of_ble_eq_true rfl)) (lc_nm (by decide)) b2 ?_
  exact PS_yes rfl rfl rfl (PS_end ⟨rfl, rfl, _, _, _, _, _, _, rfl, hI, rfl⟩)
set_option maxRecDepth 20000 in
theorem lc_37 (hv : ∀ t : Nat, t ≤ 4 → vp_in (i + nI5 t) Ln) (hP : lwP IV B 116 219 [] M ML R) : PSt 110 xs Ln kl_37 (lq IV B i) (fm_mk (M, ML, R)) 1143 (lL i a5 a6 a7) [] := by
  obtain ⟨v, M1, L1, R1, M2, L2, R2, b1, b2, hI⟩ := hP
  refine PS_gos (pc' := 1144) (L' := lL i a5 a6 a7) (st' := [.ref 0]) [1144] 6 rfl ?_
  refine PS_call rfl (lc_call (b := 0) (bs := []) (rest := []) lo_116 (f0 _) (Nat.le_of_ble_eq_true rfl)) (lc_nm (by decide)) b1 ?_
  refine PS_gos (pc' := 1148) (L' := lL i a5 a6 a7) (st' := [.ref 219, .int v]) [1148] 6 rfl ?_
  refine PS_call rfl (lc_call (b := 219) (bs := []) (rest := [.int v]) lo_219 (f219 _) (Nat.le_of_ble_eq_true rfl)) (lc_nm (by decide)) b2 ?_
  exact PS_yes rfl rfl rfl (PS_end ⟨rfl, rfl, _, _, _, _, _, _, rfl, hI, rfl⟩)
set_option maxRecDepth 20000 in
theorem lc_38 (hv : ∀ t : Nat, t ≤ 4 → vp_in (i + nI5 t) Ln) (hP : lwP IV B 117 220 [.int (lx xs i 1), .int (lx xs i 2), .int (lx xs i 3)] M ML R) : PSt 110 xs Ln kl_38 (lq IV B i) (fm_mk (M, ML, R)) 1156 (lL i a5 a6 a7) [] := by
  obtain ⟨v, M1, L1, R1, M2, L2, R2, b1, b2, hI⟩ := hP
  refine PS_gos (pc' := 1162) (L' := lL i a5 a6 a7) (st' := [.int (i + nI5 1), .ref 250, .ref 0]) [1162] 8 rfl ?_
  refine PS_sld rfl (hv 1 (by decide)) ?_
  refine PS_gos (pc' := 1168) (L' := lL i a5 a6 a7) (st' := [.int (i + nI5 2), .ref 250, .int (lx xs i 1), .ref 0]) [1168] 8 rfl ?_
  refine PS_sld rfl (hv 2 (by decide)) ?_
  refine PS_gos (pc' := 1174) (L' := lL i a5 a6 a7) (st' := [.int (i + nI5 3), .ref 250, .int (lx xs i 2), .int (lx xs i 1), .ref 0]) [1174] 8 rfl ?_
  refine PS_sld rfl (hv 3 (by decide)) ?_
  refine PS_call rfl (lc_call (b := 0) (bs := [.int (lx xs i 1), .int (lx xs i 2), .int (lx xs i 3)]) (rest := []) lo_117 (f0 _) (Nat.le_of_ble_eq_true rfl)) (lc_nm (by decide)) b1 ?_
  refine PS_gos (pc' := 1184) (L' := lL i a5 a6 a7) (st' := [.int (i + nI5 1), .ref 250, .ref 219, .int v]) [1184] 8 rfl ?_
  refine PS_sld rfl (hv 1 (by decide)) ?_
  refine PS_gos (pc' := 1190) (L' := lL i a5 a6 a7) (st' := [.int (i + nI5 2), .ref 250, .int (lx xs i 1), .ref 219, .int v]) [1190] 8 rfl ?_
  refine PS_sld rfl (hv 2 (by decide)) ?_
  refine PS_gos (pc' := 1196) (L' := lL i a5 a6 a7) (st' := [.int (i + nI5 3), .ref 250, .int (lx xs i 2), .int (lx xs i 1), .ref 219, .int v]) [1196] 8 rfl ?_
  refine PS_sld rfl (hv 3 (by decide)) ?_
  refine PS_call rfl (lc_call (b := 219) (bs := [.int (lx xs i 1), .int (lx xs i 2), .int (lx xs i 3)]) (rest := [.int v]) lo_220 (f219 _) (Nat.le_of_ble_eq_true rfl)) (lc_nm (by decide)) b2 ?_
  exact PS_yes rfl rfl rfl (PS_end ⟨rfl, rfl, _, _, _, _, _, _, rfl, hI, rfl⟩)
set_option maxRecDepth 20000 in
theorem lc_39 (hv : ∀ t : Nat, t ≤ 4 → vp_in (i + nI5 t) Ln) (hP : lwP IV B 118 222 [.int (lx xs i 1)] M ML R) : PSt 110 xs Ln kl_39 (lq IV B i) (fm_mk (M, ML, R)) 1205 (lL i a5 a6 a7) [] := by
  obtain ⟨v, M1, L1, R1, M2, L2, R2, b1, b2, hI⟩ := hP
  refine PS_gos (pc' := 1211) (L' := lL i a5 a6 a7) (st' := [.int (i + nI5 1), .ref 250, .ref 0]) [1211] 8 rfl ?_
  refine PS_sld rfl (hv 1 (by decide)) ?_
  refine PS_call rfl (lc_call (b := 0) (bs := [.int (lx xs i 1)]) (rest := []) lo_118 (f0 _) (Nat.le_of_ble_eq_true rfl)) (lc_nm (by decide)) b1 ?_
  refine PS_gos (pc' := 1221) (L' := lL i a5 a6 a7) (st' := [.int (i + nI5 1), .ref 250, .ref 219, .int v]) [1221] 8 rfl ?_
  refine PS_sld rfl (hv 1 (by decide)) ?_
  refine PS_call rfl (lc_call (b := 219) (bs := [.int (lx xs i 1)]) (rest := [.int v]) lo_222 (f219 _) (Nat.le_of_ble_eq_true rfl)) (lc_nm (by decide)) b2 ?_
  exact PS_yes rfl rfl rfl (PS_end ⟨rfl, rfl, _, _, _, _, _, _, rfl, hI, rfl⟩)
set_option maxRecDepth 20000 in
theorem lc_40 (hv : ∀ t : Nat, t ≤ 4 → vp_in (i + nI5 t) Ln) (hP : lwP IV B 119 225 [.int (lx xs i 1)] M ML R) : PSt 110 xs Ln kl_40 (lq IV B i) (fm_mk (M, ML, R)) 1230 (lL i a5 a6 a7) [] := by
  obtain ⟨v, M1, L1, R1, M2, L2, R2, b1, b2, hI⟩ := hP
  refine PS_gos (pc' := 1236) (L' := lL i a5 a6 a7) (st' := [.int (i + nI5 1), .ref 250, .ref 0]) [1236] 8 rfl ?_
  refine PS_sld rfl (hv 1 (by decide)) ?_
  refine PS_call rfl (lc_call (b := 0) (bs := [.int (lx xs i 1)]) (rest := []) lo_119 (f0 _) (Nat.le_of_ble_eq_true rfl)) (lc_nm (by decide)) b1 ?_
  refine PS_gos (pc' := 1246) (L' := lL i a5 a6 a7) (st' := [.int (i + nI5 1), .ref 250, .ref 219, .int v]) [1246] 8 rfl ?_
  refine PS_sld rfl (hv 1 (by decide)) ?_
  refine PS_call rfl (lc_call (b := 219) (bs := [.int (lx xs i 1)]) (rest := [.int v]) lo_225 (f219 _) (Nat.le_of_ble_eq_true rfl)) (lc_nm (by decide)) b2 ?_
  exact PS_yes rfl rfl rfl (PS_end ⟨rfl, rfl, _, _, _, _, _, _, rfl, hI, rfl⟩)
set_option maxRecDepth 20000 in
theorem lc_41 (hv : ∀ t : Nat, t ≤ 4 → vp_in (i + nI5 t) Ln) (hP : lwP IV B 122 227 [] M ML R) : PSt 110 xs Ln kl_41 (lq IV B i) (fm_mk (M, ML, R)) 1255 (lL i a5 a6 a7) [] := by
  obtain ⟨v, M1, L1, R1, M2, L2, R2, b1, b2, hI⟩ := hP
  refine PS_gos (pc' := 1256) (L' := lL i a5 a6 a7) (st' := [.ref 0]) [1256] 6 rfl ?_
  refine PS_call rfl (lc_call (b := 0) (bs := []) (rest := []) lo_122 (f0 _) (Nat.le_of_ble_eq_true rfl)) (lc_nm (by decide)) b1 ?_
  refine PS_gos (pc' := 1260) (L' := lL i a5 a6 a7) (st' := [.ref 219, .int v]) [1260] 6 rfl ?_
  refine PS_call rfl (lc_call (b := 219) (bs := []) (rest := [.int v]) lo_227 (f219 _) (Nat.le_of_ble_eq_true rfl)) (lc_nm (by decide)) b2 ?_
  exact PS_yes rfl rfl rfl (PS_end ⟨rfl, rfl, _, _, _, _, _, _, rfl, hI, rfl⟩)
set_option maxRecDepth 20000 in
theorem lc_42 (hv : ∀ t : Nat, t ≤ 4 → vp_in (i + nI5 t) Ln) (hP : lwP IV B 124 230 [.int (lx xs i 1), .int (lx xs i 2)] M ML R) : PSt 110 xs Ln kl_42 (lq IV B i) (fm_mk (M, ML, R)) 1268 (lL i a5 a6 a7) [] := by
  obtain ⟨v, M1, L1, R1, M2, L2, R2, b1, b2, hI⟩ := hP
  refine PS_gos (pc' := 1274) (L' := lL i a5 a6 a7) (st' := [.int (i + nI5 1), .ref 250, .ref 0]) [1274] 8 rfl ?_
  refine PS_sld rfl (hv 1 (by decide)) ?_
  refine PS_gos (pc' := 1280) (L' := lL i a5 a6 a7) (st' := [.int (i + nI5 2), .ref 250, .int (lx xs i 1), .ref 0]) [1280] 8 rfl ?_
  refine PS_sld rfl (hv 2 (by decide)) ?_
  refine PS_call rfl (lc_call (b := 0) (bs := [.int (lx xs i 1), .int (lx xs i 2)]) (rest := []) lo_124 (f0 _) (Nat.le_of_ble_eq_true rfl)) (lc_nm (by decide)) b1 ?_
  refine PS_gos (pc' := 1290) (L' := lL i a5 a6 a7) (st' := [.int (i + nI5 1), .ref 250, .ref 219, .int v]) [1290] 8 rfl ?_
  refine PS_sld rfl (hv 1 (by decide)) ?_
  refine PS_gos (pc' := 1296) (L' := lL i a5 a6 a7) (st' := [.int (i + nI5 2), .ref 250, .int (lx xs i 1), .ref 219, .int v]) [1296] 8 rfl ?_
  refine PS_sld rfl (hv 2 (by decide)) ?_
  refine PS_call rfl (lc_call (b := 219) (bs := [.int (lx xs i 1), .int (lx xs i 2)]) (rest := [.int v]) lo_230 (f219 _) (Nat.le_of_ble_eq_true rfl)) (lc_nm (by decide)) b2 ?_
  exact PS_yes rfl rfl rfl (PS_end ⟨rfl, rfl, _, _, _, _, _, _, rfl, hI, rfl⟩)
set_option maxRecDepth 20000 in
theorem lc_43 (hv : ∀ t : Nat, t ≤ 4 → vp_in (i + nI5 t) Ln) (hP : lwP IV B 127 231 [.int (lx xs i 1)] M ML R) : PSt 110 xs Ln kl_43 (lq IV B i) (fm_mk (M, ML, R)) 1305 (lL i a5 a6 a7) [] := by
  obtain ⟨v, M1, L1, R1, M2, L2, R2, b1, b2, hI⟩ := hP
  refine PS_gos (pc' := 1311) (L' := lL i a5 a6 a7) (st' := [.int (i + nI5 1), .ref 250, .ref 0]) [1311] 8 rfl ?_
  refine PS_sld rfl (hv 1 (by decide)) ?_
  refine PS_call rfl (lc_call (b := 0) (bs := [.int (lx xs i 1)]) (rest := []) lo_127 (f0 _) (Nat.le_of_ble_eq_true rfl)) (lc_nm (by decide)) b1 ?_
  refine PS_gos (pc' := 1321) (L' := lL i a5 a6 a7) (st' := [.int (i + nI5 1), .ref 250, .ref 219, .int v]) [1321] 8 rfl ?_
  refine PS_sld rfl (hv 1 (by decide)) ?_
  refine PS_call rfl (lc_call (b := 219) (bs := [.int (lx xs i 1)]) (rest := [.int v]) lo_231 (f219 _) (Nat.le_of_ble_eq_true rfl)) (lc_nm (by decide)) b2 ?_
  exact PS_yes rfl rfl rfl (PS_end ⟨rfl, rfl, _, _, _, _, _, _, rfl, hI, rfl⟩)
set_option maxRecDepth 20000 in
theorem lc_44 (hv : ∀ t : Nat, t ≤ 4 → vp_in (i + nI5 t) Ln) (hP : lwP IV B 128 232 [.int (lx xs i 1)] M ML R) : PSt 110 xs Ln kl_44 (lq IV B i) (fm_mk (M, ML, R)) 1330 (lL i a5 a6 a7) [] := by
  obtain ⟨v, M1, L1, R1, M2, L2, R2, b1, b2, hI⟩ := hP
  refine PS_gos (pc' := 1336) (L' := lL i a5 a6 a7) (st' := [.int (i + nI5 1), .ref 250, .ref 0]) [1336] 8 rfl ?_
  refine PS_sld rfl (hv 1 (by decide)) ?_
  refine PS_call rfl (lc_call (b := 0) (bs := [.int (lx xs i 1)]) (rest := []) lo_128 (f0 _) (Nat.le_of_ble_eq_true rfl)) (lc_nm (by decide)) b1 ?_
  refine PS_gos (pc' := 1346) (L' := lL i a5 a6 a7) (st' := [.int (i + nI5 1), .ref 250, .ref 219, .int v]) [1346] 8 rfl ?_
  refine PS_sld rfl (hv 1 (by decide)) ?_
  refine PS_call rfl (lc_call (b := 219) (bs := [.int (lx xs i 1)]) (rest := [.int v]) lo_232 (f219 _) (Nat.le_of_ble_eq_true rfl)) (lc_nm (by decide)) b2 ?_
  exact PS_yes rfl rfl rfl (PS_end ⟨rfl, rfl, _, _, _, _, _, _, rfl, hI, rfl⟩)
set_option maxRecDepth 20000 in
theorem lc_45 (hv : ∀ t : Nat, t ≤ 4 → vp_in (i + nI5 t) Ln) (hP : lwP IV B 129 233 [.int (lx xs i 1)] M ML R) : PSt 110 xs Ln kl_45 (lq IV B i) (fm_mk (M, ML, R)) 1355 (lL i a5 a6 a7) [] := by
  obtain ⟨v, M1, L1, R1, M2, L2, R2, b1, b2, hI⟩ := hP
  refine PS_gos (pc' := 1361) (L' := lL i a5 a6 a7) (st' := [.int (i + nI5 1), .ref 250, .ref 0]) [1361] 8 rfl ?_
  refine PS_sld rfl (hv 1 (by decide)) ?_
  refine PS_call rfl (lc_call (b := 0) (bs := [.int (lx xs i 1)]) (rest := []) lo_129 (f0 _) (Nat.le_of_ble_eq_true rfl)) (lc_nm (by decide)) b1 ?_
  refine PS_gos (pc' := 1371) (L' := lL i a5 a6 a7) (st' := [.int (i + nI5 1), .ref 250, .ref 219, .int v]) [1371] 8 rfl ?_
  refine PS_sld rfl (hv 1 (by decide)) ?_
  refine PS_call rfl (lc_call (b := 219) (bs := [.int (lx xs i 1)]) (rest := [.int v]) lo_233 (f219 _) (Nat.le_of_ble_eq_true rfl)) (lc_nm (by decide)) b2 ?_
  exact PS_yes rfl rfl rfl (PS_end ⟨rfl, rfl, _, _, _, _, _, _, rfl, hI, rfl⟩)
