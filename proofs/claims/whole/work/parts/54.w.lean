set_option maxRecDepth 20000 in
theorem w181 {d : Nat} {a1 : Int32} {M : Nat → Nat → Int32} {ML : Nat → Nat → Int64} {R : Nat → Nat → Option Nat} {K : wK} (h : (∀ M1, M1 = fm_u M 219 5 (0 : Int32) → (wI d 137 [.ref 219, .int a1] M1 ML R (fun v2 M2 L2 R2 => ((¬ v2 = 0 → (wV d 171 [.ref 219, .ref 220] M2 L2 R2 (fun M3 L3 R3 => (∃ k4, ((24 : Int32) + a1) = nI k4 ∧ k4 < 43 ∧ (∃ k5, ((24 : Int32) + a1) = nI k5 ∧ k5 < 43 ∧ (∀ M5, M5 = fm_u M3 220 k5 ((1 : Int32) - (M3 220 k4)) → (∃ k6, ((24 : Int32) + a1) = nI k6 ∧ k6 < 43 ∧ K (M5 220 k6) M5 L3 R3))))))) ∧ (v2 = 0 → K (-1 : Int32) M2 L2 R2)))))) : wI (d + 1) 181 [.ref 219, .int a1] M ML R K := by
  refine mj_of _ _ rfl rfl rfl ?_
  refine mj_auto2 [] 80 rfl ?_
  refine fn_pI fm_s219 rfl rfl rfl rfl ?_
  replace h := h _ rfl
  refine mj_auto2 [] 80 rfl ?_
  refine mj_wIv h (fm_o fm_s219) rfl rfl rfl rfl rfl ⟨rfl, rfl⟩ (fun v2 M2 L2 R2 h => ?_)
  refine mj_if rfl rfl (fun c => ?_) (fun c => ?_)
  · replace h := h.1 c
    refine mj_auto2 [] 80 rfl ?_
    refine fn_gR fm_s219 rfl rfl rfl ?_
    refine mj_wVv h (fm_o fm_s219) rfl rfl rfl rfl rfl ⟨rfl, rfl⟩ (fun M3 L3 R3 h => ?_)
    refine mj_auto2 [] 80 rfl ?_
    refine fn_gR fm_s219 rfl rfl rfl ?_
    refine mj_auto2 [] 80 rfl ?_
    refine fn_gR fm_s219 rfl rfl rfl ?_
    refine mj_auto2 [] 80 rfl ?_
    obtain ⟨k4, c, c2, h⟩ := h
    refine fn_ldk c c2 rfl fm_s220 rfl ?_
    refine mj_auto2 [] 80 rfl ?_
    obtain ⟨k5, c, c2, h⟩ := h
    refine fn_stk c c2 rfl fm_s220 rfl ?_
    replace h := h _ rfl
    refine mj_auto2 [] 80 rfl ?_
    refine fn_gR fm_s219 rfl rfl rfl ?_
    refine mj_auto2 [] 80 rfl ?_
    obtain ⟨k6, c, c2, h⟩ := h
    refine fn_ldk c c2 rfl fm_s220 rfl ?_
    exact mj_rt rfl rfl rfl ⟨_, _, _, _, rfl, rfl, h⟩
  · replace h := h.2 (Classical.not_not.mp c)
    refine mj_auto2 [] 80 rfl ?_
    exact mj_rt rfl rfl rfl ⟨_, _, _, _, rfl, rfl, h⟩
def H182_13 (d : Nat) (x1 : Int32) (M : Nat → Nat → Int32) (ML : Nat → Nat → Int64) (R : Nat → Nat → Option Nat) (K : wK) : Prop := mj_Rn d (some .int) kX11_shift (wQ K) (fm_mk (M, ML, R)) 13 [some (.ref 219), some (.int x1), none] []
def H182_72 (d : Nat) (x1 : Int32) (x2 : Int32) (M : Nat → Nat → Int32) (ML : Nat → Nat → Int64) (R : Nat → Nat → Option Nat) (K : wK) : Prop := mj_Rn d (some .int) kX11_shift (wQ K) (fm_mk (M, ML, R)) 72 [some (.ref 219), some (.int x1), some (.int x2)] []
set_option maxRecDepth 20000 in
theorem h182_13 {d : Nat} {x1 : Int32} {M : Nat → Nat → Int32} {ML : Nat → Nat → Int64} {R : Nat → Nat → Option Nat} {K : wK} (h : (wI d 156 [.ref 219] M ML R (fun v1 M1 L1 R1 => ((v1 = 0 → (wI d 160 [.ref 219] M1 L1 R1 (fun v2 M2 L2 R2 => ((¬ v2 = 0 → (wV d 170 [.ref 220, .ref 226, .int (0 : Int32)] M2 L2 R2 (fun M3 L3 R3 => H182_72 d x1 (0 : Int32) M3 L3 R3 K))) ∧ (v2 = 0 → K ((-1 : Int32) - (M2 219 16)) M2 L2 R2))))) ∧ (¬ v1 = 0 → (((M1 219 13) ≤ (M1 219 15) → (wI d 160 [.ref 219] M1 L1 R1 (fun v4 M4 L4 R4 => ((¬ v4 = 0 → (wV d 170 [.ref 220, .ref 226, .int (0 : Int32)] M4 L4 R4 (fun M5 L5 R5 => H182_72 d x1 (0 : Int32) M5 L5 R5 K))) ∧ (v4 = 0 → K ((-1 : Int32) - (M4 219 16)) M4 L4 R4))))) ∧ (¬ (M1 219 13) ≤ (M1 219 15) → (wV d 183 [.ref 219, .int ((2 : Int32) * x1)] M1 L1 R1 (fun M6 L6 R6 => H182_13 d (x1 + (1 : Int32)) M6 L6 R6 K))))))))) : H182_13 d x1 M ML R K := by
  unfold H182_13
  refine mj_begin3 [13, 72] 80 rfl ?_
  refine mj_wIv h (fm_o fm_s219) rfl rfl rfl rfl rfl ⟨rfl, rfl⟩ (fun v1 M1 L1 R1 h => ?_)
  refine mj_if rfl rfl (fun c => ?_) (fun c => ?_)
  · replace h := h.1 c
    refine mj_auto3 [13, 72] 80 rfl ?_
    refine mj_wIv h (fm_o fm_s219) rfl rfl rfl rfl rfl ⟨rfl, rfl⟩ (fun v2 M2 L2 R2 h => ?_)
    refine mj_if rfl rfl (fun c => ?_) (fun c => ?_)
    · replace h := h.1 c
      refine mj_auto3 [13, 72] 80 rfl ?_
      refine fn_gR fm_s219 rfl rfl rfl ?_
      refine mj_auto3 [13, 72] 80 rfl ?_
      refine fn_gR fm_s219 rfl rfl rfl ?_
      refine mj_auto3 [13, 72] 80 rfl ?_
      refine mj_wVs h rfl rfl rfl rfl rfl rfl (fun M3 L3 R3 h => ?_)
      refine mj_auto3 [13, 72] 80 rfl ?_
      exact h
    · replace h := h.2 (Classical.not_not.mp c)
      refine mj_auto3 [13, 72] 80 rfl ?_
      refine fn_gI fm_s219 rfl rfl rfl ?_
      refine mj_auto3 [13, 72] 80 rfl ?_
      exact mj_rt rfl rfl rfl ⟨_, _, _, _, rfl, rfl, h⟩
  · replace h := h.2 c
    refine mj_auto3 [13, 72] 80 rfl ?_
    refine fn_gI fm_s219 rfl rfl rfl ?_
    refine mj_auto3 [13, 72] 80 rfl ?_
    refine fn_gI fm_s219 rfl rfl rfl ?_
    refine mj_if rfl rfl (fun c => ?_) (fun c => ?_)
    · replace h := h.1 c
      refine mj_auto3 [13, 72] 80 rfl ?_
      refine mj_wIv h (fm_o fm_s219) rfl rfl rfl rfl rfl ⟨rfl, rfl⟩ (fun v4 M4 L4 R4 h => ?_)
      refine mj_if rfl rfl (fun c => ?_) (fun c => ?_)
      · replace h := h.1 c
        refine mj_auto3 [13, 72] 80 rfl ?_
        refine fn_gR fm_s219 rfl rfl rfl ?_
        refine mj_auto3 [13, 72] 80 rfl ?_
        refine fn_gR fm_s219 rfl rfl rfl ?_
        refine mj_auto3 [13, 72] 80 rfl ?_
        refine mj_wVs h rfl rfl rfl rfl rfl rfl (fun M5 L5 R5 h => ?_)
        refine mj_auto3 [13, 72] 80 rfl ?_
        exact h
      · replace h := h.2 (Classical.not_not.mp c)
        refine mj_auto3 [13, 72] 80 rfl ?_
        refine fn_gI fm_s219 rfl rfl rfl ?_
        refine mj_auto3 [13, 72] 80 rfl ?_
        exact mj_rt rfl rfl rfl ⟨_, _, _, _, rfl, rfl, h⟩
    · replace h := h.2 c
      refine mj_auto3 [13, 72] 80 rfl ?_
      refine mj_wVv h (fm_o fm_s219) rfl rfl rfl rfl rfl ⟨rfl, rfl⟩ (fun M6 L6 R6 h => ?_)
      refine mj_auto3 [13, 72] 80 rfl ?_
      exact h
set_option maxRecDepth 20000 in
theorem h182_72 {d : Nat} {x1 : Int32} {x2 : Int32} {M : Nat → Nat → Int32} {ML : Nat → Nat → Int64} {R : Nat → Nat → Option Nat} {K : wK} (h : ((x1 ≤ x2 → ((x2 ≤ 0 → (∀ M1, M1 = fm_u M 219 4 (0 : Int32) → ((x1 ≤ x2 → (wV d 135 [.ref 219, .long (0 : Int64)] M1 ML R (fun M2 L2 R2 => (wV d 135 [.ref 219, .long (((M2 220 41)).toInt64)] M2 L2 R2 (fun M3 L3 R3 => K x2 M3 L3 R3))))) ∧ (¬ x1 ≤ x2 → (wV d 135 [.ref 219, .long (1 : Int64)] M1 ML R (fun M4 L4 R4 => (wV d 135 [.ref 219, .long (((M4 220 41)).toInt64)] M4 L4 R4 (fun M5 L5 R5 => K x2 M5 L5 R5)))))))) ∧ (¬ x2 ≤ 0 → (wV d 171 [.ref 219, .ref 226] M ML R (fun M6 L6 R6 => (∀ M7, M7 = fm_u M6 219 4 (0 : Int32) → ((x1 ≤ x2 → (wV d 135 [.ref 219, .long (0 : Int64)] M7 L6 R6 (fun M8 L8 R8 => (wV d 135 [.ref 219, .long (((M8 220 41)).toInt64)] M8 L8 R8 (fun M9 L9 R9 => K x2 M9 L9 R9))))) ∧ (¬ x1 ≤ x2 → (wV d 135 [.ref 219, .long (1 : Int64)] M7 L6 R6 (fun M10 L10 R10 => (wV d 135 [.ref 219, .long (((M10 220 41)).toInt64)] M10 L10 R10 (fun M11 L11 R11 => K x2 M11 L11 R11)))))))))))) ∧ (¬ x1 ≤ x2 → (∃ k12, ((2 : Int32) * x2) = nI k12 ∧ k12 < 160 ∧ (∃ k13, (((2 : Int32) * x2) + (1 : Int32)) = nI k13 ∧ k13 < 160 ∧ (wI d 184 [.ref 219, .int (M 228 k12), .int (M 228 k13)] M ML R (fun v14 M14 L14 R14 => ((v14 = 0 → ((x2 ≤ 0 → (∀ M15, M15 = fm_u M14 219 4 (0 : Int32) → ((x1 ≤ x2 → (wV d 135 [.ref 219, .long (0 : Int64)] M15 L14 R14 (fun M16 L16 R16 => (wV d 135 [.ref 219, .long (((M16 220 41)).toInt64)] M16 L16 R16 (fun M17 L17 R17 => K x2 M17 L17 R17))))) ∧ (¬ x1 ≤ x2 → (wV d 135 [.ref 219, .long (1 : Int64)] M15 L14 R14 (fun M18 L18 R18 => (wV d 135 [.ref 219, .long (((M18 220 41)).toInt64)] M18 L18 R18 (fun M19 L19 R19 => K x2 M19 L19 R19)))))))) ∧ (¬ x2 ≤ 0 → (wV d 171 [.ref 219, .ref 226] M14 L14 R14 (fun M20 L20 R20 => (∀ M21, M21 = fm_u M20 219 4 (0 : Int32) → ((x1 ≤ x2 → (wV d 135 [.ref 219, .long (0 : Int64)] M21 L20 R20 (fun M22 L22 R22 => (wV d 135 [.ref 219, .long (((M22 220 41)).toInt64)] M22 L22 R22 (fun M23 L23 R23 => K x2 M23 L23 R23))))) ∧ (¬ x1 ≤ x2 → (wV d 135 [.ref 219, .long (1 : Int64)] M21 L20 R20 (fun M24 L24 R24 => (wV d 135 [.ref 219, .long (((M24 220 41)).toInt64)] M24 L24 R24 (fun M25 L25 R25 => K x2 M25 L25 R25)))))))))))) ∧ (¬ v14 = 0 → H182_72 d x1 (x2 + (1 : Int32)) M14 L14 R14 K))))))))) : H182_72 d x1 x2 M ML R K := by
  unfold H182_72
  refine mj_begin3 [13, 72] 80 rfl ?_
  refine mj_if rfl rfl (fun c => ?_) (fun c => ?_)
  · replace h := h.1 c
    refine mj_auto3 [13, 72] 80 rfl ?_
    refine mj_if rfl rfl (fun c => ?_) (fun c => ?_)
    · replace h := h.1 c
      refine mj_auto3 [13, 72] 80 rfl ?_
      refine fn_pI fm_s219 rfl rfl rfl rfl ?_
      replace h := h _ rfl
      refine mj_auto3 [13, 72] 80 rfl ?_
      refine mj_if rfl rfl (fun c => ?_) (fun c => ?_)
      · replace h := h.1 c
        refine mj_auto3 [13, 72] 80 rfl ?_
        refine mj_wVv h (fm_o fm_s219) rfl rfl rfl rfl rfl ⟨rfl, rfl⟩ (fun M2 L2 R2 h => ?_)
        refine mj_auto3 [13, 72] 80 rfl ?_
        refine fn_gR fm_s219 rfl rfl rfl ?_
        refine mj_auto3 [13, 72] 80 rfl ?_
        refine fn_ldk (k := 41) rfl (by decide) rfl fm_s220 rfl ?_
        refine mj_auto3 [13, 72] 80 rfl ?_
        refine mj_wVv h (fm_o fm_s219) rfl rfl rfl rfl rfl ⟨rfl, rfl⟩ (fun M3 L3 R3 h => ?_)
        refine mj_auto3 [13, 72] 80 rfl ?_
        exact mj_rt rfl rfl rfl ⟨_, _, _, _, rfl, rfl, h⟩
      · replace h := h.2 c
        refine mj_auto3 [13, 72] 80 rfl ?_
        refine mj_wVv h (fm_o fm_s219) rfl rfl rfl rfl rfl ⟨rfl, rfl⟩ (fun M4 L4 R4 h => ?_)
        refine mj_auto3 [13, 72] 80 rfl ?_
        refine fn_gR fm_s219 rfl rfl rfl ?_
        refine mj_auto3 [13, 72] 80 rfl ?_
        refine fn_ldk (k := 41) rfl (by decide) rfl fm_s220 rfl ?_
        refine mj_auto3 [13, 72] 80 rfl ?_
        refine mj_wVv h (fm_o fm_s219) rfl rfl rfl rfl rfl ⟨rfl, rfl⟩ (fun M5 L5 R5 h => ?_)
        refine mj_auto3 [13, 72] 80 rfl ?_
        exact mj_rt rfl rfl rfl ⟨_, _, _, _, rfl, rfl, h⟩
    · replace h := h.2 c
      refine mj_auto3 [13, 72] 80 rfl ?_
      refine fn_gR fm_s219 rfl rfl rfl ?_
      refine mj_wVv h (fm_o fm_s219) rfl rfl rfl rfl rfl ⟨rfl, rfl⟩ (fun M6 L6 R6 h => ?_)
      refine mj_auto3 [13, 72] 80 rfl ?_
      refine fn_pI fm_s219 rfl rfl rfl rfl ?_
      replace h := h _ rfl
      refine mj_auto3 [13, 72] 80 rfl ?_
      refine mj_if rfl rfl (fun c => ?_) (fun c => ?_)
      · replace h := h.1 c
        refine mj_auto3 [13, 72] 80 rfl ?_
        refine mj_wVv h (fm_o fm_s219) rfl rfl rfl rfl rfl ⟨rfl, rfl⟩ (fun M8 L8 R8 h => ?_)
        refine mj_auto3 [13, 72] 80 rfl ?_
        refine fn_gR fm_s219 rfl rfl rfl ?_
        refine mj_auto3 [13, 72] 80 rfl ?_
        refine fn_ldk (k := 41) rfl (by decide) rfl fm_s220 rfl ?_
        refine mj_auto3 [13, 72] 80 rfl ?_
        refine mj_wVv h (fm_o fm_s219) rfl rfl rfl rfl rfl ⟨rfl, rfl⟩ (fun M9 L9 R9 h => ?_)
        refine mj_auto3 [13, 72] 80 rfl ?_
        exact mj_rt rfl rfl rfl ⟨_, _, _, _, rfl, rfl, h⟩
      · replace h := h.2 c
        refine mj_auto3 [13, 72] 80 rfl ?_
        refine mj_wVv h (fm_o fm_s219) rfl rfl rfl rfl rfl ⟨rfl, rfl⟩ (fun M10 L10 R10 h => ?_)
        refine mj_auto3 [13, 72] 80 rfl ?_
        refine fn_gR fm_s219 rfl rfl rfl ?_
        refine mj_auto3 [13, 72] 80 rfl ?_
        refine fn_ldk (k := 41) rfl (by decide) rfl fm_s220 rfl ?_
        refine mj_auto3 [13, 72] 80 rfl ?_
        refine mj_wVv h (fm_o fm_s219) rfl rfl rfl rfl rfl ⟨rfl, rfl⟩ (fun M11 L11 R11 h => ?_)
        refine mj_auto3 [13, 72] 80 rfl ?_
        exact mj_rt rfl rfl rfl ⟨_, _, _, _, rfl, rfl, h⟩
  · replace h := h.2 c
    refine mj_auto3 [13, 72] 80 rfl ?_
    refine fn_gR fm_s219 rfl rfl rfl ?_
    refine mj_auto3 [13, 72] 80 rfl ?_
    obtain ⟨k12, c, c2, h⟩ := h
    refine fn_ldk c c2 rfl fm_s228 rfl ?_
    refine mj_auto3 [13, 72] 80 rfl ?_
    refine fn_gR fm_s219 rfl rfl rfl ?_
    refine mj_auto3 [13, 72] 80 rfl ?_
    obtain ⟨k13, c, c2, h⟩ := h
    refine fn_ldk c c2 rfl fm_s228 rfl ?_
    refine mj_wIv h (fm_o fm_s219) rfl rfl rfl rfl rfl ⟨rfl, rfl⟩ (fun v14 M14 L14 R14 h => ?_)
    refine mj_if rfl rfl (fun c => ?_) (fun c => ?_)
    · replace h := h.1 c
      refine mj_auto3 [13, 72] 80 rfl ?_
      refine mj_if rfl rfl (fun c => ?_) (fun c => ?_)
      · replace h := h.1 c
        refine mj_auto3 [13, 72] 80 rfl ?_
        refine fn_pI fm_s219 rfl rfl rfl rfl ?_
        replace h := h _ rfl
        refine mj_auto3 [13, 72] 80 rfl ?_
        refine mj_if rfl rfl (fun c => ?_) (fun c => ?_)
        · replace h := h.1 c
          refine mj_auto3 [13, 72] 80 rfl ?_
          refine mj_wVv h (fm_o fm_s219) rfl rfl rfl rfl rfl ⟨rfl, rfl⟩ (fun M16 L16 R16 h => ?_)
          refine mj_auto3 [13, 72] 80 rfl ?_
          refine fn_gR fm_s219 rfl rfl rfl ?_
          refine mj_auto3 [13, 72] 80 rfl ?_
          refine fn_ldk (k := 41) rfl (by decide) rfl fm_s220 rfl ?_
          refine mj_auto3 [13, 72] 80 rfl ?_
          refine mj_wVv h (fm_o fm_s219) rfl rfl rfl rfl rfl ⟨rfl, rfl⟩ (fun M17 L17 R17 h => ?_)
          refine mj_auto3 [13, 72] 80 rfl ?_
          exact mj_rt rfl rfl rfl ⟨_, _, _, _, rfl, rfl, h⟩
        · replace h := h.2 c
          refine mj_auto3 [13, 72] 80 rfl ?_
          refine mj_wVv h (fm_o fm_s219) rfl rfl rfl rfl rfl ⟨rfl, rfl⟩ (fun M18 L18 R18 h => ?_)
          refine mj_auto3 [13, 72] 80 rfl ?_
          refine fn_gR fm_s219 rfl rfl rfl ?_
          refine mj_auto3 [13, 72] 80 rfl ?_
          refine fn_ldk (k := 41) rfl (by decide) rfl fm_s220 rfl ?_
          refine mj_auto3 [13, 72] 80 rfl ?_
          refine mj_wVv h (fm_o fm_s219) rfl rfl rfl rfl rfl ⟨rfl, rfl⟩ (fun M19 L19 R19 h => ?_)
          refine mj_auto3 [13, 72] 80 rfl ?_
          exact mj_rt rfl rfl rfl ⟨_, _, _, _, rfl, rfl, h⟩
      · replace h := h.2 c
        refine mj_auto3 [13, 72] 80 rfl ?_
        refine fn_gR fm_s219 rfl rfl rfl ?_
        refine mj_wVv h (fm_o fm_s219) rfl rfl rfl rfl rfl ⟨rfl, rfl⟩ (fun M20 L20 R20 h => ?_)
        refine mj_auto3 [13, 72] 80 rfl ?_
        refine fn_pI fm_s219 rfl rfl rfl rfl ?_
        replace h := h _ rfl
        refine mj_auto3 [13, 72] 80 rfl ?_
        refine mj_if rfl rfl (fun c => ?_) (fun c => ?_)
        · replace h := h.1 c
          refine mj_auto3 [13, 72] 80 rfl ?_
          refine mj_wVv h (fm_o fm_s219) rfl rfl rfl rfl rfl ⟨rfl, rfl⟩ (fun M22 L22 R22 h => ?_)
          refine mj_auto3 [13, 72] 80 rfl ?_
          refine fn_gR fm_s219 rfl rfl rfl ?_
          refine mj_auto3 [13, 72] 80 rfl ?_
          refine fn_ldk (k := 41) rfl (by decide) rfl fm_s220 rfl ?_
          refine mj_auto3 [13, 72] 80 rfl ?_
          refine mj_wVv h (fm_o fm_s219) rfl rfl rfl rfl rfl ⟨rfl, rfl⟩ (fun M23 L23 R23 h => ?_)
          refine mj_auto3 [13, 72] 80 rfl ?_
          exact mj_rt rfl rfl rfl ⟨_, _, _, _, rfl, rfl, h⟩
        · replace h := h.2 c
          refine mj_auto3 [13, 72] 80 rfl ?_
          refine mj_wVv h (fm_o fm_s219) rfl rfl rfl rfl rfl ⟨rfl, rfl⟩ (fun M24 L24 R24 h => ?_)
          refine mj_auto3 [13, 72] 80 rfl ?_
          refine fn_gR fm_s219 rfl rfl rfl ?_
          refine mj_auto3 [13, 72] 80 rfl ?_
          refine fn_ldk (k := 41) rfl (by decide) rfl fm_s220 rfl ?_
          refine mj_auto3 [13, 72] 80 rfl ?_
          refine mj_wVv h (fm_o fm_s219) rfl rfl rfl rfl rfl ⟨rfl, rfl⟩ (fun M25 L25 R25 h => ?_)
          refine mj_auto3 [13, 72] 80 rfl ?_
          exact mj_rt rfl rfl rfl ⟨_, _, _, _, rfl, rfl, h⟩
    · replace h := h.2 c
      refine mj_auto3 [13, 72] 80 rfl ?_
      exact h
set_option maxRecDepth 20000 in
theorem w182 {d : Nat} {M : Nat → Nat → Int32} {ML : Nat → Nat → Int64} {R : Nat → Nat → Option Nat} {K : wK} (h : (∀ M1, M1 = fm_u M 219 5 (0 : Int32) → (wV d 154 [.ref 219, .int (60 : Int32)] M1 ML R (fun M2 L2 R2 => H182_13 d (0 : Int32) M2 L2 R2 K)))) : wI (d + 1) 182 [.ref 219] M ML R K := by
  refine mj_of _ _ rfl rfl rfl ?_
  refine mj_auto3 [13, 72] 80 rfl ?_
  refine fn_pI fm_s219 rfl rfl rfl rfl ?_
  replace h := h _ rfl
  refine mj_auto3 [13, 72] 80 rfl ?_
  refine mj_wVv h (fm_o fm_s219) rfl rfl rfl rfl rfl ⟨rfl, rfl⟩ (fun M2 L2 R2 h => ?_)
  refine mj_auto3 [13, 72] 80 rfl ?_
  exact h
set_option maxRecDepth 20000 in
theorem w183 {d : Nat} {a1 : Int32} {M : Nat → Nat → Int32} {ML : Nat → Nat → Int64} {R : Nat → Nat → Option Nat} {K : wKv} (h : (wI d 155 [.ref 219] M ML R (fun v1 M1 L1 R1 => ((v1 = (42 : Int32) → (∀ M2, M2 = fm_u M1 219 15 ((M1 219 15) + (1 : Int32)) → (∃ k3, a1 = nI k3 ∧ k3 < 160 ∧ (∀ M3, M3 = fm_u M2 228 k3 v1 → ((¬ v1 = (42 : Int32) → (wI d 159 [.ref 219, .int (48 : Int32), .int (10 : Int32)] M3 L1 R1 (fun v4 M4 L4 R4 => ((¬ v1 = (110 : Int32) → (∃ k5, (a1 + (1 : Int32)) = nI k5 ∧ k5 < 160 ∧ (∀ M5, M5 = fm_u M4 228 k5 v4 → K M5 L4 R4))) ∧ (v1 = (110 : Int32) → (wI d 159 [.ref 219, .int (48 : Int32), .int (10 : Int32)] M4 L4 R4 (fun v6 M6 L6 R6 => (∃ k7, (a1 + (1 : Int32)) = nI k7 ∧ k7 < 160 ∧ (∀ M7, M7 = fm_u M6 228 k7 (((10 : Int32) * v4) + v6) → K M7 L6 R6))))))))) ∧ (v1 = (42 : Int32) → K M3 L1 R1)))))) ∧ (¬ v1 = (42 : Int32) → ((v1 = (110 : Int32) → (∀ M8, M8 = fm_u M1 219 15 ((M1 219 15) + (1 : Int32)) → (∃ k9, a1 = nI k9 ∧ k9 < 160 ∧ (∀ M9, M9 = fm_u M8 228 k9 v1 → ((¬ v1 = (42 : Int32) → (wI d 159 [.ref 219, .int (48 : Int32), .int (10 : Int32)] M9 L1 R1 (fun v10 M10 L10 R10 => ((¬ v1 = (110 : Int32) → (∃ k11, (a1 + (1 : Int32)) = nI k11 ∧ k11 < 160 ∧ (∀ M11, M11 = fm_u M10 228 k11 v10 → K M11 L10 R10))) ∧ (v1 = (110 : Int32) → (wI d 159 [.ref 219, .int (48 : Int32), .int (10 : Int32)] M10 L10 R10 (fun v12 M12 L12 R12 => (∃ k13, (a1 + (1 : Int32)) = nI k13 ∧ k13 < 160 ∧ (∀ M13, M13 = fm_u M12 228 k13 (((10 : Int32) * v10) + v12) → K M13 L12 R12))))))))) ∧ (v1 = (42 : Int32) → K M9 L1 R1)))))) ∧ (¬ v1 = (110 : Int32) → ((v1 = (112 : Int32) → (∀ M14, M14 = fm_u M1 219 15 ((M1 219 15) + (1 : Int32)) → (∃ k15, a1 = nI k15 ∧ k15 < 160 ∧ (∀ M15, M15 = fm_u M14 228 k15 v1 → ((¬ v1 = (42 : Int32) → (wI d 159 [.ref 219, .int (48 : Int32), .int (10 : Int32)] M15 L1 R1 (fun v16 M16 L16 R16 => ((¬ v1 = (110 : Int32) → (∃ k17, (a1 + (1 : Int32)) = nI k17 ∧ k17 < 160 ∧ (∀ M17, M17 = fm_u M16 228 k17 v16 → K M17 L16 R16))) ∧ (v1 = (110 : Int32) → (wI d 159 [.ref 219, .int (48 : Int32), .int (10 : Int32)] M16 L16 R16 (fun v18 M18 L18 R18 => (∃ k19, (a1 + (1 : Int32)) = nI k19 ∧ k19 < 160 ∧ (∀ M19, M19 = fm_u M18 228 k19 (((10 : Int32) * v16) + v18) → K M19 L18 R18))))))))) ∧ (v1 = (42 : Int32) → K M15 L1 R1)))))) ∧ (¬ v1 = (112 : Int32) → ((v1 = (108 : Int32) → (∀ M20, M20 = fm_u M1 219 15 ((M1 219 15) + (1 : Int32)) → (∃ k21, a1 = nI k21 ∧ k21 < 160 ∧ (∀ M21, M21 = fm_u M20 228 k21 v1 → ((¬ v1 = (42 : Int32) → (wI d 159 [.ref 219, .int (48 : Int32), .int (10 : Int32)] M21 L1 R1 (fun v22 M22 L22 R22 => ((¬ v1 = (110 : Int32) → (∃ k23, (a1 + (1 : Int32)) = nI k23 ∧ k23 < 160 ∧ (∀ M23, M23 = fm_u M22 228 k23 v22 → K M23 L22 R22))) ∧ (v1 = (110 : Int32) → (wI d 159 [.ref 219, .int (48 : Int32), .int (10 : Int32)] M22 L22 R22 (fun v24 M24 L24 R24 => (∃ k25, (a1 + (1 : Int32)) = nI k25 ∧ k25 < 160 ∧ (∀ M25, M25 = fm_u M24 228 k25 (((10 : Int32) * v22) + v24) → K M25 L24 R24))))))))) ∧ (v1 = (42 : Int32) → K M21 L1 R1)))))) ∧ (¬ v1 = (108 : Int32) → ((v1 = (104 : Int32) → (∀ M26, M26 = fm_u M1 219 15 ((M1 219 15) + (1 : Int32)) → (∃ k27, a1 = nI k27 ∧ k27 < 160 ∧ (∀ M27, M27 = fm_u M26 228 k27 v1 → ((¬ v1 = (42 : Int32) → (wI d 159 [.ref 219, .int (48 : Int32), .int (10 : Int32)] M27 L1 R1 (fun v28 M28 L28 R28 => ((¬ v1 = (110 : Int32) → (∃ k29, (a1 + (1 : Int32)) = nI k29 ∧ k29 < 160 ∧ (∀ M29, M29 = fm_u M28 228 k29 v28 → K M29 L28 R28))) ∧ (v1 = (110 : Int32) → (wI d 159 [.ref 219, .int (48 : Int32), .int (10 : Int32)] M28 L28 R28 (fun v30 M30 L30 R30 => (∃ k31, (a1 + (1 : Int32)) = nI k31 ∧ k31 < 160 ∧ (∀ M31, M31 = fm_u M30 228 k31 (((10 : Int32) * v28) + v30) → K M31 L30 R30))))))))) ∧ (v1 = (42 : Int32) → K M27 L1 R1)))))) ∧ (¬ v1 = (104 : Int32) → (wV d 157 [.ref 219, .int (M1 219 15)] M1 L1 R1 (fun M32 L32 R32 => K M32 L32 R32))))))))))))))) : wV (d + 1) 183 [.ref 219, .int a1] M ML R K := by
  refine mj_of _ _ rfl rfl rfl ?_
  refine mj_auto4 [] 80 rfl ?_
  refine mj_wIv h (fm_o fm_s219) rfl rfl rfl rfl rfl ⟨rfl, rfl⟩ (fun v1 M1 L1 R1 h => ?_)
  refine mj_auto4 [] 80 rfl ?_
  refine mj_if rfl rfl (fun c => ?_) (fun c => ?_)
  · replace h := h.1 c
    refine mj_auto4 [] 80 rfl ?_
    refine fn_gI fm_s219 rfl rfl rfl ?_
    refine mj_auto4 [] 80 rfl ?_
    refine fn_pI fm_s219 rfl rfl rfl rfl ?_
    replace h := h _ rfl
    refine mj_auto4 [] 80 rfl ?_
    refine fn_gR fm_s219 rfl rfl rfl ?_
    refine mj_auto4 [] 80 rfl ?_
    obtain ⟨k3, c, c2, h⟩ := h
    refine fn_stk c c2 rfl fm_s228 rfl ?_
    replace h := h _ rfl
    refine mj_auto4 [] 80 rfl ?_
    refine mj_if rfl rfl (fun c => ?_) (fun c => ?_)
    · replace h := h.1 c
      refine mj_auto4 [] 80 rfl ?_
      refine mj_wIv h (fm_o fm_s219) rfl rfl rfl rfl rfl ⟨rfl, rfl⟩ (fun v4 M4 L4 R4 h => ?_)
      refine mj_auto4 [] 80 rfl ?_
      refine fn_gR fm_s219 rfl rfl rfl ?_
      refine mj_auto4 [] 80 rfl ?_
      refine mj_if rfl rfl (fun c => ?_) (fun c => ?_)
      · replace h := h.1 c
        refine mj_auto4 [] 80 rfl ?_
        obtain ⟨k5, c, c2, h⟩ := h
        refine fn_stk c c2 rfl fm_s228 rfl ?_
        replace h := h _ rfl
        exact mj_rtv rfl rfl ⟨_, _, _, rfl, rfl, h⟩
      · replace h := h.2 (Classical.not_not.mp c)
        refine mj_auto4 [] 80 rfl ?_
        refine mj_wIv h (fm_o fm_s219) rfl rfl rfl rfl rfl ⟨rfl, rfl⟩ (fun v6 M6 L6 R6 h => ?_)
        refine mj_auto4 [] 80 rfl ?_
        obtain ⟨k7, c, c2, h⟩ := h
        refine fn_stk c c2 rfl fm_s228 rfl ?_
        replace h := h _ rfl
        exact mj_rtv rfl rfl ⟨_, _, _, rfl, rfl, h⟩
    · replace h := h.2 (Classical.not_not.mp c)
      exact mj_rtv rfl rfl ⟨_, _, _, rfl, rfl, h⟩
  · replace h := h.2 c
    refine mj_auto4 [] 80 rfl ?_
    refine mj_if rfl rfl (fun c => ?_) (fun c => ?_)
    · replace h := h.1 c
      refine mj_auto4 [] 80 rfl ?_
      refine fn_gI fm_s219 rfl rfl rfl ?_
      refine mj_auto4 [] 80 rfl ?_
      refine fn_pI fm_s219 rfl rfl rfl rfl ?_
      replace h := h _ rfl
      refine mj_auto4 [] 80 rfl ?_
      refine fn_gR fm_s219 rfl rfl rfl ?_
      refine mj_auto4 [] 80 rfl ?_
      obtain ⟨k9, c, c2, h⟩ := h
      refine fn_stk c c2 rfl fm_s228 rfl ?_
      replace h := h _ rfl
      refine mj_auto4 [] 80 rfl ?_
      refine mj_if rfl rfl (fun c => ?_) (fun c => ?_)
      · replace h := h.1 c
        refine mj_auto4 [] 80 rfl ?_
        refine mj_wIv h (fm_o fm_s219) rfl rfl rfl rfl rfl ⟨rfl, rfl⟩ (fun v10 M10 L10 R10 h => ?_)
        refine mj_auto4 [] 80 rfl ?_
        refine fn_gR fm_s219 rfl rfl rfl ?_
        refine mj_auto4 [] 80 rfl ?_
        refine mj_if rfl rfl (fun c => ?_) (fun c => ?_)
        · replace h := h.1 c
          refine mj_auto4 [] 80 rfl ?_
          obtain ⟨k11, c, c2, h⟩ := h
          refine fn_stk c c2 rfl fm_s228 rfl ?_
          replace h := h _ rfl
          exact mj_rtv rfl rfl ⟨_, _, _, rfl, rfl, h⟩
        · replace h := h.2 (Classical.not_not.mp c)
          refine mj_auto4 [] 80 rfl ?_
          refine mj_wIv h (fm_o fm_s219) rfl rfl rfl rfl rfl ⟨rfl, rfl⟩ (fun v12 M12 L12 R12 h => ?_)
          refine mj_auto4 [] 80 rfl ?_
          obtain ⟨k13, c, c2, h⟩ := h
          refine fn_stk c c2 rfl fm_s228 rfl ?_
          replace h := h _ rfl
          exact mj_rtv rfl rfl ⟨_, _, _, rfl, rfl, h⟩
      · replace h := h.2 (Classical.not_not.mp c)
        exact mj_rtv rfl rfl ⟨_, _, _, rfl, rfl, h⟩
    · replace h := h.2 c
      refine mj_auto4 [] 80 rfl ?_
      refine mj_if rfl rfl (fun c => ?_) (fun c => ?_)
      · replace h := h.1 c
        refine mj_auto4 [] 80 rfl ?_
        refine fn_gI fm_s219 rfl rfl rfl ?_
        refine mj_auto4 [] 80 rfl ?_
        refine fn_pI fm_s219 rfl rfl rfl rfl ?_
        replace h := h _ rfl
        refine mj_auto4 [] 80 rfl ?_
        refine fn_gR fm_s219 rfl rfl rfl ?_
        refine mj_auto4 [] 80 rfl ?_
        obtain ⟨k15, c, c2, h⟩ := h
        refine fn_stk c c2 rfl fm_s228 rfl ?_
        replace h := h _ rfl
        refine mj_auto4 [] 80 rfl ?_
        refine mj_if rfl rfl (fun c => ?_) (fun c => ?_)
        · replace h := h.1 c
          refine mj_auto4 [] 80 rfl ?_
          refine mj_wIv h (fm_o fm_s219) rfl rfl rfl rfl rfl ⟨rfl, rfl⟩ (fun v16 M16 L16 R16 h => ?_)
          refine mj_auto4 [] 80 rfl ?_
          refine fn_gR fm_s219 rfl rfl rfl ?_
          refine mj_auto4 [] 80 rfl ?_
          refine mj_if rfl rfl (fun c => ?_) (fun c => ?_)
          · replace h := h.1 c
            refine mj_auto4 [] 80 rfl ?_
            obtain ⟨k17, c, c2, h⟩ := h
            refine fn_stk c c2 rfl fm_s228 rfl ?_
            replace h := h _ rfl
            exact mj_rtv rfl rfl ⟨_, _, _, rfl, rfl, h⟩
          · replace h := h.2 (Classical.not_not.mp c)
            refine mj_auto4 [] 80 rfl ?_
            refine mj_wIv h (fm_o fm_s219) rfl rfl rfl rfl rfl ⟨rfl, rfl⟩ (fun v18 M18 L18 R18 h => ?_)
            refine mj_auto4 [] 80 rfl ?_
            obtain ⟨k19, c, c2, h⟩ := h
            refine fn_stk c c2 rfl fm_s228 rfl ?_
            replace h := h _ rfl
            exact mj_rtv rfl rfl ⟨_, _, _, rfl, rfl, h⟩
        · replace h := h.2 (Classical.not_not.mp c)
          exact mj_rtv rfl rfl ⟨_, _, _, rfl, rfl, h⟩
      · replace h := h.2 c
        refine mj_auto4 [] 80 rfl ?_
        refine mj_if rfl rfl (fun c => ?_) (fun c => ?_)
        · replace h := h.1 c
          refine mj_auto4 [] 80 rfl ?_
          refine fn_gI fm_s219 rfl rfl rfl ?_
          refine mj_auto4 [] 80 rfl ?_
          refine fn_pI fm_s219 rfl rfl rfl rfl ?_
          replace h := h _ rfl
          refine mj_auto4 [] 80 rfl ?_
          refine fn_gR fm_s219 rfl rfl rfl ?_
          refine mj_auto4 [] 80 rfl ?_
          obtain ⟨k21, c, c2, h⟩ := h
          refine fn_stk c c2 rfl fm_s228 rfl ?_
          replace h := h _ rfl
          refine mj_auto4 [] 80 rfl ?_
          refine mj_if rfl rfl (fun c => ?_) (fun c => ?_)
          · replace h := h.1 c
            refine mj_auto4 [] 80 rfl ?_
            refine mj_wIv h (fm_o fm_s219) rfl rfl rfl rfl rfl ⟨rfl, rfl⟩ (fun v22 M22 L22 R22 h => ?_)
            refine mj_auto4 [] 80 rfl ?_
            refine fn_gR fm_s219 rfl rfl rfl ?_
            refine mj_auto4 [] 80 rfl ?_
            refine mj_if rfl rfl (fun c => ?_) (fun c => ?_)
            · replace h := h.1 c
              refine mj_auto4 [] 80 rfl ?_
              obtain ⟨k23, c, c2, h⟩ := h
              refine fn_stk c c2 rfl fm_s228 rfl ?_
              replace h := h _ rfl
              exact mj_rtv rfl rfl ⟨_, _, _, rfl, rfl, h⟩
            · replace h := h.2 (Classical.not_not.mp c)
              refine mj_auto4 [] 80 rfl ?_
              refine mj_wIv h (fm_o fm_s219) rfl rfl rfl rfl rfl ⟨rfl, rfl⟩ (fun v24 M24 L24 R24 h => ?_)
              refine mj_auto4 [] 80 rfl ?_
              obtain ⟨k25, c, c2, h⟩ := h
              refine fn_stk c c2 rfl fm_s228 rfl ?_
              replace h := h _ rfl
              exact mj_rtv rfl rfl ⟨_, _, _, rfl, rfl, h⟩
          · replace h := h.2 (Classical.not_not.mp c)
            exact mj_rtv rfl rfl ⟨_, _, _, rfl, rfl, h⟩
        · replace h := h.2 c
          refine mj_auto4 [] 80 rfl ?_
          refine mj_if rfl rfl (fun c => ?_) (fun c => ?_)
          · replace h := h.1 c
            refine mj_auto4 [] 80 rfl ?_
            refine fn_gI fm_s219 rfl rfl rfl ?_
            refine mj_auto4 [] 80 rfl ?_
            refine fn_pI fm_s219 rfl rfl rfl rfl ?_
            replace h := h _ rfl
            refine mj_auto4 [] 80 rfl ?_
            refine fn_gR fm_s219 rfl rfl rfl ?_
            refine mj_auto4 [] 80 rfl ?_
            obtain ⟨k27, c, c2, h⟩ := h
            refine fn_stk c c2 rfl fm_s228 rfl ?_
            replace h := h _ rfl
            refine mj_auto4 [] 80 rfl ?_
            refine mj_if rfl rfl (fun c => ?_) (fun c => ?_)
            · replace h := h.1 c
              refine mj_auto4 [] 80 rfl ?_
              refine mj_wIv h (fm_o fm_s219) rfl rfl rfl rfl rfl ⟨rfl, rfl⟩ (fun v28 M28 L28 R28 h => ?_)
              refine mj_auto4 [] 80 rfl ?_
              refine fn_gR fm_s219 rfl rfl rfl ?_
              refine mj_auto4 [] 80 rfl ?_
              refine mj_if rfl rfl (fun c => ?_) (fun c => ?_)
              · replace h := h.1 c
                refine mj_auto4 [] 80 rfl ?_
                obtain ⟨k29, c, c2, h⟩ := h
                refine fn_stk c c2 rfl fm_s228 rfl ?_
                replace h := h _ rfl
                exact mj_rtv rfl rfl ⟨_, _, _, rfl, rfl, h⟩
              · replace h := h.2 (Classical.not_not.mp c)
                refine mj_auto4 [] 80 rfl ?_
                refine mj_wIv h (fm_o fm_s219) rfl rfl rfl rfl rfl ⟨rfl, rfl⟩ (fun v30 M30 L30 R30 h => ?_)
                refine mj_auto4 [] 80 rfl ?_
                obtain ⟨k31, c, c2, h⟩ := h
                refine fn_stk c c2 rfl fm_s228 rfl ?_
                replace h := h _ rfl
                exact mj_rtv rfl rfl ⟨_, _, _, rfl, rfl, h⟩
            · replace h := h.2 (Classical.not_not.mp c)
              exact mj_rtv rfl rfl ⟨_, _, _, rfl, rfl, h⟩
          · replace h := h.2 c
            refine mj_auto4 [] 80 rfl ?_
            refine fn_gI fm_s219 rfl rfl rfl ?_
            refine mj_wVv h (fm_o fm_s219) rfl rfl rfl rfl rfl ⟨rfl, rfl⟩ (fun M32 L32 R32 h => ?_)
            exact mj_rtv rfl rfl ⟨_, _, _, rfl, rfl, h⟩
set_option maxRecDepth 20000 in
theorem w184 {d : Nat} {a1 : Int32} {a2 : Int32} {M : Nat → Nat → Int32} {ML : Nat → Nat → Int64} {R : Nat → Nat → Option Nat} {K : wK} (h : ((a1 = 42 → (wI d 172 [.ref 219, .ref 220, .int (-1 : Int32)] M ML R (fun v1 M1 L1 R1 => K (1 : Int32) M1 L1 R1))) ∧ (a1 = 108 → (wI d 178 [.ref 220, .int a2] M ML R (fun v2 M2 L2 R2 => ((0 ≤ v2 → (wI d 179 [.ref 220, .int a2] M2 L2 R2 (fun v3 M3 L3 R3 => K (1 : Int32) M3 L3 R3))) ∧ (¬ 0 ≤ v2 → K (0 : Int32) M2 L2 R2))))) ∧ (a1 = 110 → ((a2 ≤ (60 : Int32) → (wI d 174 [.ref 219, .ref 220, .int a2] M ML R (fun v4 M4 L4 R4 => K (1 : Int32) M4 L4 R4))) ∧ (¬ a2 ≤ (60 : Int32) → K (0 : Int32) M ML R))) ∧ (a1 = 112 → (wI d 176 [.ref 219, .int a2] M ML R (fun v5 M5 L5 R5 => ((0 ≤ v5 → (∀ M6, M6 = fm_u M5 220 40 a2 → K (1 : Int32) M6 L5 R5)) ∧ (¬ 0 ≤ v5 → K (0 : Int32) M5 L5 R5))))) ∧ (¬ a1 = 42 → ¬ a1 = 108 → ¬ a1 = 110 → ¬ a1 = 112 → (wI d 137 [.ref 219, .int a2] M ML R (fun v7 M7 L7 R7 => ((¬ v7 = 0 → (∃ k8, ((24 : Int32) + a2) = nI k8 ∧ k8 < 43 ∧ (∃ k9, ((24 : Int32) + a2) = nI k9 ∧ k9 < 43 ∧ (∀ M9, M9 = fm_u M7 220 k9 ((1 : Int32) - (M7 220 k8)) → K (1 : Int32) M9 L7 R7)))) ∧ (v7 = 0 → K (0 : Int32) M7 L7 R7))))))) : wI (d + 1) 184 [.ref 219, .int a1, .int a2] M ML R K := by
  refine mj_of _ _ rfl rfl rfl ?_
  refine mj_auto3 [] 80 rfl ?_
  by_cases e0 : a1 = 42
  · replace h := h.1 e0
    refine mj_swi 44 rfl rfl (by rw [e0]; decide +kernel) ?_
    refine mj_auto3 [] 80 rfl ?_
    refine fn_gR fm_s219 rfl rfl rfl ?_
    refine mj_auto3 [] 80 rfl ?_
    refine mj_wIv h (fm_o fm_s219) rfl rfl rfl rfl rfl ⟨rfl, rfl⟩ (fun v1 M1 L1 R1 h => ?_)
    refine mj_auto3 [] 80 rfl ?_
    exact mj_rt rfl rfl rfl ⟨_, _, _, _, rfl, rfl, h⟩
  by_cases e1 : a1 = 108
  · replace h := h.2.1 e1
    refine mj_swi 96 rfl rfl (by rw [e1]; decide +kernel) ?_
    refine mj_auto3 [] 80 rfl ?_
    refine fn_gR fm_s219 rfl rfl rfl ?_
    refine mj_auto3 [] 80 rfl ?_
    refine mj_wIs h rfl rfl rfl rfl rfl rfl (fun v2 M2 L2 R2 h => ?_)
    refine mj_if rfl rfl (fun c => ?_) (fun c => ?_)
    · replace h := h.1 c
      refine mj_auto3 [] 80 rfl ?_
      refine fn_gR fm_s219 rfl rfl rfl ?_
      refine mj_auto3 [] 80 rfl ?_
      refine mj_wIs h rfl rfl rfl rfl rfl rfl (fun v3 M3 L3 R3 h => ?_)
      refine mj_auto3 [] 80 rfl ?_
      exact mj_rt rfl rfl rfl ⟨_, _, _, _, rfl, rfl, h⟩
    · replace h := h.2 c
      refine mj_auto3 [] 80 rfl ?_
      exact mj_rt rfl rfl rfl ⟨_, _, _, _, rfl, rfl, h⟩
  by_cases e2 : a1 = 110
  · replace h := h.2.2.1 e2
    refine mj_swi 56 rfl rfl (by rw [e2]; decide +kernel) ?_
    refine mj_auto3 [] 80 rfl ?_
    refine mj_if rfl rfl (fun c => ?_) (fun c => ?_)
    · replace h := h.1 c
      refine mj_auto3 [] 80 rfl ?_
      refine fn_gR fm_s219 rfl rfl rfl ?_
      refine mj_auto3 [] 80 rfl ?_
      refine mj_wIv h (fm_o fm_s219) rfl rfl rfl rfl rfl ⟨rfl, rfl⟩ (fun v4 M4 L4 R4 h => ?_)
      refine mj_auto3 [] 80 rfl ?_
      exact mj_rt rfl rfl rfl ⟨_, _, _, _, rfl, rfl, h⟩
    · replace h := h.2 c
      refine mj_auto3 [] 80 rfl ?_
      exact mj_rt rfl rfl rfl ⟨_, _, _, _, rfl, rfl, h⟩
  by_cases e3 : a1 = 112
  · replace h := h.2.2.2.1 e3
    refine mj_swi 76 rfl rfl (by rw [e3]; decide +kernel) ?_
    refine mj_auto3 [] 80 rfl ?_
    refine mj_wIv h (fm_o fm_s219) rfl rfl rfl rfl rfl ⟨rfl, rfl⟩ (fun v5 M5 L5 R5 h => ?_)
    refine mj_if rfl rfl (fun c => ?_) (fun c => ?_)
    · replace h := h.1 c
      refine mj_auto3 [] 80 rfl ?_
      refine fn_gR fm_s219 rfl rfl rfl ?_
      refine mj_auto3 [] 80 rfl ?_
      refine fn_stk (k := 40) rfl (by decide) rfl fm_s220 rfl ?_
      replace h := h _ rfl
      refine mj_auto3 [] 80 rfl ?_
      exact mj_rt rfl rfl rfl ⟨_, _, _, _, rfl, rfl, h⟩
    · replace h := h.2 c
      refine mj_auto3 [] 80 rfl ?_
      exact mj_rt rfl rfl rfl ⟨_, _, _, _, rfl, rfl, h⟩
  replace h := h.2.2.2.2 e0 e1 e2 e3
  refine mj_swi 120 rfl rfl (by show (1 : Int) + Op.lookupswitch.offset [(42, 43), (108, 95), (110, 55), (112, 75)] 119 (a1).toInt = 120; rw [lv_osw (a := 42) e0 rfl, lv_osw (a := 108) e1 rfl, lv_osw (a := 110) e2 rfl, lv_osw (a := 112) e3 rfl]; rfl) ?_
  refine mj_auto3 [] 80 rfl ?_
  refine mj_wIv h (fm_o fm_s219) rfl rfl rfl rfl rfl ⟨rfl, rfl⟩ (fun v7 M7 L7 R7 h => ?_)
  refine mj_if rfl rfl (fun c => ?_) (fun c => ?_)
  · replace h := h.1 c
    refine mj_auto3 [] 80 rfl ?_
    refine fn_gR fm_s219 rfl rfl rfl ?_
    refine mj_auto3 [] 80 rfl ?_
    refine fn_gR fm_s219 rfl rfl rfl ?_
    refine mj_auto3 [] 80 rfl ?_
    obtain ⟨k8, c, c2, h⟩ := h
    refine fn_ldk c c2 rfl fm_s220 rfl ?_
    refine mj_auto3 [] 80 rfl ?_
    obtain ⟨k9, c, c2, h⟩ := h
    refine fn_stk c c2 rfl fm_s220 rfl ?_
    replace h := h _ rfl
    refine mj_auto3 [] 80 rfl ?_
    exact mj_rt rfl rfl rfl ⟨_, _, _, _, rfl, rfl, h⟩
  · replace h := h.2 (Classical.not_not.mp c)
    refine mj_auto3 [] 80 rfl ?_
    exact mj_rt rfl rfl rfl ⟨_, _, _, _, rfl, rfl, h⟩
set_option maxRecDepth 20000 in
theorem w187 {d : Nat} {a1 : Int32} {M : Nat → Nat → Int32} {ML : Nat → Nat → Int64} {R : Nat → Nat → Option Nat} {K : wK} (h : (∀ M1, M1 = fm_u M 219 5 (0 : Int32) → (wI d 137 [.ref 219, .int a1] M1 ML R (fun v2 M2 L2 R2 => ((¬ v2 = 0 → (∀ M3, M3 = fm_u M2 219 4 (0 : Int32) → (wI d 186 [.ref 220, .int a1] M3 L2 R2 (fun v4 M4 L4 R4 => (∃ k5, ((8 : Int32) + a1) = nI k5 ∧ k5 < 43 ∧ (wV d 140 [.ref 219, .long ((v4).toInt64), .long (((M4 220 k5)).toInt64)] M4 L4 R4 (fun M6 L6 R6 => K (0 : Int32) M6 L6 R6))))))) ∧ (v2 = 0 → K (-1 : Int32) M2 L2 R2)))))) : wI (d + 1) 187 [.ref 219, .int a1] M ML R K := by
  refine mj_of _ _ rfl rfl rfl ?_
  refine mj_auto2 [] 80 rfl ?_
  refine fn_pI fm_s219 rfl rfl rfl rfl ?_
  replace h := h _ rfl
  refine mj_auto2 [] 80 rfl ?_
  refine mj_wIv h (fm_o fm_s219) rfl rfl rfl rfl rfl ⟨rfl, rfl⟩ (fun v2 M2 L2 R2 h => ?_)
  refine mj_if rfl rfl (fun c => ?_) (fun c => ?_)
  · replace h := h.1 c
    refine mj_auto2 [] 80 rfl ?_
    refine fn_pI fm_s219 rfl rfl rfl rfl ?_
    replace h := h _ rfl
    refine mj_auto2 [] 80 rfl ?_
    refine fn_gR fm_s219 rfl rfl rfl ?_
    refine mj_auto2 [] 80 rfl ?_
    refine mj_wIs h rfl rfl rfl rfl rfl rfl (fun v4 M4 L4 R4 h => ?_)
    refine mj_auto2 [] 80 rfl ?_
    refine fn_gR fm_s219 rfl rfl rfl ?_
    refine mj_auto2 [] 80 rfl ?_
    obtain ⟨k5, c, c2, h⟩ := h
    refine fn_ldk c c2 rfl fm_s220 rfl ?_
    refine mj_auto2 [] 80 rfl ?_
    refine mj_wVv h (fm_o fm_s219) rfl rfl rfl rfl rfl ⟨rfl, rfl⟩ (fun M6 L6 R6 h => ?_)
    refine mj_auto2 [] 80 rfl ?_
    exact mj_rt rfl rfl rfl ⟨_, _, _, _, rfl, rfl, h⟩
  · replace h := h.2 (Classical.not_not.mp c)
    refine mj_auto2 [] 80 rfl ?_
    exact mj_rt rfl rfl rfl ⟨_, _, _, _, rfl, rfl, h⟩
set_option maxRecDepth 20000 in
theorem w188 {d : Nat} {M : Nat → Nat → Int32} {ML : Nat → Nat → Int64} {R : Nat → Nat → Option Nat} {K : wK} (h : (∀ M1, M1 = fm_u M 219 5 (0 : Int32) → (wV d 141 [.ref 219, .ref 220] M1 ML R (fun M2 L2 R2 => (∀ M3, M3 = fm_u M2 219 4 (0 : Int32) → (wV d 140 [.ref 219, .long (L2 219 9), .long (L2 219 10)] M3 L2 R2 (fun M4 L4 R4 => (wV d 140 [.ref 219, .long (((((M4 220 40)).toInt64) * (L4 219 10)) - (L4 219 9)), .long (L4 219 10)] M4 L4 R4 (fun M5 L5 R5 => K (0 : Int32) M5 L5 R5))))))))) : wI (d + 1) 188 [.ref 219] M ML R K := by
  refine mj_of _ _ rfl rfl rfl ?_
  refine mj_auto1 [] 80 rfl ?_
  refine fn_pI fm_s219 rfl rfl rfl rfl ?_
  replace h := h _ rfl
  refine mj_auto1 [] 80 rfl ?_
  refine fn_gR fm_s219 rfl rfl rfl ?_
  refine mj_wVv h (fm_o fm_s219) rfl rfl rfl rfl rfl ⟨rfl, rfl⟩ (fun M2 L2 R2 h => ?_)
  refine mj_auto1 [] 80 rfl ?_
  refine fn_pI fm_s219 rfl rfl rfl rfl ?_
  replace h := h _ rfl
  refine mj_auto1 [] 80 rfl ?_
  refine fn_gL fm_s219 rfl rfl rfl ?_
  refine mj_auto1 [] 80 rfl ?_
  refine fn_gL fm_s219 rfl rfl rfl ?_
  refine mj_wVv h (fm_o fm_s219) rfl rfl rfl rfl rfl ⟨rfl, rfl⟩ (fun M4 L4 R4 h => ?_)
  refine mj_auto1 [] 80 rfl ?_
  refine fn_gR fm_s219 rfl rfl rfl ?_
  refine mj_auto1 [] 80 rfl ?_
  refine fn_ldk (k := 40) rfl (by decide) rfl fm_s220 rfl ?_
  refine mj_auto1 [] 80 rfl ?_
  refine fn_gL fm_s219 rfl rfl rfl ?_
  refine mj_auto1 [] 80 rfl ?_
  refine fn_gL fm_s219 rfl rfl rfl ?_
  refine mj_auto1 [] 80 rfl ?_
  refine fn_gL fm_s219 rfl rfl rfl ?_
  refine mj_wVv h (fm_o fm_s219) rfl rfl rfl rfl rfl ⟨rfl, rfl⟩ (fun M5 L5 R5 h => ?_)
  refine mj_auto1 [] 80 rfl ?_
  exact mj_rt rfl rfl rfl ⟨_, _, _, _, rfl, rfl, h⟩
def H189_22 (d : Nat) (x1 : Int32) (x2 : Int32) (M : Nat → Nat → Int32) (ML : Nat → Nat → Int64) (R : Nat → Nat → Option Nat) (K : wK) : Prop := mj_Rn d (some .int) kX11_order (wQ K) (fm_mk (M, ML, R)) 22 [some (.ref 219), some (.int x1), some (.int x2)] []
set_option maxRecDepth 20000 in
theorem h189_22 {d : Nat} {x1 : Int32} {x2 : Int32} {M : Nat → Nat → Int32} {ML : Nat → Nat → Int64} {R : Nat → Nat → Option Nat} {K : wK} (h : ((x1 ≤ x2 → K x1 M ML R) ∧ (¬ x1 ≤ x2 → (∃ k1, x2 = nI k1 ∧ k1 < 8 ∧ (wV d 135 [.ref 219, .long (((M 223 k1)).toInt64)] M ML R (fun M2 L2 R2 => H189_22 d x1 (x2 + (1 : Int32)) M2 L2 R2 K)))))) : H189_22 d x1 x2 M ML R K := by
  unfold H189_22
  refine mj_begin3 [22] 80 rfl ?_
  refine mj_if rfl rfl (fun c => ?_) (fun c => ?_)
  · replace h := h.1 c
    refine mj_auto3 [22] 80 rfl ?_
    exact mj_rt rfl rfl rfl ⟨_, _, _, _, rfl, rfl, h⟩
  · replace h := h.2 c
    refine mj_auto3 [22] 80 rfl ?_
    refine fn_gR fm_s219 rfl rfl rfl ?_
    refine mj_auto3 [22] 80 rfl ?_
    obtain ⟨k1, c, c2, h⟩ := h
    refine fn_ldk c c2 rfl fm_s223 rfl ?_
    refine mj_auto3 [22] 80 rfl ?_
    refine mj_wVv h (fm_o fm_s219) rfl rfl rfl rfl rfl ⟨rfl, rfl⟩ (fun M2 L2 R2 h => ?_)
    refine mj_auto3 [22] 80 rfl ?_
    exact h
set_option maxRecDepth 20000 in
theorem w189 {d : Nat} {M : Nat → Nat → Int32} {ML : Nat → Nat → Int64} {R : Nat → Nat → Option Nat} {K : wK} (h : (∀ M1, M1 = fm_u M 219 5 (0 : Int32) → (wI d 150 [.ref 219, .ref 220, .int (-1 : Int32)] M1 ML R (fun v2 M2 L2 R2 => (∀ M3, M3 = fm_u M2 219 4 (0 : Int32) → H189_22 d v2 (0 : Int32) M3 L2 R2 K))))) : wI (d + 1) 189 [.ref 219] M ML R K := by
  refine mj_of _ _ rfl rfl rfl ?_
  refine mj_auto3 [22] 80 rfl ?_
  refine fn_pI fm_s219 rfl rfl rfl rfl ?_
  replace h := h _ rfl
  refine mj_auto3 [22] 80 rfl ?_
  refine fn_gR fm_s219 rfl rfl rfl ?_
  refine mj_auto3 [22] 80 rfl ?_
  refine mj_wIv h (fm_o fm_s219) rfl rfl rfl rfl rfl ⟨rfl, rfl⟩ (fun v2 M2 L2 R2 h => ?_)
  refine mj_auto3 [22] 80 rfl ?_
  refine fn_pI fm_s219 rfl rfl rfl rfl ?_
  replace h := h _ rfl
  refine mj_auto3 [22] 80 rfl ?_
  exact h
def H190_4 (d : Nat) (p : Nat) (x1 : Int32) (x2 : Int32) (M : Nat → Nat → Int32) (ML : Nat → Nat → Int64) (R : Nat → Nat → Option Nat) (K : wK) : Prop := mj_Rn d (some .int) kX11_greatestLag (wQ K) (fm_mk (M, ML, R)) 4 [some (.ref p), some (.int x1), some (.int x2)] []
set_option maxRecDepth 20000 in
theorem h190_4 {d : Nat} {p : Nat} (hp : fm_sh p = .inl (0, 43)) {x1 : Int32} {x2 : Int32} {M : Nat → Nat → Int32} {ML : Nat → Nat → Int64} {R : Nat → Nat → Option Nat} {K : wK} (h : (((8 : Int32) ≤ x2 → K x1 M ML R) ∧ (¬ (8 : Int32) ≤ x2 → (wI d 136 [.ref p, .int x2] M ML R (fun v1 M1 L1 R1 => ((¬ v1 = 0 → ((x1 = (-1 : Int32) → H190_4 d p x2 (x2 + (1 : Int32)) M1 L1 R1 K) ∧ (¬ x1 = (-1 : Int32) → (wI d 186 [.ref p, .int x2] M1 L1 R1 (fun v2 M2 L2 R2 => (∃ k3, ((8 : Int32) + x1) = nI k3 ∧ k3 < 43 ∧ (wI d 186 [.ref p, .int x1] M2 L2 R2 (fun v4 M4 L4 R4 => (∃ k5, ((8 : Int32) + x2) = nI k5 ∧ k5 < 43 ∧ (((v2 * (M2 p k3)) ≤ (v4 * (M4 p k5)) → H190_4 d p x1 (x2 + (1 : Int32)) M4 L4 R4 K) ∧ (¬ (v2 * (M2 p k3)) ≤ (v4 * (M4 p k5)) → H190_4 d p x2 (x2 + (1 : Int32)) M4 L4 R4 K))))))))))) ∧ (v1 = 0 → H190_4 d p x1 (x2 + (1 : Int32)) M1 L1 R1 K))))))) : H190_4 d p x1 x2 M ML R K := by
  unfold H190_4
  refine mj_begin3 [4] 80 rfl ?_
  refine mj_if rfl rfl (fun c => ?_) (fun c => ?_)
  · replace h := h.1 c
    refine mj_auto3 [4] 80 rfl ?_
    exact mj_rt rfl rfl rfl ⟨_, _, _, _, rfl, rfl, h⟩
  · replace h := h.2 c
    refine mj_auto3 [4] 80 rfl ?_
    refine mj_wIs h rfl rfl rfl rfl rfl rfl (fun v1 M1 L1 R1 h => ?_)
    refine mj_if rfl rfl (fun c => ?_) (fun c => ?_)
    · replace h := h.1 c
      refine mj_auto3 [4] 80 rfl ?_
      refine mj_if rfl rfl (fun c => ?_) (fun c => ?_)
      · replace h := h.1 c
        refine mj_auto3 [4] 80 rfl ?_
        exact h
      · replace h := h.2 c
        refine mj_auto3 [4] 80 rfl ?_
        refine mj_wIs h rfl rfl rfl rfl rfl rfl (fun v2 M2 L2 R2 h => ?_)
        refine mj_auto3 [4] 80 rfl ?_
        obtain ⟨k3, c, c2, h⟩ := h
        refine fn_ldk c c2 rfl hp rfl ?_
        refine mj_auto3 [4] 80 rfl ?_
        refine mj_wIs h rfl rfl rfl rfl rfl rfl (fun v4 M4 L4 R4 h => ?_)
        refine mj_auto3 [4] 80 rfl ?_
        obtain ⟨k5, c, c2, h⟩ := h
        refine fn_ldk c c2 rfl hp rfl ?_
        refine mj_auto3 [4] 80 rfl ?_
        refine mj_if rfl rfl (fun c => ?_) (fun c => ?_)
        · replace h := h.1 c
          refine mj_auto3 [4] 80 rfl ?_
          exact h
        · replace h := h.2 c
          refine mj_auto3 [4] 80 rfl ?_
          exact h
    · replace h := h.2 (Classical.not_not.mp c)
      refine mj_auto3 [4] 80 rfl ?_
      exact h
set_option maxRecDepth 20000 in
theorem w190 {d : Nat} {p : Nat} (hp : fm_sh p = .inl (0, 43)) {M : Nat → Nat → Int32} {ML : Nat → Nat → Int64} {R : Nat → Nat → Option Nat} {K : wK} (h : H190_4 d p (-1 : Int32) (0 : Int32) M ML R K) : wI (d + 1) 190 [.ref p] M ML R K := by
  refine mj_of _ _ rfl rfl rfl ?_
  refine mj_auto3 [4] 80 rfl ?_
  exact h
set_option maxRecDepth 20000 in
theorem w191 {d : Nat} {M : Nat → Nat → Int32} {ML : Nat → Nat → Int64} {R : Nat → Nat → Option Nat} {K : wK} (h : (∀ M1, M1 = fm_u M 219 5 (0 : Int32) → (wI d 190 [.ref 220] M1 ML R (fun v2 M2 L2 R2 => ((¬ v2 = (-1 : Int32) → (∀ M3, M3 = fm_u M2 219 4 (0 : Int32) → (wI d 186 [.ref 220, .int v2] M3 L2 R2 (fun v4 M4 L4 R4 => (∃ k5, ((8 : Int32) + v2) = nI k5 ∧ k5 < 43 ∧ (wV d 140 [.ref 219, .long ((v4).toInt64), .long (((M4 220 k5)).toInt64)] M4 L4 R4 (fun M6 L6 R6 => K v2 M6 L6 R6))))))) ∧ (v2 = (-1 : Int32) → K (-2 : Int32) M2 L2 R2)))))) : wI (d + 1) 191 [.ref 219] M ML R K := by
  refine mj_of _ _ rfl rfl rfl ?_
  refine mj_auto2 [] 80 rfl ?_
  refine fn_pI fm_s219 rfl rfl rfl rfl ?_
  replace h := h _ rfl
  refine mj_auto2 [] 80 rfl ?_
  refine fn_gR fm_s219 rfl rfl rfl ?_
  refine mj_wIs h rfl rfl rfl rfl rfl rfl (fun v2 M2 L2 R2 h => ?_)
  refine mj_auto2 [] 80 rfl ?_
  refine mj_if rfl rfl (fun c => ?_) (fun c => ?_)
  · replace h := h.1 c
    refine mj_auto2 [] 80 rfl ?_
    refine fn_pI fm_s219 rfl rfl rfl rfl ?_
    replace h := h _ rfl
    refine mj_auto2 [] 80 rfl ?_
    refine fn_gR fm_s219 rfl rfl rfl ?_
    refine mj_auto2 [] 80 rfl ?_
    refine mj_wIs h rfl rfl rfl rfl rfl rfl (fun v4 M4 L4 R4 h => ?_)
    refine mj_auto2 [] 80 rfl ?_
    refine fn_gR fm_s219 rfl rfl rfl ?_
    refine mj_auto2 [] 80 rfl ?_
    obtain ⟨k5, c, c2, h⟩ := h
    refine fn_ldk c c2 rfl fm_s220 rfl ?_
    refine mj_auto2 [] 80 rfl ?_
    refine mj_wVv h (fm_o fm_s219) rfl rfl rfl rfl rfl ⟨rfl, rfl⟩ (fun M6 L6 R6 h => ?_)
    refine mj_auto2 [] 80 rfl ?_
    exact mj_rt rfl rfl rfl ⟨_, _, _, _, rfl, rfl, h⟩
  · replace h := h.2 (Classical.not_not.mp c)
    refine mj_auto2 [] 80 rfl ?_
    exact mj_rt rfl rfl rfl ⟨_, _, _, _, rfl, rfl, h⟩
def H192_44 (d : Nat) (x1 : Int32) (M : Nat → Nat → Int32) (ML : Nat → Nat → Int64) (R : Nat → Nat → Option Nat) (K : wK) : Prop := mj_Rn d (some .int) kX11_ahead (wQ K) (fm_mk (M, ML, R)) 44 [some (.ref 219), some (.int x1)] []
set_option maxRecDepth 20000 in
theorem h192_44 {d : Nat} {x1 : Int32} {M : Nat → Nat → Int32} {ML : Nat → Nat → Int64} {R : Nat → Nat → Option Nat} {K : wK} (h : (∃ k1, (M 219 4) = nI k1 ∧ k1 < 8 ∧ (((M 223 k1) = x1 → K (M 219 4) M ML R) ∧ (¬ (M 223 k1) = x1 → (∃ k2, (M 219 4) = nI k2 ∧ k2 < 8 ∧ (wV d 135 [.ref 219, .long (((M 223 k2)).toInt64)] M ML R (fun M3 L3 R3 => H192_44 d x1 M3 L3 R3 K))))))) : H192_44 d x1 M ML R K := by
  unfold H192_44
  refine mj_begin2 [44] 80 rfl ?_
  refine fn_gR fm_s219 rfl rfl rfl ?_
  refine mj_auto2 [44] 80 rfl ?_
  refine fn_gI fm_s219 rfl rfl rfl ?_
  obtain ⟨k1, c, c2, h⟩ := h
  refine fn_ldk c c2 rfl fm_s223 rfl ?_
  refine mj_auto2 [44] 80 rfl ?_
  refine mj_if rfl rfl (fun c => ?_) (fun c => ?_)
  · replace h := h.1 c
    refine mj_auto2 [44] 80 rfl ?_
    refine fn_gI fm_s219 rfl rfl rfl ?_
    exact mj_rt rfl rfl rfl ⟨_, _, _, _, rfl, rfl, h⟩
  · replace h := h.2 c
    refine mj_auto2 [44] 80 rfl ?_
    refine fn_gR fm_s219 rfl rfl rfl ?_
    refine mj_auto2 [44] 80 rfl ?_
    refine fn_gI fm_s219 rfl rfl rfl ?_
    obtain ⟨k2, c, c2, h⟩ := h
    refine fn_ldk c c2 rfl fm_s223 rfl ?_
    refine mj_auto2 [44] 80 rfl ?_
    refine mj_wVv h (fm_o fm_s219) rfl rfl rfl rfl rfl ⟨rfl, rfl⟩ (fun M3 L3 R3 h => ?_)
    refine mj_auto2 [44] 80 rfl ?_
    exact h
set_option maxRecDepth 20000 in
theorem w192 {d : Nat} {a1 : Int32} {M : Nat → Nat → Int32} {ML : Nat → Nat → Int64} {R : Nat → Nat → Option Nat} {K : wK} (h : (∀ M1, M1 = fm_u M 219 5 (0 : Int32) → (wI d 137 [.ref 219, .int a1] M1 ML R (fun v2 M2 L2 R2 => ((¬ v2 = 0 → (wI d 147 [.ref 220, .int a1] M2 L2 R2 (fun v3 M3 L3 R3 => ((¬ v3 = 0 → (wI d 150 [.ref 219, .ref 220, .int (-1 : Int32)] M3 L3 R3 (fun v4 M4 L4 R4 => (∀ M5, M5 = fm_u M4 219 4 (0 : Int32) → H192_44 d a1 M5 L4 R4 K)))) ∧ (v3 = 0 → K (-2 : Int32) M3 L3 R3))))) ∧ (v2 = 0 → K (-1 : Int32) M2 L2 R2)))))) : wI (d + 1) 192 [.ref 219, .int a1] M ML R K := by
  refine mj_of _ _ rfl rfl rfl ?_
  refine mj_auto2 [44] 80 rfl ?_
  refine fn_pI fm_s219 rfl rfl rfl rfl ?_
  replace h := h _ rfl
  refine mj_auto2 [44] 80 rfl ?_
  refine mj_wIv h (fm_o fm_s219) rfl rfl rfl rfl rfl ⟨rfl, rfl⟩ (fun v2 M2 L2 R2 h => ?_)
  refine mj_if rfl rfl (fun c => ?_) (fun c => ?_)
  · replace h := h.1 c
    refine mj_auto2 [44] 80 rfl ?_
    refine fn_gR fm_s219 rfl rfl rfl ?_
    refine mj_auto2 [44] 80 rfl ?_
    refine mj_wIs h rfl rfl rfl rfl rfl rfl (fun v3 M3 L3 R3 h => ?_)
    refine mj_if rfl rfl (fun c => ?_) (fun c => ?_)
    · replace h := h.1 c
      refine mj_auto2 [44] 80 rfl ?_
      refine fn_gR fm_s219 rfl rfl rfl ?_
      refine mj_auto2 [44] 80 rfl ?_
      refine mj_wIv h (fm_o fm_s219) rfl rfl rfl rfl rfl ⟨rfl, rfl⟩ (fun v4 M4 L4 R4 h => ?_)
      refine mj_auto2 [44] 80 rfl ?_
      refine fn_pI fm_s219 rfl rfl rfl rfl ?_
      replace h := h _ rfl
      exact h
    · replace h := h.2 (Classical.not_not.mp c)
      refine mj_auto2 [44] 80 rfl ?_
      exact mj_rt rfl rfl rfl ⟨_, _, _, _, rfl, rfl, h⟩
  · replace h := h.2 (Classical.not_not.mp c)
    refine mj_auto2 [44] 80 rfl ?_
    exact mj_rt rfl rfl rfl ⟨_, _, _, _, rfl, rfl, h⟩
set_option maxRecDepth 20000 in
theorem w193 {d : Nat} {a1 : Int32} {M : Nat → Nat → Int32} {ML : Nat → Nat → Int64} {R : Nat → Nat → Option Nat} {K : wK} (h : (∀ M1, M1 = fm_u M 219 5 (0 : Int32) → (wI d 132 [.int a1, .int (0 : Int32), .int (99 : Int32)] M1 ML R (fun v2 M2 L2 R2 => ((¬ v2 = 0 → (wV d 170 [.ref 220, .ref 227, .int (0 : Int32)] M2 L2 R2 (fun M3 L3 R3 => (wI d 174 [.ref 219, .ref 227, .int a1] M3 L3 R3 (fun v4 M4 L4 R4 => (wI d 172 [.ref 219, .ref 227, .int (-1 : Int32)] M4 L4 R4 (fun v5 M5 L5 R5 => (∀ M6, M6 = fm_u M5 219 4 (0 : Int32) → (wV d 135 [.ref 219, .long ((((M6 227 42) - (M6 220 42))).toInt64)] M6 L5 R5 (fun M7 L7 R7 => K v5 M7 L7 R7)))))))))) ∧ (v2 = 0 → K (-1 : Int32) M2 L2 R2)))))) : wI (d + 1) 193 [.ref 219, .int a1] M ML R K := by
  refine mj_of _ _ rfl rfl rfl ?_
  refine mj_auto3 [] 80 rfl ?_
  refine fn_pI fm_s219 rfl rfl rfl rfl ?_
  replace h := h _ rfl
  refine mj_auto3 [] 80 rfl ?_
  refine mj_wIs h rfl rfl rfl rfl rfl rfl (fun v2 M2 L2 R2 h => ?_)
  refine mj_if rfl rfl (fun c => ?_) (fun c => ?_)
  · replace h := h.1 c
    refine mj_auto3 [] 80 rfl ?_
    refine fn_gR fm_s219 rfl rfl rfl ?_
    refine mj_auto3 [] 80 rfl ?_
    refine fn_gR fm_s219 rfl rfl rfl ?_
    refine mj_auto3 [] 80 rfl ?_
    refine mj_wVs h rfl rfl rfl rfl rfl rfl (fun M3 L3 R3 h => ?_)
    refine mj_auto3 [] 80 rfl ?_
    refine fn_gR fm_s219 rfl rfl rfl ?_
    refine mj_auto3 [] 80 rfl ?_
    refine mj_wIv h (fm_o fm_s219) rfl rfl rfl rfl rfl ⟨rfl, rfl⟩ (fun v4 M4 L4 R4 h => ?_)
    refine mj_auto3 [] 80 rfl ?_
    refine fn_gR fm_s219 rfl rfl rfl ?_
    refine mj_auto3 [] 80 rfl ?_
    refine mj_wIv h (fm_o fm_s219) rfl rfl rfl rfl rfl ⟨rfl, rfl⟩ (fun v5 M5 L5 R5 h => ?_)
    refine mj_auto3 [] 80 rfl ?_
    refine fn_pI fm_s219 rfl rfl rfl rfl ?_
    replace h := h _ rfl
    refine mj_auto3 [] 80 rfl ?_
    refine fn_gR fm_s219 rfl rfl rfl ?_
    refine mj_auto3 [] 80 rfl ?_
    refine fn_ldk (k := 42) rfl (by decide) rfl fm_s227 rfl ?_
    refine mj_auto3 [] 80 rfl ?_
    refine fn_gR fm_s219 rfl rfl rfl ?_
    refine mj_auto3 [] 80 rfl ?_
    refine fn_ldk (k := 42) rfl (by decide) rfl fm_s220 rfl ?_
    refine mj_auto3 [] 80 rfl ?_
    refine mj_wVv h (fm_o fm_s219) rfl rfl rfl rfl rfl ⟨rfl, rfl⟩ (fun M7 L7 R7 h => ?_)
    refine mj_auto3 [] 80 rfl ?_
    exact mj_rt rfl rfl rfl ⟨_, _, _, _, rfl, rfl, h⟩
  · replace h := h.2 (Classical.not_not.mp c)
    refine mj_auto3 [] 80 rfl ?_
    exact mj_rt rfl rfl rfl ⟨_, _, _, _, rfl, rfl, h⟩
def H194_55 (d : Nat) (x1 : Int32) (x2 : Int32) (x3 : Int32) (M : Nat → Nat → Int32) (ML : Nat → Nat → Int64) (R : Nat → Nat → Option Nat) (K : wK) : Prop := mj_Rn d (some .int) kX11_when (wQ K) (fm_mk (M, ML, R)) 55 [some (.ref 219), some (.int x1), some (.int x2), some (.int x3)] []
set_option maxRecDepth 20000 in
theorem h194_55 {d : Nat} {x1 : Int32} {x2 : Int32} {x3 : Int32} {M : Nat → Nat → Int32} {ML : Nat → Nat → Int64} {R : Nat → Nat → Option Nat} {K : wK} (h : (((99 : Int32) ≤ x3 → K (-2 : Int32) M ML R) ∧ (¬ (99 : Int32) ≤ x3 → (wI d 172 [.ref 219, .ref 227, .int (-1 : Int32)] M ML R (fun v1 M1 L1 R1 => (∃ k2, ((32 : Int32) + x1) = nI k2 ∧ k2 < 43 ∧ ((x2 ≤ (M1 227 k2) → (∀ M3, M3 = fm_u M1 219 4 (0 : Int32) → (wI d 143 [.ref 220, .int x1, .int x2] M3 L1 R1 (fun v4 M4 L4 R4 => (wV d 135 [.ref 219, .long ((((v4 - (M4 220 41)) - x3)).toInt64)] M4 L4 R4 (fun M5 L5 R5 => K ((M5 220 41) + x3) M5 L5 R5)))))) ∧ (¬ x2 ≤ (M1 227 k2) → H194_55 d x1 x2 (x3 + (1 : Int32)) M1 L1 R1 K)))))))) : H194_55 d x1 x2 x3 M ML R K := by
  unfold H194_55
  refine mj_begin4 [55] 80 rfl ?_
  refine mj_if rfl rfl (fun c => ?_) (fun c => ?_)
  · replace h := h.1 c
    refine mj_auto4 [55] 80 rfl ?_
    exact mj_rt rfl rfl rfl ⟨_, _, _, _, rfl, rfl, h⟩
  · replace h := h.2 c
    refine mj_auto4 [55] 80 rfl ?_
    refine fn_gR fm_s219 rfl rfl rfl ?_
    refine mj_auto4 [55] 80 rfl ?_
    refine mj_wIv h (fm_o fm_s219) rfl rfl rfl rfl rfl ⟨rfl, rfl⟩ (fun v1 M1 L1 R1 h => ?_)
    refine mj_auto4 [55] 80 rfl ?_
    refine fn_gR fm_s219 rfl rfl rfl ?_
    refine mj_auto4 [55] 80 rfl ?_
    obtain ⟨k2, c, c2, h⟩ := h
    refine fn_ldk c c2 rfl fm_s227 rfl ?_
    refine mj_auto4 [55] 80 rfl ?_
    refine mj_if rfl rfl (fun c => ?_) (fun c => ?_)
    · replace h := h.1 c
      refine mj_auto4 [55] 80 rfl ?_
      refine fn_pI fm_s219 rfl rfl rfl rfl ?_
      replace h := h _ rfl
      refine mj_auto4 [55] 80 rfl ?_
      refine fn_gR fm_s219 rfl rfl rfl ?_
      refine mj_auto4 [55] 80 rfl ?_
      refine mj_wIs h rfl rfl rfl rfl rfl rfl (fun v4 M4 L4 R4 h => ?_)
      refine mj_auto4 [55] 80 rfl ?_
      refine fn_gR fm_s219 rfl rfl rfl ?_
      refine mj_auto4 [55] 80 rfl ?_
      refine fn_ldk (k := 41) rfl (by decide) rfl fm_s220 rfl ?_
      refine mj_auto4 [55] 80 rfl ?_
      refine mj_wVv h (fm_o fm_s219) rfl rfl rfl rfl rfl ⟨rfl, rfl⟩ (fun M5 L5 R5 h => ?_)
      refine mj_auto4 [55] 80 rfl ?_
      refine fn_gR fm_s219 rfl rfl rfl ?_
      refine mj_auto4 [55] 80 rfl ?_
      refine fn_ldk (k := 41) rfl (by decide) rfl fm_s220 rfl ?_
      refine mj_auto4 [55] 80 rfl ?_
      exact mj_rt rfl rfl rfl ⟨_, _, _, _, rfl, rfl, h⟩
    · replace h := h.2 c
      refine mj_auto4 [55] 80 rfl ?_
      exact h
set_option maxRecDepth 20000 in
theorem w194 {d : Nat} {a1 : Int32} {a2 : Int32} {M : Nat → Nat → Int32} {ML : Nat → Nat → Int64} {R : Nat → Nat → Option Nat} {K : wK} (h : (∀ M1, M1 = fm_u M 219 5 (0 : Int32) → (wI d 137 [.ref 219, .int a1] M1 ML R (fun v2 M2 L2 R2 => ((v2 = 0 → K (-1 : Int32) M2 L2 R2) ∧ (¬ v2 = 0 → (wI d 132 [.int a2, .int (1 : Int32), .int (60 : Int32)] M2 L2 R2 (fun v3 M3 L3 R3 => ((¬ v3 = 0 → (∃ k4, ((32 : Int32) + a1) = nI k4 ∧ k4 < 43 ∧ (((M3 220 k4) < a2 → (wV d 170 [.ref 220, .ref 227, .int (0 : Int32)] M3 L3 R3 (fun M5 L5 R5 => H194_55 d a1 a2 (0 : Int32) M5 L5 R5 K))) ∧ (¬ (M3 220 k4) < a2 → K (-3 : Int32) M3 L3 R3)))) ∧ (v3 = 0 → K (-1 : Int32) M3 L3 R3)))))))))) : wI (d + 1) 194 [.ref 219, .int a1, .int a2] M ML R K := by
  refine mj_of _ _ rfl rfl rfl ?_
  refine mj_auto4 [55] 80 rfl ?_
  refine fn_pI fm_s219 rfl rfl rfl rfl ?_
  replace h := h _ rfl
  refine mj_auto4 [55] 80 rfl ?_
  refine mj_wIv h (fm_o fm_s219) rfl rfl rfl rfl rfl ⟨rfl, rfl⟩ (fun v2 M2 L2 R2 h => ?_)
  refine mj_if rfl rfl (fun c => ?_) (fun c => ?_)
  · replace h := h.1 c
    refine mj_auto4 [55] 80 rfl ?_
    exact mj_rt rfl rfl rfl ⟨_, _, _, _, rfl, rfl, h⟩
  · replace h := h.2 c
    refine mj_auto4 [55] 80 rfl ?_
    refine mj_wIs h rfl rfl rfl rfl rfl rfl (fun v3 M3 L3 R3 h => ?_)
    refine mj_if rfl rfl (fun c => ?_) (fun c => ?_)
    · replace h := h.1 c
      refine mj_auto4 [55] 80 rfl ?_
      refine fn_gR fm_s219 rfl rfl rfl ?_
      refine mj_auto4 [55] 80 rfl ?_
      obtain ⟨k4, c, c2, h⟩ := h
      refine fn_ldk c c2 rfl fm_s220 rfl ?_
      refine mj_if rfl rfl (fun c => ?_) (fun c => ?_)
      · replace h := h.1 c
        refine mj_auto4 [55] 80 rfl ?_
        refine fn_gR fm_s219 rfl rfl rfl ?_
        refine mj_auto4 [55] 80 rfl ?_
        refine fn_gR fm_s219 rfl rfl rfl ?_
        refine mj_auto4 [55] 80 rfl ?_
        refine mj_wVs h rfl rfl rfl rfl rfl rfl (fun M5 L5 R5 h => ?_)
        refine mj_auto4 [55] 80 rfl ?_
        exact h
      · replace h := h.2 c
        refine mj_auto4 [55] 80 rfl ?_
        exact mj_rt rfl rfl rfl ⟨_, _, _, _, rfl, rfl, h⟩
    · replace h := h.2 (Classical.not_not.mp c)
      refine mj_auto4 [55] 80 rfl ?_
      exact mj_rt rfl rfl rfl ⟨_, _, _, _, rfl, rfl, h⟩
def H195_19 (d : Nat) (x1 : Int32) (M : Nat → Nat → Int32) (ML : Nat → Nat → Int64) (R : Nat → Nat → Option Nat) (K : wK) : Prop := mj_Rn d (some .int) kX11_misses (wQ K) (fm_mk (M, ML, R)) 19 [some (.ref 219), some (.int x1)] []
set_option maxRecDepth 20000 in
theorem h195_19 {d : Nat} {x1 : Int32} {M : Nat → Nat → Int32} {ML : Nat → Nat → Int64} {R : Nat → Nat → Option Nat} {K : wK} (h : (((99 : Int32) ≤ x1 → K (-2 : Int32) M ML R) ∧ (¬ (99 : Int32) ≤ x1 → (wI d 172 [.ref 219, .ref 227, .int (-1 : Int32)] M ML R (fun v1 M1 L1 R1 => ((¬ (M1 219 23) = 0 → (∀ M2, M2 = fm_u M1 219 4 (0 : Int32) → (wV d 135 [.ref 219, .long (((M2 219 23)).toInt64)] M2 L1 R1 (fun M3 L3 R3 => K ((M3 220 41) + x1) M3 L3 R3)))) ∧ ((M1 219 23) = 0 → H195_19 d (x1 + (1 : Int32)) M1 L1 R1 K))))))) : H195_19 d x1 M ML R K := by
  unfold H195_19
  refine mj_begin2 [19] 80 rfl ?_
  refine mj_if rfl rfl (fun c => ?_) (fun c => ?_)
  · replace h := h.1 c
    refine mj_auto2 [19] 80 rfl ?_
    exact mj_rt rfl rfl rfl ⟨_, _, _, _, rfl, rfl, h⟩
  · replace h := h.2 c
    refine mj_auto2 [19] 80 rfl ?_
    refine fn_gR fm_s219 rfl rfl rfl ?_
    refine mj_auto2 [19] 80 rfl ?_
    refine mj_wIv h (fm_o fm_s219) rfl rfl rfl rfl rfl ⟨rfl, rfl⟩ (fun v1 M1 L1 R1 h => ?_)
    refine mj_auto2 [19] 80 rfl ?_
    refine fn_gI fm_s219 rfl rfl rfl ?_
    refine mj_if rfl rfl (fun c => ?_) (fun c => ?_)
    · replace h := h.1 c
      refine mj_auto2 [19] 80 rfl ?_
      refine fn_pI fm_s219 rfl rfl rfl rfl ?_
      replace h := h _ rfl
      refine mj_auto2 [19] 80 rfl ?_
      refine fn_gI fm_s219 rfl rfl rfl ?_
      refine mj_auto2 [19] 80 rfl ?_
      refine mj_wVv h (fm_o fm_s219) rfl rfl rfl rfl rfl ⟨rfl, rfl⟩ (fun M3 L3 R3 h => ?_)
      refine mj_auto2 [19] 80 rfl ?_
      refine fn_gR fm_s219 rfl rfl rfl ?_
      refine mj_auto2 [19] 80 rfl ?_
      refine fn_ldk (k := 41) rfl (by decide) rfl fm_s220 rfl ?_
      refine mj_auto2 [19] 80 rfl ?_
      exact mj_rt rfl rfl rfl ⟨_, _, _, _, rfl, rfl, h⟩
    · replace h := h.2 (Classical.not_not.mp c)
      refine mj_auto2 [19] 80 rfl ?_
      exact h
set_option maxRecDepth 20000 in
theorem w195 {d : Nat} {M : Nat → Nat → Int32} {ML : Nat → Nat → Int64} {R : Nat → Nat → Option Nat} {K : wK} (h : (∀ M1, M1 = fm_u M 219 5 (0 : Int32) → (wV d 170 [.ref 220, .ref 227, .int (0 : Int32)] M1 ML R (fun M2 L2 R2 => H195_19 d (0 : Int32) M2 L2 R2 K)))) : wI (d + 1) 195 [.ref 219] M ML R K := by
  refine mj_of _ _ rfl rfl rfl ?_
  refine mj_auto2 [19] 80 rfl ?_
  refine fn_pI fm_s219 rfl rfl rfl rfl ?_
  replace h := h _ rfl
  refine mj_auto2 [19] 80 rfl ?_
  refine fn_gR fm_s219 rfl rfl rfl ?_
  refine mj_auto2 [19] 80 rfl ?_
  refine fn_gR fm_s219 rfl rfl rfl ?_
  refine mj_auto2 [19] 80 rfl ?_
  refine mj_wVs h rfl rfl rfl rfl rfl rfl (fun M2 L2 R2 h => ?_)
  refine mj_auto2 [19] 80 rfl ?_
  exact h
def H196_34 (d : Nat) (x1 : Int32) (x2 : Int32) (M : Nat → Nat → Int32) (ML : Nat → Nat → Int64) (R : Nat → Nat → Option Nat) (K : wK) : Prop := mj_Rn d (some .int) kX11_round (wQ K) (fm_mk (M, ML, R)) 34 [some (.ref 219), some (.int x1), some (.int x2), none, none] []
def H196_60 (d : Nat) (x1 : Int32) (x2 : Int32) (x3 : Int32) (x4 : Int32) (M : Nat → Nat → Int32) (ML : Nat → Nat → Int64) (R : Nat → Nat → Option Nat) (K : wK) : Prop := mj_Rn d (some .int) kX11_round (wQ K) (fm_mk (M, ML, R)) 60 [some (.ref 219), some (.int x1), some (.int x2), some (.int x3), some (.int x4)] []
set_option maxRecDepth 20000 in
theorem h196_34 {d : Nat} {x1 : Int32} {x2 : Int32} {M : Nat → Nat → Int32} {ML : Nat → Nat → Int64} {R : Nat → Nat → Option Nat} {K : wK} (h : (((99 : Int32) < x2 → K (-2 : Int32) M ML R) ∧ (¬ (99 : Int32) < x2 → (wI d 172 [.ref 219, .ref 227, .int (-1 : Int32)] M ML R (fun v1 M1 L1 R1 => (wI d 236 [.int v1] M1 L1 R1 (fun v2 M2 L2 R2 => H196_60 d (x1 + v2) x2 (1 : Int32) (0 : Int32) M2 L2 R2 K))))))) : H196_34 d x1 x2 M ML R K := by
  unfold H196_34
  refine mj_begin5 [34, 60] 80 rfl ?_
  refine mj_if rfl rfl (fun c => ?_) (fun c => ?_)
  · replace h := h.1 c
    refine mj_auto5 [34, 60] 80 rfl ?_
    exact mj_rt rfl rfl rfl ⟨_, _, _, _, rfl, rfl, h⟩
  · replace h := h.2 c
    refine mj_auto5 [34, 60] 80 rfl ?_
    refine fn_gR fm_s219 rfl rfl rfl ?_
    refine mj_auto5 [34, 60] 80 rfl ?_
    refine mj_wIv h (fm_o fm_s219) rfl rfl rfl rfl rfl ⟨rfl, rfl⟩ (fun v1 M1 L1 R1 h => ?_)
    refine mj_wIs h rfl rfl rfl rfl rfl rfl (fun v2 M2 L2 R2 h => ?_)
    refine mj_auto5 [34, 60] 80 rfl ?_
    exact h
set_option maxRecDepth 20000 in
theorem h196_60 {d : Nat} {x1 : Int32} {x2 : Int32} {x3 : Int32} {x4 : Int32} {M : Nat → Nat → Int32} {ML : Nat → Nat → Int64} {R : Nat → Nat → Option Nat} {K : wK} (h : (((8 : Int32) ≤ x4 → ((¬ x3 = 0 → (∀ M1, M1 = fm_u M 219 4 (0 : Int32) → (wV d 135 [.ref 219, .long ((x1).toInt64)] M1 ML R (fun M2 L2 R2 => K x2 M2 L2 R2)))) ∧ (x3 = 0 → H196_34 d x1 (x2 + (1 : Int32)) M ML R K))) ∧ (¬ (8 : Int32) ≤ x4 → ((x3 = 0 → H196_60 d x1 x2 (0 : Int32) (x4 + (1 : Int32)) M ML R K) ∧ (¬ x3 = 0 → (wI d 136 [.ref 220, .int x4] M ML R (fun v3 M3 L3 R3 => ((v3 = 0 → H196_60 d x1 x2 (1 : Int32) (x4 + (1 : Int32)) M3 L3 R3 K) ∧ (¬ v3 = 0 → (wI d 186 [.ref 227, .int x4] M3 L3 R3 (fun v4 M4 L4 R4 => (wI d 186 [.ref 220, .int x4] M4 L4 R4 (fun v5 M5 L5 R5 => ((¬ v4 = v5 → H196_60 d x1 x2 (0 : Int32) (x4 + (1 : Int32)) M5 L5 R5 K) ∧ (v4 = v5 → H196_60 d x1 x2 (1 : Int32) (x4 + (1 : Int32)) M5 L5 R5 K))))))))))))))) : H196_60 d x1 x2 x3 x4 M ML R K := by
  unfold H196_60
  refine mj_begin5 [34, 60] 80 rfl ?_
  refine mj_if rfl rfl (fun c => ?_) (fun c => ?_)
  · replace h := h.1 c
    refine mj_auto5 [34, 60] 80 rfl ?_
    refine mj_if rfl rfl (fun c => ?_) (fun c => ?_)
    · replace h := h.1 c
      refine mj_auto5 [34, 60] 80 rfl ?_
      refine fn_pI fm_s219 rfl rfl rfl rfl ?_
      replace h := h _ rfl
      refine mj_auto5 [34, 60] 80 rfl ?_
      refine mj_wVv h (fm_o fm_s219) rfl rfl rfl rfl rfl ⟨rfl, rfl⟩ (fun M2 L2 R2 h => ?_)
      refine mj_auto5 [34, 60] 80 rfl ?_
      exact mj_rt rfl rfl rfl ⟨_, _, _, _, rfl, rfl, h⟩
    · replace h := h.2 (Classical.not_not.mp c)
      refine mj_auto5 [34, 60] 80 rfl ?_
      exact mj_less h (leS (leS (leS (leN (leN le0)))))
  · replace h := h.2 c
    refine mj_auto5 [34, 60] 80 rfl ?_
    refine mj_if rfl rfl (fun c => ?_) (fun c => ?_)
    · replace h := h.1 c
      refine mj_auto5 [34, 60] 80 rfl ?_
      exact h
    · replace h := h.2 c
      refine mj_auto5 [34, 60] 80 rfl ?_
      refine fn_gR fm_s219 rfl rfl rfl ?_
      refine mj_auto5 [34, 60] 80 rfl ?_
      refine mj_wIs h rfl rfl rfl rfl rfl rfl (fun v3 M3 L3 R3 h => ?_)
      refine mj_if rfl rfl (fun c => ?_) (fun c => ?_)
      · replace h := h.1 c
        refine mj_auto5 [34, 60] 80 rfl ?_
        exact h
      · replace h := h.2 c
        refine mj_auto5 [34, 60] 80 rfl ?_
        refine fn_gR fm_s219 rfl rfl rfl ?_
        refine mj_auto5 [34, 60] 80 rfl ?_
        refine mj_wIs h rfl rfl rfl rfl rfl rfl (fun v4 M4 L4 R4 h => ?_)
        refine mj_auto5 [34, 60] 80 rfl ?_
        refine fn_gR fm_s219 rfl rfl rfl ?_
        refine mj_auto5 [34, 60] 80 rfl ?_
        refine mj_wIs h rfl rfl rfl rfl rfl rfl (fun v5 M5 L5 R5 h => ?_)
        refine mj_if rfl rfl (fun c => ?_) (fun c => ?_)
        · replace h := h.1 c
          refine mj_auto5 [34, 60] 80 rfl ?_
          exact h
        · replace h := h.2 (Classical.not_not.mp c)
          refine mj_auto5 [34, 60] 80 rfl ?_
          exact h
set_option maxRecDepth 20000 in
theorem w196 {d : Nat} {M : Nat → Nat → Int32} {ML : Nat → Nat → Int64} {R : Nat → Nat → Option Nat} {K : wK} (h : (∀ M1, M1 = fm_u M 219 5 (0 : Int32) → (wI d 138 [.ref 220] M1 ML R (fun v2 M2 L2 R2 => ((¬ v2 = 0 → (wV d 170 [.ref 220, .ref 227, .int (0 : Int32)] M2 L2 R2 (fun M3 L3 R3 => H196_34 d (0 : Int32) (1 : Int32) M3 L3 R3 K))) ∧ (v2 = 0 → K (-3 : Int32) M2 L2 R2)))))) : wI (d + 1) 196 [.ref 219] M ML R K := by
  refine mj_of _ _ rfl rfl rfl ?_
  refine mj_auto5 [34, 60] 80 rfl ?_
  refine fn_pI fm_s219 rfl rfl rfl rfl ?_
  replace h := h _ rfl
  refine mj_auto5 [34, 60] 80 rfl ?_
  refine fn_gR fm_s219 rfl rfl rfl ?_
  refine mj_wIs h rfl rfl rfl rfl rfl rfl (fun v2 M2 L2 R2 h => ?_)
  refine mj_if rfl rfl (fun c => ?_) (fun c => ?_)
  · replace h := h.1 c
    refine mj_auto5 [34, 60] 80 rfl ?_
    refine fn_gR fm_s219 rfl rfl rfl ?_
    refine mj_auto5 [34, 60] 80 rfl ?_
    refine fn_gR fm_s219 rfl rfl rfl ?_
    refine mj_auto5 [34, 60] 80 rfl ?_
    refine mj_wVs h rfl rfl rfl rfl rfl rfl (fun M3 L3 R3 h => ?_)
    refine mj_auto5 [34, 60] 80 rfl ?_
    exact h
  · replace h := h.2 (Classical.not_not.mp c)
    refine mj_auto5 [34, 60] 80 rfl ?_
    exact mj_rt rfl rfl rfl ⟨_, _, _, _, rfl, rfl, h⟩
def H197_54 (d : Nat) (x1 : Int32) (x2 : Int32) (x3 : Int32) (x4 : Int32) (x5 : Int32) (x6 : Int32) (x7 : Int32) (x8 : Int32) (M : Nat → Nat → Int32) (ML : Nat → Nat → Int64) (R : Nat → Nat → Option Nat) (K : wK) : Prop := mj_Rn d (some .int) kX11_share (wQ K) (fm_mk (M, ML, R)) 54 [some (.ref 219), some (.int x1), some (.int x2), some (.int x3), some (.int x4), some (.int x5), some (.int x6), some (.int x7), some (.int x8), none] []
set_option maxRecDepth 20000 in
theorem h197_54 {d : Nat} {x1 : Int32} {x2 : Int32} {x3 : Int32} {x4 : Int32} {x5 : Int32} {x6 : Int32} {x7 : Int32} {x8 : Int32} {M : Nat → Nat → Int32} {ML : Nat → Nat → Int64} {R : Nat → Nat → Option Nat} {K : wK} (h : ((x2 ≤ x8 → (∀ M1, M1 = fm_u M 219 4 (0 : Int32) → (wV d 135 [.ref 219, .long ((x6).toInt64)] M1 ML R (fun M2 L2 R2 => (wV d 135 [.ref 219, .long ((x7).toInt64)] M2 L2 R2 (fun M3 L3 R3 => K x3 M3 L3 R3)))))) ∧ (¬ x2 ≤ x8 → (wI d 172 [.ref 219, .ref 227, .int (-1 : Int32)] M ML R (fun v4 M4 L4 R4 => (wI d 133 [.int v4, .int x1] M4 L4 R4 (fun v5 M5 L5 R5 => ((v5 = 0 → ((v5 = 0 → ((v5 = 0 → (wI d 239 [.int x6, .int (0 : Int32)] M5 L5 R5 (fun v6 M6 L6 R6 => (wI d 239 [.int x7, .int (x5 + (1 : Int32))] M6 L6 R6 (fun v7 M7 L7 R7 => H197_54 d x1 x2 (x3 + (0 : Int32)) (0 : Int32) (x5 + (1 : Int32)) v6 v7 (x8 + (1 : Int32)) M7 L7 R7 K))))) ∧ (¬ v5 = 0 → (wI d 239 [.int x6, .int (0 : Int32)] M5 L5 R5 (fun v8 M8 L8 R8 => (wI d 239 [.int x7, .int (0 : Int32)] M8 L8 R8 (fun v9 M9 L9 R9 => H197_54 d x1 x2 (x3 + (0 : Int32)) (0 : Int32) (0 : Int32) v8 v9 (x8 + (1 : Int32)) M9 L9 R9 K))))))) ∧ (¬ v5 = 0 → ((v5 = 0 → (wI d 239 [.int x6, .int (x4 + (1 : Int32))] M5 L5 R5 (fun v10 M10 L10 R10 => (wI d 239 [.int x7, .int (x5 + (1 : Int32))] M10 L10 R10 (fun v11 M11 L11 R11 => H197_54 d x1 x2 (x3 + (0 : Int32)) (x4 + (1 : Int32)) (x5 + (1 : Int32)) v10 v11 (x8 + (1 : Int32)) M11 L11 R11 K))))) ∧ (¬ v5 = 0 → (wI d 239 [.int x6, .int (x4 + (1 : Int32))] M5 L5 R5 (fun v12 M12 L12 R12 => (wI d 239 [.int x7, .int (0 : Int32)] M12 L12 R12 (fun v13 M13 L13 R13 => H197_54 d x1 x2 (x3 + (0 : Int32)) (x4 + (1 : Int32)) (0 : Int32) v12 v13 (x8 + (1 : Int32)) M13 L13 R13 K))))))))) ∧ (¬ v5 = 0 → ((v5 = 0 → ((v5 = 0 → (wI d 239 [.int x6, .int (0 : Int32)] M5 L5 R5 (fun v14 M14 L14 R14 => (wI d 239 [.int x7, .int (x5 + (1 : Int32))] M14 L14 R14 (fun v15 M15 L15 R15 => H197_54 d x1 x2 (x3 + (1 : Int32)) (0 : Int32) (x5 + (1 : Int32)) v14 v15 (x8 + (1 : Int32)) M15 L15 R15 K))))) ∧ (¬ v5 = 0 → (wI d 239 [.int x6, .int (0 : Int32)] M5 L5 R5 (fun v16 M16 L16 R16 => (wI d 239 [.int x7, .int (0 : Int32)] M16 L16 R16 (fun v17 M17 L17 R17 => H197_54 d x1 x2 (x3 + (1 : Int32)) (0 : Int32) (0 : Int32) v16 v17 (x8 + (1 : Int32)) M17 L17 R17 K))))))) ∧ (¬ v5 = 0 → ((v5 = 0 → (wI d 239 [.int x6, .int (x4 + (1 : Int32))] M5 L5 R5 (fun v18 M18 L18 R18 => (wI d 239 [.int x7, .int (x5 + (1 : Int32))] M18 L18 R18 (fun v19 M19 L19 R19 => H197_54 d x1 x2 (x3 + (1 : Int32)) (x4 + (1 : Int32)) (x5 + (1 : Int32)) v18 v19 (x8 + (1 : Int32)) M19 L19 R19 K))))) ∧ (¬ v5 = 0 → (wI d 239 [.int x6, .int (x4 + (1 : Int32))] M5 L5 R5 (fun v20 M20 L20 R20 => (wI d 239 [.int x7, .int (0 : Int32)] M20 L20 R20 (fun v21 M21 L21 R21 => H197_54 d x1 x2 (x3 + (1 : Int32)) (x4 + (1 : Int32)) (0 : Int32) v20 v21 (x8 + (1 : Int32)) M21 L21 R21 K))))))))))))))))) : H197_54 d x1 x2 x3 x4 x5 x6 x7 x8 M ML R K := by
  unfold H197_54
  refine mj_begin10 [54] 80 rfl ?_
  refine mj_if rfl rfl (fun c => ?_) (fun c => ?_)
  · replace h := h.1 c
    refine mj_auto10 [54] 80 rfl ?_
    refine fn_pI fm_s219 rfl rfl rfl rfl ?_
    replace h := h _ rfl
    refine mj_auto10 [54] 80 rfl ?_
    refine mj_wVv h (fm_o fm_s219) rfl rfl rfl rfl rfl ⟨rfl, rfl⟩ (fun M2 L2 R2 h => ?_)
    refine mj_auto10 [54] 80 rfl ?_
    refine mj_wVv h (fm_o fm_s219) rfl rfl rfl rfl rfl ⟨rfl, rfl⟩ (fun M3 L3 R3 h => ?_)
    refine mj_auto10 [54] 80 rfl ?_
    exact mj_rt rfl rfl rfl ⟨_, _, _, _, rfl, rfl, h⟩
  · replace h := h.2 c
    refine mj_auto10 [54] 80 rfl ?_
    refine fn_gR fm_s219 rfl rfl rfl ?_
    refine mj_auto10 [54] 80 rfl ?_
    refine mj_wIv h (fm_o fm_s219) rfl rfl rfl rfl rfl ⟨rfl, rfl⟩ (fun v4 M4 L4 R4 h => ?_)
    refine mj_auto10 [54] 80 rfl ?_
    refine mj_wIs h rfl rfl rfl rfl rfl rfl (fun v5 M5 L5 R5 h => ?_)
    refine mj_auto10 [54] 80 rfl ?_
    refine mj_if rfl rfl (fun c => ?_) (fun c => ?_)
    · replace h := h.1 c
      refine mj_auto10 [54] 80 rfl ?_
      refine mj_if rfl rfl (fun c => ?_) (fun c => ?_)
      · replace h := h.1 c
        refine mj_auto10 [54] 80 rfl ?_
        refine mj_if rfl rfl (fun c => ?_) (fun c => ?_)
        · replace h := h.1 c
          refine mj_auto10 [54] 80 rfl ?_
          refine mj_wIs h rfl rfl rfl rfl rfl rfl (fun v6 M6 L6 R6 h => ?_)
          refine mj_auto10 [54] 80 rfl ?_
          refine mj_wIs h rfl rfl rfl rfl rfl rfl (fun v7 M7 L7 R7 h => ?_)
          refine mj_auto10 [54] 80 rfl ?_
          exact mj_less h (leS (leS (leS (leS (leS (leS (leS (leS (leS (leN le0))))))))))
        · replace h := h.2 c
          refine mj_auto10 [54] 80 rfl ?_
          refine mj_wIs h rfl rfl rfl rfl rfl rfl (fun v8 M8 L8 R8 h => ?_)
          refine mj_auto10 [54] 80 rfl ?_
          refine mj_wIs h rfl rfl rfl rfl rfl rfl (fun v9 M9 L9 R9 h => ?_)
          refine mj_auto10 [54] 80 rfl ?_
          exact mj_less h (leS (leS (leS (leS (leS (leS (leS (leS (leS (leN le0))))))))))
      · replace h := h.2 c
        refine mj_auto10 [54] 80 rfl ?_
        refine mj_if rfl rfl (fun c => ?_) (fun c => ?_)
        · replace h := h.1 c
          refine mj_auto10 [54] 80 rfl ?_
          refine mj_wIs h rfl rfl rfl rfl rfl rfl (fun v10 M10 L10 R10 h => ?_)
          refine mj_auto10 [54] 80 rfl ?_
          refine mj_wIs h rfl rfl rfl rfl rfl rfl (fun v11 M11 L11 R11 h => ?_)
          refine mj_auto10 [54] 80 rfl ?_
          exact mj_less h (leS (leS (leS (leS (leS (leS (leS (leS (leS (leN le0))))))))))
        · replace h := h.2 c
          refine mj_auto10 [54] 80 rfl ?_
          refine mj_wIs h rfl rfl rfl rfl rfl rfl (fun v12 M12 L12 R12 h => ?_)
          refine mj_auto10 [54] 80 rfl ?_
          refine mj_wIs h rfl rfl rfl rfl rfl rfl (fun v13 M13 L13 R13 h => ?_)
          refine mj_auto10 [54] 80 rfl ?_
          exact mj_less h (leS (leS (leS (leS (leS (leS (leS (leS (leS (leN le0))))))))))
    · replace h := h.2 c
      refine mj_auto10 [54] 80 rfl ?_
      refine mj_if rfl rfl (fun c => ?_) (fun c => ?_)
      · replace h := h.1 c
        refine mj_auto10 [54] 80 rfl ?_
        refine mj_if rfl rfl (fun c => ?_) (fun c => ?_)
        · replace h := h.1 c
          refine mj_auto10 [54] 80 rfl ?_
          refine mj_wIs h rfl rfl rfl rfl rfl rfl (fun v14 M14 L14 R14 h => ?_)
          refine mj_auto10 [54] 80 rfl ?_
          refine mj_wIs h rfl rfl rfl rfl rfl rfl (fun v15 M15 L15 R15 h => ?_)
          refine mj_auto10 [54] 80 rfl ?_
          exact mj_less h (leS (leS (leS (leS (leS (leS (leS (leS (leS (leN le0))))))))))
        · replace h := h.2 c
          refine mj_auto10 [54] 80 rfl ?_
          refine mj_wIs h rfl rfl rfl rfl rfl rfl (fun v16 M16 L16 R16 h => ?_)
          refine mj_auto10 [54] 80 rfl ?_
          refine mj_wIs h rfl rfl rfl rfl rfl rfl (fun v17 M17 L17 R17 h => ?_)
          refine mj_auto10 [54] 80 rfl ?_
          exact mj_less h (leS (leS (leS (leS (leS (leS (leS (leS (leS (leN le0))))))))))
      · replace h := h.2 c
        refine mj_auto10 [54] 80 rfl ?_
        refine mj_if rfl rfl (fun c => ?_) (fun c => ?_)
        · replace h := h.1 c
          refine mj_auto10 [54] 80 rfl ?_
          refine mj_wIs h rfl rfl rfl rfl rfl rfl (fun v18 M18 L18 R18 h => ?_)
          refine mj_auto10 [54] 80 rfl ?_
          refine mj_wIs h rfl rfl rfl rfl rfl rfl (fun v19 M19 L19 R19 h => ?_)
          refine mj_auto10 [54] 80 rfl ?_
          exact mj_less h (leS (leS (leS (leS (leS (leS (leS (leS (leS (leN le0))))))))))
        · replace h := h.2 c
          refine mj_auto10 [54] 80 rfl ?_
          refine mj_wIs h rfl rfl rfl rfl rfl rfl (fun v20 M20 L20 R20 h => ?_)
          refine mj_auto10 [54] 80 rfl ?_
          refine mj_wIs h rfl rfl rfl rfl rfl rfl (fun v21 M21 L21 R21 h => ?_)
          refine mj_auto10 [54] 80 rfl ?_
          exact mj_less h (leS (leS (leS (leS (leS (leS (leS (leS (leS (leN le0))))))))))
set_option maxRecDepth 20000 in
theorem w197 {d : Nat} {a1 : Int32} {a2 : Int32} {M : Nat → Nat → Int32} {ML : Nat → Nat → Int64} {R : Nat → Nat → Option Nat} {K : wK} (h : (∀ M1, M1 = fm_u M 219 5 (0 : Int32) → (wI d 137 [.ref 219, .int a1] M1 ML R (fun v2 M2 L2 R2 => ((v2 = 0 → K (-1 : Int32) M2 L2 R2) ∧ (¬ v2 = 0 → (wI d 132 [.int a2, .int (1 : Int32), .int (60 : Int32)] M2 L2 R2 (fun v3 M3 L3 R3 => ((¬ v3 = 0 → (wV d 170 [.ref 220, .ref 227, .int (0 : Int32)] M3 L3 R3 (fun M4 L4 R4 => H197_54 d a1 a2 (0 : Int32) (0 : Int32) (0 : Int32) (0 : Int32) (0 : Int32) (0 : Int32) M4 L4 R4 K))) ∧ (v3 = 0 → K (-1 : Int32) M3 L3 R3)))))))))) : wI (d + 1) 197 [.ref 219, .int a1, .int a2] M ML R K := by
  refine mj_of _ _ rfl rfl rfl ?_
  refine mj_auto10 [54] 80 rfl ?_
  refine fn_pI fm_s219 rfl rfl rfl rfl ?_
  replace h := h _ rfl
  refine mj_auto10 [54] 80 rfl ?_
  refine mj_wIv h (fm_o fm_s219) rfl rfl rfl rfl rfl ⟨rfl, rfl⟩ (fun v2 M2 L2 R2 h => ?_)
  refine mj_if rfl rfl (fun c => ?_) (fun c => ?_)
  · replace h := h.1 c
    refine mj_auto10 [54] 80 rfl ?_
    exact mj_rt rfl rfl rfl ⟨_, _, _, _, rfl, rfl, h⟩
  · replace h := h.2 c
    refine mj_auto10 [54] 80 rfl ?_
    refine mj_wIs h rfl rfl rfl rfl rfl rfl (fun v3 M3 L3 R3 h => ?_)
    refine mj_if rfl rfl (fun c => ?_) (fun c => ?_)
    · replace h := h.1 c
      refine mj_auto10 [54] 80 rfl ?_
      refine fn_gR fm_s219 rfl rfl rfl ?_
      refine mj_auto10 [54] 80 rfl ?_
      refine fn_gR fm_s219 rfl rfl rfl ?_
      refine mj_auto10 [54] 80 rfl ?_
      refine mj_wVs h rfl rfl rfl rfl rfl rfl (fun M4 L4 R4 h => ?_)
      refine mj_auto10 [54] 5 rfl ?_
      refine mj_auto10 [54] 5 rfl ?_
      exact h
    · replace h := h.2 (Classical.not_not.mp c)
      refine mj_auto10 [54] 80 rfl ?_
      exact mj_rt rfl rfl rfl ⟨_, _, _, _, rfl, rfl, h⟩
def H198_36 (d : Nat) (x1 : Int32) (x2 : Int32) (M : Nat → Nat → Int32) (ML : Nat → Nat → Int64) (R : Nat → Nat → Option Nat) (K : wK) : Prop := mj_Rn d (some .int) kX11_pairs (wQ K) (fm_mk (M, ML, R)) 36 [some (.ref 219), some (.int x1), some (.int x2), none, none, none] []
def H198_69 (d : Nat) (x1 : Int32) (x2 : Int32) (M : Nat → Nat → Int32) (ML : Nat → Nat → Int64) (R : Nat → Nat → Option Nat) (K : wK) : Prop := mj_Rn d (some .int) kX11_pairs (wQ K) (fm_mk (M, ML, R)) 69 [some (.ref 219), some (.int x1), some (.int x2), none, none, none] []
def H198_87 (d : Nat) (x1 : Int32) (x2 : Int32) (x3 : Int32) (x4 : Int32) (M : Nat → Nat → Int32) (ML : Nat → Nat → Int64) (R : Nat → Nat → Option Nat) (K : wK) : Prop := mj_Rn d (some .int) kX11_pairs (wQ K) (fm_mk (M, ML, R)) 87 [some (.ref 219), some (.int x1), some (.int x2), some (.int x3), some (.int x4), none] []
def H198_100 (d : Nat) (x1 : Int32) (x2 : Int32) (x3 : Int32) (x4 : Int32) (x5 : Int32) (M : Nat → Nat → Int32) (ML : Nat → Nat → Int64) (R : Nat → Nat → Option Nat) (K : wK) : Prop := mj_Rn d (some .int) kX11_pairs (wQ K) (fm_mk (M, ML, R)) 100 [some (.ref 219), some (.int x1), some (.int x2), some (.int x3), some (.int x4), some (.int x5)] []
def H198_168 (d : Nat) (x1 : Int32) (x2 : Int32) (x3 : Int32) (M : Nat → Nat → Int32) (ML : Nat → Nat → Int64) (R : Nat → Nat → Option Nat) (K : wK) : Prop := mj_Rn d (some .int) kX11_pairs (wQ K) (fm_mk (M, ML, R)) 168 [some (.ref 219), some (.int x1), some (.int x2), some (.int x3), none, none] []
def H198_179 (d : Nat) (x1 : Int32) (x2 : Int32) (x3 : Int32) (x4 : Int32) (M : Nat → Nat → Int32) (ML : Nat → Nat → Int64) (R : Nat → Nat → Option Nat) (K : wK) : Prop := mj_Rn d (some .int) kX11_pairs (wQ K) (fm_mk (M, ML, R)) 179 [some (.ref 219), some (.int x1), some (.int x2), some (.int x3), some (.int x4), none] []
set_option maxRecDepth 20000 in
theorem h198_36 {d : Nat} {x1 : Int32} {x2 : Int32} {M : Nat → Nat → Int32} {ML : Nat → Nat → Int64} {R : Nat → Nat → Option Nat} {K : wK} (h : (((64 : Int32) ≤ x2 → (wV d 170 [.ref 220, .ref 227, .int (0 : Int32)] M ML R (fun M1 L1 R1 => H198_69 d x1 (0 : Int32) M1 L1 R1 K))) ∧ (¬ (64 : Int32) ≤ x2 → (∃ k2, x2 = nI k2 ∧ k2 < 64 ∧ (∀ M2, M2 = fm_u M 229 k2 (0 : Int32) → H198_36 d x1 (x2 + (1 : Int32)) M2 ML R K))))) : H198_36 d x1 x2 M ML R K := by
  unfold H198_36
  refine mj_begin6 [36, 69, 87, 100, 168, 179] 80 rfl ?_
  refine mj_if rfl rfl (fun c => ?_) (fun c => ?_)
  · replace h := h.1 c
    refine mj_auto6 [36, 69, 87, 100, 168, 179] 80 rfl ?_
    refine fn_gR fm_s219 rfl rfl rfl ?_
    refine mj_auto6 [36, 69, 87, 100, 168, 179] 80 rfl ?_
    refine fn_gR fm_s219 rfl rfl rfl ?_
    refine mj_auto6 [36, 69, 87, 100, 168, 179] 80 rfl ?_
    refine mj_wVs h rfl rfl rfl rfl rfl rfl (fun M1 L1 R1 h => ?_)
    refine mj_auto6 [36, 69, 87, 100, 168, 179] 80 rfl ?_
    exact h
  · replace h := h.2 c
    refine mj_auto6 [36, 69, 87, 100, 168, 179] 80 rfl ?_
    refine fn_gR fm_s219 rfl rfl rfl ?_
    refine mj_auto6 [36, 69, 87, 100, 168, 179] 80 rfl ?_
    obtain ⟨k2, c, c2, h⟩ := h
    refine fn_stk c c2 rfl fm_s229 rfl ?_
    replace h := h _ rfl
    refine mj_auto6 [36, 69, 87, 100, 168, 179] 80 rfl ?_
    exact h
set_option maxRecDepth 20000 in
theorem h198_69 {d : Nat} {x1 : Int32} {x2 : Int32} {M : Nat → Nat → Int32} {ML : Nat → Nat → Int64} {R : Nat → Nat → Option Nat} {K : wK} (h : ((x1 ≤ x2 → H198_168 d x1 (-1 : Int32) (0 : Int32) M ML R K) ∧ (¬ x1 ≤ x2 → (wI d 172 [.ref 219, .ref 227, .int (-1 : Int32)] M ML R (fun v1 M1 L1 R1 => H198_87 d x1 x2 v1 (0 : Int32) M1 L1 R1 K))))) : H198_69 d x1 x2 M ML R K := by
  unfold H198_69
  refine mj_begin6 [36, 69, 87, 100, 168, 179] 80 rfl ?_
  refine mj_if rfl rfl (fun c => ?_) (fun c => ?_)
  · replace h := h.1 c
    refine mj_auto6 [36, 69, 87, 100, 168, 179] 80 rfl ?_
    exact h
  · replace h := h.2 c
    refine mj_auto6 [36, 69, 87, 100, 168, 179] 80 rfl ?_
    refine fn_gR fm_s219 rfl rfl rfl ?_
    refine mj_auto6 [36, 69, 87, 100, 168, 179] 80 rfl ?_
    refine mj_wIv h (fm_o fm_s219) rfl rfl rfl rfl rfl ⟨rfl, rfl⟩ (fun v1 M1 L1 R1 h => ?_)
    refine mj_auto6 [36, 69, 87, 100, 168, 179] 80 rfl ?_
    exact h
set_option maxRecDepth 20000 in
theorem h198_87 {d : Nat} {x1 : Int32} {x2 : Int32} {x3 : Int32} {x4 : Int32} {M : Nat → Nat → Int32} {ML : Nat → Nat → Int64} {R : Nat → Nat → Option Nat} {K : wK} (h : (((8 : Int32) ≤ x4 → H198_69 d x1 (x2 + (1 : Int32)) M ML R K) ∧ (¬ (8 : Int32) ≤ x4 → H198_100 d x1 x2 x3 x4 (x4 + (1 : Int32)) M ML R K))) : H198_87 d x1 x2 x3 x4 M ML R K := by
  unfold H198_87
  refine mj_begin6 [36, 69, 87, 100, 168, 179] 80 rfl ?_
  refine mj_if rfl rfl (fun c => ?_) (fun c => ?_)
  · replace h := h.1 c
    refine mj_auto6 [36, 69, 87, 100, 168, 179] 80 rfl ?_
    exact mj_less h (leS (leS (leS (leN (leN (leS le0))))))
  · replace h := h.2 c
    refine mj_auto6 [36, 69, 87, 100, 168, 179] 80 rfl ?_
    exact h
set_option maxRecDepth 20000 in
theorem h198_100 {d : Nat} {x1 : Int32} {x2 : Int32} {x3 : Int32} {x4 : Int32} {x5 : Int32} {M : Nat → Nat → Int32} {ML : Nat → Nat → Int64} {R : Nat → Nat → Option Nat} {K : wK} (h : (((8 : Int32) ≤ x5 → H198_87 d x1 x2 x3 (x4 + (1 : Int32)) M ML R K) ∧ (¬ (8 : Int32) ≤ x5 → (∃ k1, (((8 : Int32) * x4) + x5) = nI k1 ∧ k1 < 64 ∧ (wI d 133 [.int x3, .int x4] M ML R (fun v2 M2 L2 R2 => ((v2 = 0 → (∃ k3, (((8 : Int32) * x4) + x5) = nI k3 ∧ k3 < 64 ∧ (∀ M3, M3 = fm_u M2 229 k3 ((M 229 k1) + (0 : Int32)) → H198_100 d x1 x2 x3 x4 (x5 + (1 : Int32)) M3 L2 R2 K))) ∧ (¬ v2 = 0 → (wI d 133 [.int x3, .int x5] M2 L2 R2 (fun v4 M4 L4 R4 => ((v4 = 0 → (∃ k5, (((8 : Int32) * x4) + x5) = nI k5 ∧ k5 < 64 ∧ (∀ M5, M5 = fm_u M4 229 k5 ((M 229 k1) + (0 : Int32)) → H198_100 d x1 x2 x3 x4 (x5 + (1 : Int32)) M5 L4 R4 K))) ∧ (¬ v4 = 0 → (∃ k6, (((8 : Int32) * x4) + x5) = nI k6 ∧ k6 < 64 ∧ (∀ M6, M6 = fm_u M4 229 k6 ((M 229 k1) + (1 : Int32)) → H198_100 d x1 x2 x3 x4 (x5 + (1 : Int32)) M6 L4 R4 K)))))))))))))) : H198_100 d x1 x2 x3 x4 x5 M ML R K := by
  unfold H198_100
  refine mj_begin6 [36, 69, 87, 100, 168, 179] 80 rfl ?_
  refine mj_if rfl rfl (fun c => ?_) (fun c => ?_)
  · replace h := h.1 c
    refine mj_auto6 [36, 69, 87, 100, 168, 179] 80 rfl ?_
    exact mj_less h (leS (leS (leS (leS (leS (leN le0))))))
  · replace h := h.2 c
    refine mj_auto6 [36, 69, 87, 100, 168, 179] 80 rfl ?_
    refine fn_gR fm_s219 rfl rfl rfl ?_
    refine mj_auto6 [36, 69, 87, 100, 168, 179] 80 rfl ?_
    obtain ⟨k1, c, c2, h⟩ := h
    refine fn_ldk c c2 rfl fm_s229 rfl ?_
    refine mj_auto6 [36, 69, 87, 100, 168, 179] 80 rfl ?_
    refine mj_wIs h rfl rfl rfl rfl rfl rfl (fun v2 M2 L2 R2 h => ?_)
    refine mj_if rfl rfl (fun c => ?_) (fun c => ?_)
    · replace h := h.1 c
      refine mj_auto6 [36, 69, 87, 100, 168, 179] 80 rfl ?_
      obtain ⟨k3, c, c2, h⟩ := h
      refine fn_stk c c2 rfl fm_s229 rfl ?_
      replace h := h _ rfl
      refine mj_auto6 [36, 69, 87, 100, 168, 179] 80 rfl ?_
      exact h
    · replace h := h.2 c
      refine mj_auto6 [36, 69, 87, 100, 168, 179] 80 rfl ?_
      refine mj_wIs h rfl rfl rfl rfl rfl rfl (fun v4 M4 L4 R4 h => ?_)
      refine mj_if rfl rfl (fun c => ?_) (fun c => ?_)
      · replace h := h.1 c
        refine mj_auto6 [36, 69, 87, 100, 168, 179] 80 rfl ?_
        obtain ⟨k5, c, c2, h⟩ := h
        refine fn_stk c c2 rfl fm_s229 rfl ?_
        replace h := h _ rfl
        refine mj_auto6 [36, 69, 87, 100, 168, 179] 80 rfl ?_
        exact h
      · replace h := h.2 c
        refine mj_auto6 [36, 69, 87, 100, 168, 179] 80 rfl ?_
        obtain ⟨k6, c, c2, h⟩ := h
        refine fn_stk c c2 rfl fm_s229 rfl ?_
        replace h := h _ rfl
        refine mj_auto6 [36, 69, 87, 100, 168, 179] 80 rfl ?_
        exact h
set_option maxRecDepth 20000 in
theorem h198_168 {d : Nat} {x1 : Int32} {x2 : Int32} {x3 : Int32} {M : Nat → Nat → Int32} {ML : Nat → Nat → Int64} {R : Nat → Nat → Option Nat} {K : wK} (h : (((8 : Int32) ≤ x3 → (∀ M1, M1 = fm_u M 219 4 (0 : Int32) → (wV d 135 [.ref 219, .long (((x2 / (8 : Int32))).toInt64)] M1 ML R (fun M2 L2 R2 => (wV d 135 [.ref 219, .long (((x2 - x2 / (8 : Int32) * (8 : Int32))).toInt64)] M2 L2 R2 (fun M3 L3 R3 => (∃ k4, x2 = nI k4 ∧ k4 < 64 ∧ K (M3 229 k4) M3 L3 R3))))))) ∧ (¬ (8 : Int32) ≤ x3 → H198_179 d x1 x2 x3 (x3 + (1 : Int32)) M ML R K))) : H198_168 d x1 x2 x3 M ML R K := by
  unfold H198_168
  refine mj_begin6 [36, 69, 87, 100, 168, 179] 80 rfl ?_
  refine mj_if rfl rfl (fun c => ?_) (fun c => ?_)
  · replace h := h.1 c
    refine mj_auto6 [36, 69, 87, 100, 168, 179] 80 rfl ?_
    refine fn_pI fm_s219 rfl rfl rfl rfl ?_
    replace h := h _ rfl
    refine mj_auto6 [36, 69, 87, 100, 168, 179] 80 rfl ?_
    refine mj_div rfl rfl (by decide) ?_
    refine mj_auto6 [36, 69, 87, 100, 168, 179] 80 rfl ?_
    refine mj_wVv h (fm_o fm_s219) rfl rfl rfl rfl rfl ⟨rfl, rfl⟩ (fun M2 L2 R2 h => ?_)
    refine mj_auto6 [36, 69, 87, 100, 168, 179] 80 rfl ?_
    refine mj_div rfl rfl (by decide) ?_
    refine mj_auto6 [36, 69, 87, 100, 168, 179] 80 rfl ?_
    refine mj_wVv h (fm_o fm_s219) rfl rfl rfl rfl rfl ⟨rfl, rfl⟩ (fun M3 L3 R3 h => ?_)
    refine mj_auto6 [36, 69, 87, 100, 168, 179] 80 rfl ?_
    refine fn_gR fm_s219 rfl rfl rfl ?_
    refine mj_auto6 [36, 69, 87, 100, 168, 179] 80 rfl ?_
    obtain ⟨k4, c, c2, h⟩ := h
    refine fn_ldk c c2 rfl fm_s229 rfl ?_
    exact mj_rt rfl rfl rfl ⟨_, _, _, _, rfl, rfl, h⟩
  · replace h := h.2 c
    refine mj_auto6 [36, 69, 87, 100, 168, 179] 80 rfl ?_
    exact h
set_option maxRecDepth 20000 in
theorem h198_179 {d : Nat} {x1 : Int32} {x2 : Int32} {x3 : Int32} {x4 : Int32} {M : Nat → Nat → Int32} {ML : Nat → Nat → Int64} {R : Nat → Nat → Option Nat} {K : wK} (h : (((8 : Int32) ≤ x4 → H198_168 d x1 x2 (x3 + (1 : Int32)) M ML R K) ∧ (¬ (8 : Int32) ≤ x4 → (wI d 136 [.ref 220, .int x3] M ML R (fun v1 M1 L1 R1 => ((v1 = 0 → H198_179 d x1 x2 x3 (x4 + (1 : Int32)) M1 L1 R1 K) ∧ (¬ v1 = 0 → (wI d 136 [.ref 220, .int x4] M1 L1 R1 (fun v2 M2 L2 R2 => ((¬ v2 = 0 → ((x2 = (-1 : Int32) → H198_179 d x1 (((8 : Int32) * x3) + x4) x3 (x4 + (1 : Int32)) M2 L2 R2 K) ∧ (¬ x2 = (-1 : Int32) → (∃ k3, (((8 : Int32) * x3) + x4) = nI k3 ∧ k3 < 64 ∧ (∃ k4, x2 = nI k4 ∧ k4 < 64 ∧ (((M2 229 k3) ≤ (M2 229 k4) → H198_179 d x1 x2 x3 (x4 + (1 : Int32)) M2 L2 R2 K) ∧ (¬ (M2 229 k3) ≤ (M2 229 k4) → H198_179 d x1 (((8 : Int32) * x3) + x4) x3 (x4 + (1 : Int32)) M2 L2 R2 K))))))) ∧ (v2 = 0 → H198_179 d x1 x2 x3 (x4 + (1 : Int32)) M2 L2 R2 K))))))))))) : H198_179 d x1 x2 x3 x4 M ML R K := by
  unfold H198_179
  refine mj_begin6 [36, 69, 87, 100, 168, 179] 80 rfl ?_
  refine mj_if rfl rfl (fun c => ?_) (fun c => ?_)
  · replace h := h.1 c
    refine mj_auto6 [36, 69, 87, 100, 168, 179] 80 rfl ?_
    exact mj_less h (leS (leS (leS (leS (leN (leS le0))))))
  · replace h := h.2 c
    refine mj_auto6 [36, 69, 87, 100, 168, 179] 80 rfl ?_
    refine fn_gR fm_s219 rfl rfl rfl ?_
    refine mj_auto6 [36, 69, 87, 100, 168, 179] 80 rfl ?_
    refine mj_wIs h rfl rfl rfl rfl rfl rfl (fun v1 M1 L1 R1 h => ?_)
    refine mj_if rfl rfl (fun c => ?_) (fun c => ?_)
    · replace h := h.1 c
      refine mj_auto6 [36, 69, 87, 100, 168, 179] 80 rfl ?_
      exact h
    · replace h := h.2 c
      refine mj_auto6 [36, 69, 87, 100, 168, 179] 80 rfl ?_
      refine fn_gR fm_s219 rfl rfl rfl ?_
      refine mj_auto6 [36, 69, 87, 100, 168, 179] 80 rfl ?_
      refine mj_wIs h rfl rfl rfl rfl rfl rfl (fun v2 M2 L2 R2 h => ?_)
      refine mj_if rfl rfl (fun c => ?_) (fun c => ?_)
      · replace h := h.1 c
        refine mj_auto6 [36, 69, 87, 100, 168, 179] 80 rfl ?_
        refine mj_if rfl rfl (fun c => ?_) (fun c => ?_)
        · replace h := h.1 c
          refine mj_auto6 [36, 69, 87, 100, 168, 179] 80 rfl ?_
          exact h
        · replace h := h.2 c
          refine mj_auto6 [36, 69, 87, 100, 168, 179] 80 rfl ?_
          refine fn_gR fm_s219 rfl rfl rfl ?_
          refine mj_auto6 [36, 69, 87, 100, 168, 179] 80 rfl ?_
          obtain ⟨k3, c, c2, h⟩ := h
          refine fn_ldk c c2 rfl fm_s229 rfl ?_
          refine mj_auto6 [36, 69, 87, 100, 168, 179] 80 rfl ?_
          refine fn_gR fm_s219 rfl rfl rfl ?_
          refine mj_auto6 [36, 69, 87, 100, 168, 179] 80 rfl ?_
          obtain ⟨k4, c, c2, h⟩ := h
          refine fn_ldk c c2 rfl fm_s229 rfl ?_
          refine mj_if rfl rfl (fun c => ?_) (fun c => ?_)
          · replace h := h.1 c
            refine mj_auto6 [36, 69, 87, 100, 168, 179] 80 rfl ?_
            exact h
          · replace h := h.2 c
            refine mj_auto6 [36, 69, 87, 100, 168, 179] 80 rfl ?_
            exact h
      · replace h := h.2 (Classical.not_not.mp c)
        refine mj_auto6 [36, 69, 87, 100, 168, 179] 80 rfl ?_
        exact h
set_option maxRecDepth 20000 in
theorem w198 {d : Nat} {a1 : Int32} {M : Nat → Nat → Int32} {ML : Nat → Nat → Int64} {R : Nat → Nat → Option Nat} {K : wK} (h : (∀ M1, M1 = fm_u M 219 5 (0 : Int32) → (wI d 132 [.int a1, .int (1 : Int32), .int (60 : Int32)] M1 ML R (fun v2 M2 L2 R2 => ((¬ v2 = 0 → (wI d 138 [.ref 220] M2 L2 R2 (fun v3 M3 L3 R3 => (wI d 236 [.int v3] M3 L3 R3 (fun v4 M4 L4 R4 => (((2 : Int32) ≤ v4 → H198_36 d a1 (0 : Int32) M4 L4 R4 K) ∧ (¬ (2 : Int32) ≤ v4 → K (-2 : Int32) M4 L4 R4))))))) ∧ (v2 = 0 → K (-1 : Int32) M2 L2 R2)))))) : wI (d + 1) 198 [.ref 219, .int a1] M ML R K := by
  refine mj_of _ _ rfl rfl rfl ?_
  refine mj_auto6 [36, 69, 87, 100, 168, 179] 80 rfl ?_
  refine fn_pI fm_s219 rfl rfl rfl rfl ?_
  replace h := h _ rfl
  refine mj_auto6 [36, 69, 87, 100, 168, 179] 80 rfl ?_
  refine mj_wIs h rfl rfl rfl rfl rfl rfl (fun v2 M2 L2 R2 h => ?_)
  refine mj_if rfl rfl (fun c => ?_) (fun c => ?_)
  · replace h := h.1 c
    refine mj_auto6 [36, 69, 87, 100, 168, 179] 80 rfl ?_
    refine fn_gR fm_s219 rfl rfl rfl ?_
    refine mj_wIs h rfl rfl rfl rfl rfl rfl (fun v3 M3 L3 R3 h => ?_)
    refine mj_wIs h rfl rfl rfl rfl rfl rfl (fun v4 M4 L4 R4 h => ?_)
    refine mj_auto6 [36, 69, 87, 100, 168, 179] 80 rfl ?_
    refine mj_if rfl rfl (fun c => ?_) (fun c => ?_)
    · replace h := h.1 c
      refine mj_auto6 [36, 69, 87, 100, 168, 179] 80 rfl ?_
      exact h
    · replace h := h.2 c
      refine mj_auto6 [36, 69, 87, 100, 168, 179] 80 rfl ?_
      exact mj_rt rfl rfl rfl ⟨_, _, _, _, rfl, rfl, h⟩
  · replace h := h.2 (Classical.not_not.mp c)
    refine mj_auto6 [36, 69, 87, 100, 168, 179] 80 rfl ?_
    exact mj_rt rfl rfl rfl ⟨_, _, _, _, rfl, rfl, h⟩
def H199_61 (d : Nat) (x1 : Int32) (x2 : Int32) (x3 : Int32) (x4 : Int64) (x6 : Int64) (x8 : Int64) (x10 : Int64) (x12 : Int32) (M : Nat → Nat → Int32) (ML : Nat → Nat → Int64) (R : Nat → Nat → Option Nat) (K : wK) : Prop := mj_Rn d (some .int) kX11_lags (wQ K) (fm_mk (M, ML, R)) 61 [some (.ref 219), some (.int x1), some (.int x2), some (.int x3), some (.long x4), none, some (.long x6), none, some (.long x8), none, some (.long x10), none, some (.int x12), none, none, none, none, none, none] []
def H199_80 (d : Nat) (x1 : Int32) (x2 : Int32) (x3 : Int32) (x4 : Int64) (x6 : Int64) (x8 : Int64) (x10 : Int64) (x12 : Int32) (x13 : Int32) (M : Nat → Nat → Int32) (ML : Nat → Nat → Int64) (R : Nat → Nat → Option Nat) (K : wK) : Prop := mj_Rn d (some .int) kX11_lags (wQ K) (fm_mk (M, ML, R)) 80 [some (.ref 219), some (.int x1), some (.int x2), some (.int x3), some (.long x4), none, some (.long x6), none, some (.long x8), none, some (.long x10), none, some (.int x12), some (.int x13), none, none, none, none, none] []
set_option maxRecDepth 20000 in
theorem h199_61 {d : Nat} {x1 : Int32} {x2 : Int32} {x3 : Int32} {x4 : Int64} {x6 : Int64} {x8 : Int64} {x10 : Int64} {x12 : Int32} {M : Nat → Nat → Int32} {ML : Nat → Nat → Int64} {R : Nat → Nat → Option Nat} {K : wK} (h : ((x1 < x12 → (∀ M1, M1 = fm_u M 219 4 (0 : Int32) → (wV d 135 [.ref 219, .long ((x3).toInt64)] M1 ML R (fun M2 L2 R2 => (wV d 140 [.ref 219, .long x4, .long x6] M2 L2 R2 (fun M3 L3 R3 => (wV d 140 [.ref 219, .long x8, .long x10] M3 L3 R3 (fun M4 L4 R4 => K x2 M4 L4 R4)))))))) ∧ (¬ x1 < x12 → (wI d 172 [.ref 219, .ref 227, .int (-1 : Int32)] M ML R (fun v5 M5 L5 R5 => H199_80 d x1 x2 x3 x4 x6 x8 x10 x12 (0 : Int32) M5 L5 R5 K))))) : H199_61 d x1 x2 x3 x4 x6 x8 x10 x12 M ML R K := by
  unfold H199_61
  refine mj_begin19 [61, 80] 80 rfl ?_
  refine mj_if rfl rfl (fun c => ?_) (fun c => ?_)
  · replace h := h.1 c
    refine mj_auto19 [61, 80] 80 rfl ?_
    refine fn_pI fm_s219 rfl rfl rfl rfl ?_
    replace h := h _ rfl
    refine mj_auto19 [61, 80] 80 rfl ?_
    refine mj_wVv h (fm_o fm_s219) rfl rfl rfl rfl rfl ⟨rfl, rfl⟩ (fun M2 L2 R2 h => ?_)
    refine mj_auto19 [61, 80] 80 rfl ?_
    refine mj_wVv h (fm_o fm_s219) rfl rfl rfl rfl rfl ⟨rfl, rfl⟩ (fun M3 L3 R3 h => ?_)
    refine mj_auto19 [61, 80] 80 rfl ?_
    refine mj_wVv h (fm_o fm_s219) rfl rfl rfl rfl rfl ⟨rfl, rfl⟩ (fun M4 L4 R4 h => ?_)
    refine mj_auto19 [61, 80] 80 rfl ?_
    exact mj_rt rfl rfl rfl ⟨_, _, _, _, rfl, rfl, h⟩
  · replace h := h.2 c
    refine mj_auto19 [61, 80] 80 rfl ?_
    refine fn_gR fm_s219 rfl rfl rfl ?_
    refine mj_auto19 [61, 80] 80 rfl ?_
    refine mj_wIv h (fm_o fm_s219) rfl rfl rfl rfl rfl ⟨rfl, rfl⟩ (fun v5 M5 L5 R5 h => ?_)
    refine mj_auto19 [61, 80] 80 rfl ?_
    exact h
set_option maxRecDepth 20000 in
theorem h199_80 {d : Nat} {x1 : Int32} {x2 : Int32} {x3 : Int32} {x4 : Int64} {x6 : Int64} {x8 : Int64} {x10 : Int64} {x12 : Int32} {x13 : Int32} {M : Nat → Nat → Int32} {ML : Nat → Nat → Int64} {R : Nat → Nat → Option Nat} {K : wK} (h : (((8 : Int32) ≤ x13 → H199_61 d x1 x2 x3 x4 x6 x8 x10 (x12 + (1 : Int32)) M ML R K) ∧ (¬ (8 : Int32) ≤ x13 → (wI d 136 [.ref 227, .int x13] M ML R (fun v1 M1 L1 R1 => ((¬ v1 = 0 → (wI d 186 [.ref 227, .int x13] M1 L1 R1 (fun v2 M2 L2 R2 => (∃ k3, ((8 : Int32) + x13) = nI k3 ∧ k3 < 43 ∧ ((¬ x2 = (-1 : Int32) → ((¬ (0 : Int32) = 0 → ((¬ (0 : Int32) = 0 → H199_80 d x1 x13 x12 ((v2).toInt64) (((M2 227 k3)).toInt64) ((v2).toInt64) (((M2 227 k3)).toInt64) x12 (x13 + (1 : Int32)) M2 L2 R2 K) ∧ ((0 : Int32) = 0 → ((0 ≤ (lg_cmp (((v2).toInt64) * x10) (x8 * (((M2 227 k3)).toInt64))) → H199_80 d x1 x13 x12 ((v2).toInt64) (((M2 227 k3)).toInt64) x8 x10 x12 (x13 + (1 : Int32)) M2 L2 R2 K) ∧ (¬ 0 ≤ (lg_cmp (((v2).toInt64) * x10) (x8 * (((M2 227 k3)).toInt64))) → H199_80 d x1 x13 x12 ((v2).toInt64) (((M2 227 k3)).toInt64) ((v2).toInt64) (((M2 227 k3)).toInt64) x12 (x13 + (1 : Int32)) M2 L2 R2 K))))) ∧ ((0 : Int32) = 0 → (((lg_cmp (((v2).toInt64) * x6) (x4 * (((M2 227 k3)).toInt64))) ≤ 0 → ((¬ (0 : Int32) = 0 → H199_80 d x1 x2 x3 x4 x6 ((v2).toInt64) (((M2 227 k3)).toInt64) x12 (x13 + (1 : Int32)) M2 L2 R2 K) ∧ ((0 : Int32) = 0 → ((0 ≤ (lg_cmp (((v2).toInt64) * x10) (x8 * (((M2 227 k3)).toInt64))) → H199_80 d x1 x2 x3 x4 x6 x8 x10 x12 (x13 + (1 : Int32)) M2 L2 R2 K) ∧ (¬ 0 ≤ (lg_cmp (((v2).toInt64) * x10) (x8 * (((M2 227 k3)).toInt64))) → H199_80 d x1 x2 x3 x4 x6 ((v2).toInt64) (((M2 227 k3)).toInt64) x12 (x13 + (1 : Int32)) M2 L2 R2 K))))) ∧ (¬ (lg_cmp (((v2).toInt64) * x6) (x4 * (((M2 227 k3)).toInt64))) ≤ 0 → ((¬ (0 : Int32) = 0 → H199_80 d x1 x13 x12 ((v2).toInt64) (((M2 227 k3)).toInt64) ((v2).toInt64) (((M2 227 k3)).toInt64) x12 (x13 + (1 : Int32)) M2 L2 R2 K) ∧ ((0 : Int32) = 0 → ((0 ≤ (lg_cmp (((v2).toInt64) * x10) (x8 * (((M2 227 k3)).toInt64))) → H199_80 d x1 x13 x12 ((v2).toInt64) (((M2 227 k3)).toInt64) x8 x10 x12 (x13 + (1 : Int32)) M2 L2 R2 K) ∧ (¬ 0 ≤ (lg_cmp (((v2).toInt64) * x10) (x8 * (((M2 227 k3)).toInt64))) → H199_80 d x1 x13 x12 ((v2).toInt64) (((M2 227 k3)).toInt64) ((v2).toInt64) (((M2 227 k3)).toInt64) x12 (x13 + (1 : Int32)) M2 L2 R2 K))))))))) ∧ (x2 = (-1 : Int32) → ((¬ (1 : Int32) = 0 → ((¬ (1 : Int32) = 0 → H199_80 d x1 x13 x12 ((v2).toInt64) (((M2 227 k3)).toInt64) ((v2).toInt64) (((M2 227 k3)).toInt64) x12 (x13 + (1 : Int32)) M2 L2 R2 K) ∧ ((1 : Int32) = 0 → ((0 ≤ (lg_cmp (((v2).toInt64) * x10) (x8 * (((M2 227 k3)).toInt64))) → H199_80 d x1 x13 x12 ((v2).toInt64) (((M2 227 k3)).toInt64) x8 x10 x12 (x13 + (1 : Int32)) M2 L2 R2 K) ∧ (¬ 0 ≤ (lg_cmp (((v2).toInt64) * x10) (x8 * (((M2 227 k3)).toInt64))) → H199_80 d x1 x13 x12 ((v2).toInt64) (((M2 227 k3)).toInt64) ((v2).toInt64) (((M2 227 k3)).toInt64) x12 (x13 + (1 : Int32)) M2 L2 R2 K))))) ∧ ((1 : Int32) = 0 → (((lg_cmp (((v2).toInt64) * x6) (x4 * (((M2 227 k3)).toInt64))) ≤ 0 → ((¬ (1 : Int32) = 0 → H199_80 d x1 x2 x3 x4 x6 ((v2).toInt64) (((M2 227 k3)).toInt64) x12 (x13 + (1 : Int32)) M2 L2 R2 K) ∧ ((1 : Int32) = 0 → ((0 ≤ (lg_cmp (((v2).toInt64) * x10) (x8 * (((M2 227 k3)).toInt64))) → H199_80 d x1 x2 x3 x4 x6 x8 x10 x12 (x13 + (1 : Int32)) M2 L2 R2 K) ∧ (¬ 0 ≤ (lg_cmp (((v2).toInt64) * x10) (x8 * (((M2 227 k3)).toInt64))) → H199_80 d x1 x2 x3 x4 x6 ((v2).toInt64) (((M2 227 k3)).toInt64) x12 (x13 + (1 : Int32)) M2 L2 R2 K))))) ∧ (¬ (lg_cmp (((v2).toInt64) * x6) (x4 * (((M2 227 k3)).toInt64))) ≤ 0 → ((¬ (1 : Int32) = 0 → H199_80 d x1 x13 x12 ((v2).toInt64) (((M2 227 k3)).toInt64) ((v2).toInt64) (((M2 227 k3)).toInt64) x12 (x13 + (1 : Int32)) M2 L2 R2 K) ∧ ((1 : Int32) = 0 → ((0 ≤ (lg_cmp (((v2).toInt64) * x10) (x8 * (((M2 227 k3)).toInt64))) → H199_80 d x1 x13 x12 ((v2).toInt64) (((M2 227 k3)).toInt64) x8 x10 x12 (x13 + (1 : Int32)) M2 L2 R2 K) ∧ (¬ 0 ≤ (lg_cmp (((v2).toInt64) * x10) (x8 * (((M2 227 k3)).toInt64))) → H199_80 d x1 x13 x12 ((v2).toInt64) (((M2 227 k3)).toInt64) ((v2).toInt64) (((M2 227 k3)).toInt64) x12 (x13 + (1 : Int32)) M2 L2 R2 K)))))))))))))) ∧ (v1 = 0 → H199_80 d x1 x2 x3 x4 x6 x8 x10 x12 (x13 + (1 : Int32)) M1 L1 R1 K))))))) : H199_80 d x1 x2 x3 x4 x6 x8 x10 x12 x13 M ML R K := by
  unfold H199_80
  refine mj_begin19 [61, 80] 80 rfl ?_
  refine mj_if rfl rfl (fun c => ?_) (fun c => ?_)
  · replace h := h.1 c
    refine mj_auto19 [61, 80] 80 rfl ?_
    exact mj_less h (leS (leS (leS (leS (leS (leS (leS (leS (leS (leS (leS (leS (leS (leN (leS (leS (leS (leS (leS le0)))))))))))))))))))
  · replace h := h.2 c
    refine mj_auto19 [61, 80] 80 rfl ?_
    refine fn_gR fm_s219 rfl rfl rfl ?_
    refine mj_auto19 [61, 80] 80 rfl ?_
    refine mj_wIs h rfl rfl rfl rfl rfl rfl (fun v1 M1 L1 R1 h => ?_)
    refine mj_if rfl rfl (fun c => ?_) (fun c => ?_)
    · replace h := h.1 c
      refine mj_auto19 [61, 80] 80 rfl ?_
      refine fn_gR fm_s219 rfl rfl rfl ?_
      refine mj_auto19 [61, 80] 80 rfl ?_
      refine mj_wIs h rfl rfl rfl rfl rfl rfl (fun v2 M2 L2 R2 h => ?_)
      refine mj_auto19 [61, 80] 80 rfl ?_
      refine fn_gR fm_s219 rfl rfl rfl ?_
      refine mj_auto19 [61, 80] 80 rfl ?_
      obtain ⟨k3, c, c2, h⟩ := h
      refine fn_ldk c c2 rfl fm_s227 rfl ?_
      refine mj_auto19 [61, 80] 80 rfl ?_
      refine mj_if rfl rfl (fun c => ?_) (fun c => ?_)
      · replace h := h.1 c
        refine mj_auto19 [61, 80] 80 rfl ?_
        refine mj_if rfl rfl (fun c => ?_) (fun c => ?_)
        · replace h := h.1 c
          refine mj_auto19 [61, 80] 5 rfl ?_
          refine mj_auto19 [61, 80] 2 rfl ?_
          refine mj_if rfl rfl (fun c => ?_) (fun c => ?_)
          · replace h := h.1 c
            refine mj_auto19 [61, 80] 80 rfl ?_
            exact mj_less h (leS (leS (leS (leS (leS (leS (leS (leS (leS (leS (leS (leS (leS (leS (leN (leS (leN (leS (leN le0)))))))))))))))))))
          · replace h := h.2 (Classical.not_not.mp c)
            refine mj_auto19 [61, 80] 80 rfl ?_
            refine mj_if rfl rfl (fun c => ?_) (fun c => ?_)
            · replace h := h.1 c
              refine mj_auto19 [61, 80] 80 rfl ?_
              exact mj_less h (leS (leS (leS (leS (leS (leS (leS (leS (leS (leS (leS (leS (leS (leS (leN (leS (leN (leS (leN le0)))))))))))))))))))
            · replace h := h.2 c
              refine mj_auto19 [61, 80] 80 rfl ?_
              exact mj_less h (leS (leS (leS (leS (leS (leS (leS (leS (leS (leS (leS (leS (leS (leS (leN (leS (leN (leS (leN le0)))))))))))))))))))
        · replace h := h.2 (Classical.not_not.mp c)
          refine mj_auto19 [61, 80] 80 rfl ?_
          refine mj_if rfl rfl (fun c => ?_) (fun c => ?_)
          · replace h := h.1 c
            refine mj_auto19 [61, 80] 80 rfl ?_
            refine mj_if rfl rfl (fun c => ?_) (fun c => ?_)
            · replace h := h.1 c
              refine mj_auto19 [61, 80] 80 rfl ?_
              exact mj_less h (leS (leS (leS (leS (leS (leS (leS (leS (leS (leS (leS (leS (leS (leS (leN (leS (leN (leS (leN le0)))))))))))))))))))
            · replace h := h.2 (Classical.not_not.mp c)
              refine mj_auto19 [61, 80] 80 rfl ?_
              refine mj_if rfl rfl (fun c => ?_) (fun c => ?_)
              · replace h := h.1 c
                refine mj_auto19 [61, 80] 80 rfl ?_
                exact mj_less h (leS (leS (leS (leS (leS (leS (leS (leS (leS (leS (leS (leS (leS (leS (leN (leS (leN (leS (leN le0)))))))))))))))))))
              · replace h := h.2 c
                refine mj_auto19 [61, 80] 80 rfl ?_
                exact mj_less h (leS (leS (leS (leS (leS (leS (leS (leS (leS (leS (leS (leS (leS (leS (leN (leS (leN (leS (leN le0)))))))))))))))))))
          · replace h := h.2 c
            refine mj_auto19 [61, 80] 5 rfl ?_
            refine mj_auto19 [61, 80] 2 rfl ?_
            refine mj_if rfl rfl (fun c => ?_) (fun c => ?_)
            · replace h := h.1 c
              refine mj_auto19 [61, 80] 80 rfl ?_
              exact mj_less h (leS (leS (leS (leS (leS (leS (leS (leS (leS (leS (leS (leS (leS (leS (leN (leS (leN (leS (leN le0)))))))))))))))))))
            · replace h := h.2 (Classical.not_not.mp c)
              refine mj_auto19 [61, 80] 80 rfl ?_
              refine mj_if rfl rfl (fun c => ?_) (fun c => ?_)
              · replace h := h.1 c
                refine mj_auto19 [61, 80] 80 rfl ?_
                exact mj_less h (leS (leS (leS (leS (leS (leS (leS (leS (leS (leS (leS (leS (leS (leS (leN (leS (leN (leS (leN le0)))))))))))))))))))
              · replace h := h.2 c
                refine mj_auto19 [61, 80] 80 rfl ?_
                exact mj_less h (leS (leS (leS (leS (leS (leS (leS (leS (leS (leS (leS (leS (leS (leS (leN (leS (leN (leS (leN le0)))))))))))))))))))
      · replace h := h.2 (Classical.not_not.mp c)
        refine mj_auto19 [61, 80] 80 rfl ?_
        refine mj_if rfl rfl (fun c => ?_) (fun c => ?_)
        · replace h := h.1 c
          refine mj_auto19 [61, 80] 5 rfl ?_
          refine mj_auto19 [61, 80] 2 rfl ?_
          refine mj_if rfl rfl (fun c => ?_) (fun c => ?_)
          · replace h := h.1 c
            refine mj_auto19 [61, 80] 80 rfl ?_
            exact mj_less h (leS (leS (leS (leS (leS (leS (leS (leS (leS (leS (leS (leS (leS (leS (leN (leS (leN (leS (leN le0)))))))))))))))))))
          · replace h := h.2 (Classical.not_not.mp c)
            refine mj_auto19 [61, 80] 80 rfl ?_
            refine mj_if rfl rfl (fun c => ?_) (fun c => ?_)
            · replace h := h.1 c
              refine mj_auto19 [61, 80] 80 rfl ?_
              exact mj_less h (leS (leS (leS (leS (leS (leS (leS (leS (leS (leS (leS (leS (leS (leS (leN (leS (leN (leS (leN le0)))))))))))))))))))
            · replace h := h.2 c
              refine mj_auto19 [61, 80] 80 rfl ?_
              exact mj_less h (leS (leS (leS (leS (leS (leS (leS (leS (leS (leS (leS (leS (leS (leS (leN (leS (leN (leS (leN le0)))))))))))))))))))
        · replace h := h.2 (Classical.not_not.mp c)
          refine mj_auto19 [61, 80] 80 rfl ?_
          refine mj_if rfl rfl (fun c => ?_) (fun c => ?_)
          · replace h := h.1 c
            refine mj_auto19 [61, 80] 80 rfl ?_
            refine mj_if rfl rfl (fun c => ?_) (fun c => ?_)
            · replace h := h.1 c
              refine mj_auto19 [61, 80] 80 rfl ?_
              exact mj_less h (leS (leS (leS (leS (leS (leS (leS (leS (leS (leS (leS (leS (leS (leS (leN (leS (leN (leS (leN le0)))))))))))))))))))
            · replace h := h.2 (Classical.not_not.mp c)
              refine mj_auto19 [61, 80] 80 rfl ?_
              refine mj_if rfl rfl (fun c => ?_) (fun c => ?_)
              · replace h := h.1 c
                refine mj_auto19 [61, 80] 80 rfl ?_
                exact mj_less h (leS (leS (leS (leS (leS (leS (leS (leS (leS (leS (leS (leS (leS (leS (leN (leS (leN (leS (leN le0)))))))))))))))))))
              · replace h := h.2 c
                refine mj_auto19 [61, 80] 80 rfl ?_
                exact mj_less h (leS (leS (leS (leS (leS (leS (leS (leS (leS (leS (leS (leS (leS (leS (leN (leS (leN (leS (leN le0)))))))))))))))))))
          · replace h := h.2 c
            refine mj_auto19 [61, 80] 5 rfl ?_
            refine mj_auto19 [61, 80] 2 rfl ?_
            refine mj_if rfl rfl (fun c => ?_) (fun c => ?_)
            · replace h := h.1 c
              refine mj_auto19 [61, 80] 80 rfl ?_
              exact mj_less h (leS (leS (leS (leS (leS (leS (leS (leS (leS (leS (leS (leS (leS (leS (leN (leS (leN (leS (leN le0)))))))))))))))))))
            · replace h := h.2 (Classical.not_not.mp c)
              refine mj_auto19 [61, 80] 80 rfl ?_
              refine mj_if rfl rfl (fun c => ?_) (fun c => ?_)
              · replace h := h.1 c
                refine mj_auto19 [61, 80] 80 rfl ?_
                exact mj_less h (leS (leS (leS (leS (leS (leS (leS (leS (leS (leS (leS (leS (leS (leS (leN (leS (leN (leS (leN le0)))))))))))))))))))
              · replace h := h.2 c
                refine mj_auto19 [61, 80] 80 rfl ?_
                exact mj_less h (leS (leS (leS (leS (leS (leS (leS (leS (leS (leS (leS (leS (leS (leS (leN (leS (leN (leS (leN le0)))))))))))))))))))
    · replace h := h.2 (Classical.not_not.mp c)
      refine mj_auto19 [61, 80] 80 rfl ?_
      exact h
set_option maxRecDepth 20000 in
theorem w199 {d : Nat} {a1 : Int32} {M : Nat → Nat → Int32} {ML : Nat → Nat → Int64} {R : Nat → Nat → Option Nat} {K : wK} (h : (∀ M1, M1 = fm_u M 219 5 (0 : Int32) → (wI d 132 [.int a1, .int (1 : Int32), .int (60 : Int32)] M1 ML R (fun v2 M2 L2 R2 => ((¬ v2 = 0 → (wI d 138 [.ref 220] M2 L2 R2 (fun v3 M3 L3 R3 => ((¬ v3 = 0 → (wV d 170 [.ref 220, .ref 227, .int (0 : Int32)] M3 L3 R3 (fun M4 L4 R4 => H199_61 d a1 (-1 : Int32) (0 : Int32) (0 : Int64) (1 : Int64) (0 : Int64) (1 : Int64) (1 : Int32) M4 L4 R4 K))) ∧ (v3 = 0 → K (-2 : Int32) M3 L3 R3))))) ∧ (v2 = 0 → K (-1 : Int32) M2 L2 R2)))))) : wI (d + 1) 199 [.ref 219, .int a1] M ML R K := by
  refine mj_of _ _ rfl rfl rfl ?_
  refine mj_auto19 [61, 80] 80 rfl ?_
  refine fn_pI fm_s219 rfl rfl rfl rfl ?_
  replace h := h _ rfl
  refine mj_auto19 [61, 80] 80 rfl ?_
  refine mj_wIs h rfl rfl rfl rfl rfl rfl (fun v2 M2 L2 R2 h => ?_)
  refine mj_if rfl rfl (fun c => ?_) (fun c => ?_)
  · replace h := h.1 c
    refine mj_auto19 [61, 80] 80 rfl ?_
    refine fn_gR fm_s219 rfl rfl rfl ?_
    refine mj_wIs h rfl rfl rfl rfl rfl rfl (fun v3 M3 L3 R3 h => ?_)
    refine mj_if rfl rfl (fun c => ?_) (fun c => ?_)
    · replace h := h.1 c
      refine mj_auto19 [61, 80] 80 rfl ?_
      refine fn_gR fm_s219 rfl rfl rfl ?_
      refine mj_auto19 [61, 80] 80 rfl ?_
      refine fn_gR fm_s219 rfl rfl rfl ?_
      refine mj_auto19 [61, 80] 80 rfl ?_
      refine mj_wVs h rfl rfl rfl rfl rfl rfl (fun M4 L4 R4 h => ?_)
      refine mj_auto19 [61, 80] 5 rfl ?_
      refine mj_auto19 [61, 80] 5 rfl ?_
      refine mj_auto19 [61, 80] 1 rfl ?_
      exact h
    · replace h := h.2 (Classical.not_not.mp c)
      refine mj_auto19 [61, 80] 80 rfl ?_
      exact mj_rt rfl rfl rfl ⟨_, _, _, _, rfl, rfl, h⟩
  · replace h := h.2 (Classical.not_not.mp c)
    refine mj_auto19 [61, 80] 80 rfl ?_
    exact mj_rt rfl rfl rfl ⟨_, _, _, _, rfl, rfl, h⟩
