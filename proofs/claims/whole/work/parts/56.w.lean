def H222_20 (d : Nat) (x1 : Int32) (x2 : Int32) (M : Nat → Nat → Int32) (ML : Nat → Nat → Int64) (R : Nat → Nat → Option Nat) (K : wK) : Prop := mj_Rn d (some .int) kX11_divisors (wQ K) (fm_mk (M, ML, R)) 20 [some (.ref 219), some (.int x1), some (.int x2)] []
set_option maxRecDepth 20000 in
theorem h222_20 {d : Nat} {x1 : Int32} {x2 : Int32} {M : Nat → Nat → Int32} {ML : Nat → Nat → Int64} {R : Nat → Nat → Option Nat} {K : wK} (h : ((x1 < x2 → (∀ M1, M1 = fm_u M 219 4 (0 : Int32) → (wI d 221 [.ref 219, .int x1] M1 ML R (fun v2 M2 L2 R2 => ((v2 ≤ 0 → (wI d 221 [.ref 219, .int x1] M2 L2 R2 (fun v3 M3 L3 R3 => ((v3 ≤ 0 → K (0 : Int32) M3 L3 R3) ∧ (¬ v3 ≤ 0 → K (1 : Int32) M3 L3 R3))))) ∧ (¬ v2 ≤ 0 → (wI d 221 [.ref 219, .int x1] M2 L2 R2 (fun v4 M4 L4 R4 => (wV d 135 [.ref 219, .long ((v4).toInt64)] M4 L4 R4 (fun M5 L5 R5 => (wI d 221 [.ref 219, .int x1] M5 L5 R5 (fun v6 M6 L6 R6 => ((v6 ≤ 0 → K (0 : Int32) M6 L6 R6) ∧ (¬ v6 ≤ 0 → K (1 : Int32) M6 L6 R6)))))))))))))) ∧ (¬ x1 < x2 → (wI d 221 [.ref 219, .int x2] M ML R (fun v7 M7 L7 R7 => ((v7 ≤ 0 → (∃ k8, x2 = nI k8 ∧ k8 < 201 ∧ (∀ M8, M8 = fm_u M7 241 k8 (0 : Int32) → H222_20 d x1 (x2 + (1 : Int32)) M8 L7 R7 K))) ∧ (¬ v7 ≤ 0 → (∃ k9, x2 = nI k9 ∧ k9 < 201 ∧ (∀ M9, M9 = fm_u M7 241 k9 (1 : Int32) → H222_20 d x1 (x2 + (1 : Int32)) M9 L7 R7 K))))))))) : H222_20 d x1 x2 M ML R K := by
  unfold H222_20
  refine mj_begin3 [20] 80 rfl ?_
  refine mj_if rfl rfl (fun c => ?_) (fun c => ?_)
  · replace h := h.1 c
    refine mj_auto3 [20] 80 rfl ?_
    refine fn_pI fm_s219 rfl rfl rfl rfl ?_
    replace h := h _ rfl
    refine mj_auto3 [20] 80 rfl ?_
    refine mj_wIv h (fm_o fm_s219) rfl rfl rfl rfl rfl ⟨rfl, rfl⟩ (fun v2 M2 L2 R2 h => ?_)
    refine mj_if rfl rfl (fun c => ?_) (fun c => ?_)
    · replace h := h.1 c
      refine mj_auto3 [20] 80 rfl ?_
      refine mj_wIv h (fm_o fm_s219) rfl rfl rfl rfl rfl ⟨rfl, rfl⟩ (fun v3 M3 L3 R3 h => ?_)
      refine mj_if rfl rfl (fun c => ?_) (fun c => ?_)
      · replace h := h.1 c
        refine mj_auto3 [20] 80 rfl ?_
        exact mj_rt rfl rfl rfl ⟨_, _, _, _, rfl, rfl, h⟩
      · replace h := h.2 c
        refine mj_auto3 [20] 80 rfl ?_
        exact mj_rt rfl rfl rfl ⟨_, _, _, _, rfl, rfl, h⟩
    · replace h := h.2 c
      refine mj_auto3 [20] 80 rfl ?_
      refine mj_wIv h (fm_o fm_s219) rfl rfl rfl rfl rfl ⟨rfl, rfl⟩ (fun v4 M4 L4 R4 h => ?_)
      refine mj_auto3 [20] 80 rfl ?_
      refine mj_wVv h (fm_o fm_s219) rfl rfl rfl rfl rfl ⟨rfl, rfl⟩ (fun M5 L5 R5 h => ?_)
      refine mj_auto3 [20] 80 rfl ?_
      refine mj_wIv h (fm_o fm_s219) rfl rfl rfl rfl rfl ⟨rfl, rfl⟩ (fun v6 M6 L6 R6 h => ?_)
      refine mj_if rfl rfl (fun c => ?_) (fun c => ?_)
      · replace h := h.1 c
        refine mj_auto3 [20] 80 rfl ?_
        exact mj_rt rfl rfl rfl ⟨_, _, _, _, rfl, rfl, h⟩
      · replace h := h.2 c
        refine mj_auto3 [20] 80 rfl ?_
        exact mj_rt rfl rfl rfl ⟨_, _, _, _, rfl, rfl, h⟩
  · replace h := h.2 c
    refine mj_auto3 [20] 80 rfl ?_
    refine fn_gR fm_s219 rfl rfl rfl ?_
    refine mj_auto3 [20] 80 rfl ?_
    refine mj_wIv h (fm_o fm_s219) rfl rfl rfl rfl rfl ⟨rfl, rfl⟩ (fun v7 M7 L7 R7 h => ?_)
    refine mj_if rfl rfl (fun c => ?_) (fun c => ?_)
    · replace h := h.1 c
      refine mj_auto3 [20] 80 rfl ?_
      obtain ⟨k8, c, c2, h⟩ := h
      refine fn_stkz c c2 rfl fm_s241 rfl ?_
      replace h := h _ rfl
      refine mj_auto3 [20] 80 rfl ?_
      exact h
    · replace h := h.2 c
      refine mj_auto3 [20] 80 rfl ?_
      obtain ⟨k9, c, c2, h⟩ := h
      refine fn_stkz c c2 rfl fm_s241 rfl ?_
      replace h := h _ rfl
      refine mj_auto3 [20] 80 rfl ?_
      exact h
set_option maxRecDepth 20000 in
theorem w222 {d : Nat} {a1 : Int32} {M : Nat → Nat → Int32} {ML : Nat → Nat → Int64} {R : Nat → Nat → Option Nat} {K : wK} (h : (∀ M1, M1 = fm_u M 219 5 (0 : Int32) → (wI d 132 [.int a1, .int (0 : Int32), .int (200 : Int32)] M1 ML R (fun v2 M2 L2 R2 => ((¬ v2 = 0 → H222_20 d a1 (0 : Int32) M2 L2 R2 K) ∧ (v2 = 0 → K (-1 : Int32) M2 L2 R2)))))) : wI (d + 1) 222 [.ref 219, .int a1] M ML R K := by
  refine mj_of _ _ rfl rfl rfl ?_
  refine mj_auto3 [20] 80 rfl ?_
  refine fn_pI fm_s219 rfl rfl rfl rfl ?_
  replace h := h _ rfl
  refine mj_auto3 [20] 80 rfl ?_
  refine mj_wIs h rfl rfl rfl rfl rfl rfl (fun v2 M2 L2 R2 h => ?_)
  refine mj_if rfl rfl (fun c => ?_) (fun c => ?_)
  · replace h := h.1 c
    refine mj_auto3 [20] 80 rfl ?_
    exact h
  · replace h := h.2 (Classical.not_not.mp c)
    refine mj_auto3 [20] 80 rfl ?_
    exact mj_rt rfl rfl rfl ⟨_, _, _, _, rfl, rfl, h⟩
def H225_26 (d : Nat) (x1 : Int32) (x2 : Int32) (x3 : Int32) (M : Nat → Nat → Int32) (ML : Nat → Nat → Int64) (R : Nat → Nat → Option Nat) (K : wK) : Prop := mj_Rn d (some .int) kX11_rests (wQ K) (fm_mk (M, ML, R)) 26 [some (.ref 219), some (.int x1), some (.int x2), some (.int x3), none] []
def H225_35 (d : Nat) (x1 : Int32) (x2 : Int32) (x3 : Int32) (x4 : Int32) (M : Nat → Nat → Int32) (ML : Nat → Nat → Int64) (R : Nat → Nat → Option Nat) (K : wK) : Prop := mj_Rn d (some .int) kX11_rests (wQ K) (fm_mk (M, ML, R)) 35 [some (.ref 219), some (.int x1), some (.int x2), some (.int x3), some (.int x4)] []
set_option maxRecDepth 20000 in
theorem h225_26 {d : Nat} {x1 : Int32} {x2 : Int32} {x3 : Int32} {M : Nat → Nat → Int32} {ML : Nat → Nat → Int64} {R : Nat → Nat → Option Nat} {K : wK} (h : (((9 : Int32) < x3 → K x2 M ML R) ∧ (¬ (9 : Int32) < x3 → H225_35 d x1 x2 x3 (0 : Int32) M ML R K))) : H225_26 d x1 x2 x3 M ML R K := by
  unfold H225_26
  refine mj_begin5 [26, 35] 80 rfl ?_
  refine mj_if rfl rfl (fun c => ?_) (fun c => ?_)
  · replace h := h.1 c
    refine mj_auto5 [26, 35] 80 rfl ?_
    exact mj_rt rfl rfl rfl ⟨_, _, _, _, rfl, rfl, h⟩
  · replace h := h.2 c
    refine mj_auto5 [26, 35] 80 rfl ?_
    exact h
set_option maxRecDepth 20000 in
theorem h225_35 {d : Nat} {x1 : Int32} {x2 : Int32} {x3 : Int32} {x4 : Int32} {M : Nat → Nat → Int32} {ML : Nat → Nat → Int64} {R : Nat → Nat → Option Nat} {K : wK} (h : (((9 : Int32) < x4 → H225_26 d x1 x2 (x3 + (1 : Int32)) M ML R K) ∧ (¬ (9 : Int32) < x4 → (wI d 224 [.int x3, .int x4, .int x1] M ML R (fun v1 M1 L1 R1 => ((v1 = 0 → H225_35 d x1 x2 x3 (x4 + (1 : Int32)) M1 L1 R1 K) ∧ (¬ v1 = 0 → (wI d 224 [.int x4, .int x3, .int x1] M1 L1 R1 (fun v2 M2 L2 R2 => ((¬ v2 = 0 → ((¬ x2 = 0 → H225_35 d x1 (x2 + (1 : Int32)) x3 (x4 + (1 : Int32)) M2 L2 R2 K) ∧ (x2 = 0 → (wV d 135 [.ref 219, .long ((x3).toInt64)] M2 L2 R2 (fun M3 L3 R3 => (wV d 135 [.ref 219, .long ((x4).toInt64)] M3 L3 R3 (fun M4 L4 R4 => H225_35 d x1 (x2 + (1 : Int32)) x3 (x4 + (1 : Int32)) M4 L4 R4 K))))))) ∧ (v2 = 0 → H225_35 d x1 x2 x3 (x4 + (1 : Int32)) M2 L2 R2 K))))))))))) : H225_35 d x1 x2 x3 x4 M ML R K := by
  unfold H225_35
  refine mj_begin5 [26, 35] 80 rfl ?_
  refine mj_if rfl rfl (fun c => ?_) (fun c => ?_)
  · replace h := h.1 c
    refine mj_auto5 [26, 35] 80 rfl ?_
    exact mj_less h (leS (leS (leS (leS (leN le0)))))
  · replace h := h.2 c
    refine mj_auto5 [26, 35] 80 rfl ?_
    refine mj_wIs h rfl rfl rfl rfl rfl rfl (fun v1 M1 L1 R1 h => ?_)
    refine mj_if rfl rfl (fun c => ?_) (fun c => ?_)
    · replace h := h.1 c
      refine mj_auto5 [26, 35] 80 rfl ?_
      exact h
    · replace h := h.2 c
      refine mj_auto5 [26, 35] 80 rfl ?_
      refine mj_wIs h rfl rfl rfl rfl rfl rfl (fun v2 M2 L2 R2 h => ?_)
      refine mj_if rfl rfl (fun c => ?_) (fun c => ?_)
      · replace h := h.1 c
        refine mj_auto5 [26, 35] 80 rfl ?_
        refine mj_if rfl rfl (fun c => ?_) (fun c => ?_)
        · replace h := h.1 c
          refine mj_auto5 [26, 35] 80 rfl ?_
          exact h
        · replace h := h.2 (Classical.not_not.mp c)
          refine mj_auto5 [26, 35] 80 rfl ?_
          refine mj_wVv h (fm_o fm_s219) rfl rfl rfl rfl rfl ⟨rfl, rfl⟩ (fun M3 L3 R3 h => ?_)
          refine mj_auto5 [26, 35] 80 rfl ?_
          refine mj_wVv h (fm_o fm_s219) rfl rfl rfl rfl rfl ⟨rfl, rfl⟩ (fun M4 L4 R4 h => ?_)
          refine mj_auto5 [26, 35] 80 rfl ?_
          exact h
      · replace h := h.2 (Classical.not_not.mp c)
        refine mj_auto5 [26, 35] 80 rfl ?_
        exact h
set_option maxRecDepth 20000 in
theorem w225 {d : Nat} {a1 : Int32} {M : Nat → Nat → Int32} {ML : Nat → Nat → Int64} {R : Nat → Nat → Option Nat} {K : wK} (h : (∀ M1, M1 = fm_u M 219 5 (0 : Int32) → (wI d 132 [.int a1, .int (0 : Int32), .int (18 : Int32)] M1 ML R (fun v2 M2 L2 R2 => ((¬ v2 = 0 → (∀ M3, M3 = fm_u M2 219 4 (0 : Int32) → H225_26 d a1 (0 : Int32) (0 : Int32) M3 L2 R2 K)) ∧ (v2 = 0 → K (-1 : Int32) M2 L2 R2)))))) : wI (d + 1) 225 [.ref 219, .int a1] M ML R K := by
  refine mj_of _ _ rfl rfl rfl ?_
  refine mj_auto5 [26, 35] 80 rfl ?_
  refine fn_pI fm_s219 rfl rfl rfl rfl ?_
  replace h := h _ rfl
  refine mj_auto5 [26, 35] 80 rfl ?_
  refine mj_wIs h rfl rfl rfl rfl rfl rfl (fun v2 M2 L2 R2 h => ?_)
  refine mj_if rfl rfl (fun c => ?_) (fun c => ?_)
  · replace h := h.1 c
    refine mj_auto5 [26, 35] 80 rfl ?_
    refine fn_pI fm_s219 rfl rfl rfl rfl ?_
    replace h := h _ rfl
    refine mj_auto5 [26, 35] 80 rfl ?_
    exact h
  · replace h := h.2 (Classical.not_not.mp c)
    refine mj_auto5 [26, 35] 80 rfl ?_
    exact mj_rt rfl rfl rfl ⟨_, _, _, _, rfl, rfl, h⟩
def H226_19 (d : Nat) (x1 : Int32) (M : Nat → Nat → Int32) (ML : Nat → Nat → Int64) (R : Nat → Nat → Option Nat) (K : wK) : Prop := mj_Rn d (some .int) kX11_lay60 (wQ K) (fm_mk (M, ML, R)) 19 [some (.ref 219), some (.int x1)] []
set_option maxRecDepth 20000 in
theorem h226_19 {d : Nat} {x1 : Int32} {M : Nat → Nat → Int32} {ML : Nat → Nat → Int64} {R : Nat → Nat → Option Nat} {K : wK} (h : (((60 : Int32) ≤ x1 → K ((M 227 42) - (M 220 42)) M ML R) ∧ (¬ (60 : Int32) ≤ x1 → (wI d 172 [.ref 219, .ref 227, .int (-1 : Int32)] M ML R (fun v1 M1 L1 R1 => (((M1 219 23) = 0 → H226_19 d (x1 + (1 : Int32)) M1 L1 R1 K) ∧ (¬ (M1 219 23) = 0 → ((¬ (M1 219 42) = (-1 : Int32) → H226_19 d (x1 + (1 : Int32)) M1 L1 R1 K) ∧ ((M1 219 42) = (-1 : Int32) → (∀ M2, M2 = fm_u M1 219 42 ((M1 220 41) + x1) → H226_19 d (x1 + (1 : Int32)) M2 L1 R1 K)))))))))) : H226_19 d x1 M ML R K := by
  unfold H226_19
  refine mj_begin2 [19] 80 rfl ?_
  refine mj_if rfl rfl (fun c => ?_) (fun c => ?_)
  · replace h := h.1 c
    refine mj_auto2 [19] 80 rfl ?_
    refine fn_gR fm_s219 rfl rfl rfl ?_
    refine mj_auto2 [19] 80 rfl ?_
    refine fn_ldk (k := 42) rfl (by decide) rfl fm_s227 rfl ?_
    refine mj_auto2 [19] 80 rfl ?_
    refine fn_gR fm_s219 rfl rfl rfl ?_
    refine mj_auto2 [19] 80 rfl ?_
    refine fn_ldk (k := 42) rfl (by decide) rfl fm_s220 rfl ?_
    refine mj_auto2 [19] 80 rfl ?_
    exact mj_rt rfl rfl rfl ⟨_, _, _, _, rfl, rfl, h⟩
  · replace h := h.2 c
    refine mj_auto2 [19] 80 rfl ?_
    refine fn_gR fm_s219 rfl rfl rfl ?_
    refine mj_auto2 [19] 80 rfl ?_
    refine mj_wIv h (fm_o fm_s219) rfl rfl rfl rfl rfl ⟨rfl, rfl⟩ (fun v1 M1 L1 R1 h => ?_)
    refine mj_auto2 [19] 80 rfl ?_
    refine fn_gI fm_s219 rfl rfl rfl ?_
    refine mj_if rfl rfl (fun c => ?_) (fun c => ?_)
    · replace h := h.1 c
      refine mj_auto2 [19] 80 rfl ?_
      exact h
    · replace h := h.2 c
      refine mj_auto2 [19] 80 rfl ?_
      refine fn_gI fm_s219 rfl rfl rfl ?_
      refine mj_auto2 [19] 80 rfl ?_
      refine mj_if rfl rfl (fun c => ?_) (fun c => ?_)
      · replace h := h.1 c
        refine mj_auto2 [19] 80 rfl ?_
        exact h
      · replace h := h.2 (Classical.not_not.mp c)
        refine mj_auto2 [19] 80 rfl ?_
        refine fn_gR fm_s219 rfl rfl rfl ?_
        refine mj_auto2 [19] 80 rfl ?_
        refine fn_ldk (k := 41) rfl (by decide) rfl fm_s220 rfl ?_
        refine mj_auto2 [19] 80 rfl ?_
        refine fn_pI fm_s219 rfl rfl rfl rfl ?_
        replace h := h _ rfl
        refine mj_auto2 [19] 80 rfl ?_
        exact h
set_option maxRecDepth 20000 in
theorem w226 {d : Nat} {M : Nat → Nat → Int32} {ML : Nat → Nat → Int64} {R : Nat → Nat → Option Nat} {K : wK} (h : (wV d 170 [.ref 220, .ref 227, .int (0 : Int32)] M ML R (fun M1 L1 R1 => (∀ M2, M2 = fm_u M1 219 42 (-1 : Int32) → H226_19 d (0 : Int32) M2 L1 R1 K)))) : wI (d + 1) 226 [.ref 219] M ML R K := by
  refine mj_of _ _ rfl rfl rfl ?_
  refine mj_auto2 [19] 80 rfl ?_
  refine fn_gR fm_s219 rfl rfl rfl ?_
  refine mj_auto2 [19] 80 rfl ?_
  refine fn_gR fm_s219 rfl rfl rfl ?_
  refine mj_auto2 [19] 80 rfl ?_
  refine mj_wVs h rfl rfl rfl rfl rfl rfl (fun M1 L1 R1 h => ?_)
  refine mj_auto2 [19] 80 rfl ?_
  refine fn_pI fm_s219 rfl rfl rfl rfl ?_
  replace h := h _ rfl
  refine mj_auto2 [19] 80 rfl ?_
  exact h
def H227_71 (d : Nat) (x1 : Int32) (x2 : Int32) (x3 : Int32) (x4 : Int32) (x6 : Int32) (x7 : Int32) (M : Nat → Nat → Int32) (ML : Nat → Nat → Int64) (R : Nat → Nat → Option Nat) (K : wK) : Prop := mj_Rn d (some .int) kX11_law (wQ K) (fm_mk (M, ML, R)) 71 [some (.ref 219), some (.int x1), some (.int x2), some (.int x3), some (.int x4), some (.ref 244), some (.int x6), some (.int x7)] []
set_option maxRecDepth 20000 in
theorem h227_71 {d : Nat} {x1 : Int32} {x2 : Int32} {x3 : Int32} {x4 : Int32} {x6 : Int32} {x7 : Int32} {M : Nat → Nat → Int32} {ML : Nat → Nat → Int64} {R : Nat → Nat → Option Nat} {K : wK} (h : ((x1 ≤ x7 → (wI d 226 [.ref 219] M ML R (fun v1 M1 L1 R1 => (∀ R2, R2 = fm_ur R1 219 6 (some 244) → (∀ M3, M3 = fm_u M1 219 8 x6 → (∀ M4, M4 = fm_u M3 219 4 (0 : Int32) → (wV d 135 [.ref 219, .long ((v1).toInt64)] M4 L1 R2 (fun M5 L5 R5 => (wV d 135 [.ref 219, .long ((x3).toInt64)] M5 L5 R5 (fun M6 L6 R6 => (wV d 135 [.ref 219, .long (((M6 219 42)).toInt64)] M6 L6 R6 (fun M7 L7 R7 => (wV d 135 [.ref 219, .long ((x4).toInt64)] M7 L7 R7 (fun M8 L8 R8 => K (v1 - x3) M8 L8 R8)))))))))))))) ∧ (¬ x1 ≤ x7 → (R 219 6 = some 245 ∧ (∃ k9, x7 = nI k9 ∧ k9 < 80 ∧ (∃ k10, x7 = nI k10 ∧ k10 < 5 ∧ (∀ M10, M10 = fm_u M 245 k10 (vp_nar .byte (M 221 k9)) → H227_71 d x1 x2 x3 x4 x6 (x7 + (1 : Int32)) M10 ML R K))))))) : H227_71 d x1 x2 x3 x4 x6 x7 M ML R K := by
  unfold H227_71
  refine mj_begin8 [71] 80 rfl ?_
  refine mj_if rfl rfl (fun c => ?_) (fun c => ?_)
  · replace h := h.1 c
    refine mj_auto8 [71] 80 rfl ?_
    refine mj_wIv h (fm_o fm_s219) rfl rfl rfl rfl rfl ⟨rfl, rfl⟩ (fun v1 M1 L1 R1 h => ?_)
    refine mj_auto8 [71] 80 rfl ?_
    refine fn_pM fm_s219 rfl rfl rfl rfl ?_
    replace h := h _ rfl
    refine mj_auto8 [71] 80 rfl ?_
    refine fn_pI fm_s219 rfl rfl rfl rfl ?_
    replace h := h _ rfl
    refine mj_auto8 [71] 80 rfl ?_
    refine fn_pI fm_s219 rfl rfl rfl rfl ?_
    replace h := h _ rfl
    refine mj_auto8 [71] 80 rfl ?_
    refine mj_wVv h (fm_o fm_s219) rfl rfl rfl rfl rfl ⟨rfl, rfl⟩ (fun M5 L5 R5 h => ?_)
    refine mj_auto8 [71] 80 rfl ?_
    refine mj_wVv h (fm_o fm_s219) rfl rfl rfl rfl rfl ⟨rfl, rfl⟩ (fun M6 L6 R6 h => ?_)
    refine mj_auto8 [71] 80 rfl ?_
    refine fn_gI fm_s219 rfl rfl rfl ?_
    refine mj_auto8 [71] 80 rfl ?_
    refine mj_wVv h (fm_o fm_s219) rfl rfl rfl rfl rfl ⟨rfl, rfl⟩ (fun M7 L7 R7 h => ?_)
    refine mj_auto8 [71] 80 rfl ?_
    refine mj_wVv h (fm_o fm_s219) rfl rfl rfl rfl rfl ⟨rfl, rfl⟩ (fun M8 L8 R8 h => ?_)
    refine mj_auto8 [71] 80 rfl ?_
    exact mj_rt rfl rfl rfl ⟨_, _, _, _, rfl, rfl, h⟩
  · replace h := h.2 c
    refine mj_auto8 [71] 80 rfl ?_
    obtain ⟨c, h⟩ := h
    refine fn_gM fm_s219 rfl rfl rfl c ?_
    refine mj_auto8 [71] 80 rfl ?_
    refine fn_gR fm_s219 rfl rfl rfl ?_
    refine mj_auto8 [71] 80 rfl ?_
    obtain ⟨k9, c, c2, h⟩ := h
    refine fn_ldkb c c2 rfl fm_s221 rfl ?_
    obtain ⟨k10, c, c2, h⟩ := h
    refine fn_stkb c c2 rfl fm_s245 rfl ?_
    replace h := h _ rfl
    refine mj_auto8 [71] 80 rfl ?_
    exact h
set_option maxRecDepth 20000 in
theorem w227 {d : Nat} {M : Nat → Nat → Int32} {ML : Nat → Nat → Int64} {R : Nat → Nat → Option Nat} {K : wK} (h : (∀ M1, M1 = fm_u M 219 5 (0 : Int32) → (∀ M2, M2 = fm_u M1 219 2 (0 : Int32) → (wI d 165 [.ref 219, .int (M1 219 2)] M2 ML R (fun v3 M3 L3 R3 => (((M1 219 2) ≤ v3 → (wI d 226 [.ref 219] M3 L3 R3 (fun v4 M4 L4 R4 => (R4 219 6 = some 244 ∧ (R4 219 7 = some 245 ∧ (∀ R5, R5 = fm_ur R4 219 6 (some 245) → (∀ M6, M6 = fm_u M4 219 8 (M1 219 2) → H227_71 d (M1 219 2) v3 v4 (M4 219 42) (M4 219 8) (0 : Int32) M6 L4 R5 K))))))) ∧ (¬ (M1 219 2) ≤ v3 → K ((-10000 : Int32) - v3) M3 L3 R3))))))) : wI (d + 1) 227 [.ref 219] M ML R K := by
  refine mj_of _ _ rfl rfl rfl ?_
  refine mj_auto8 [71] 80 rfl ?_
  refine fn_pI fm_s219 rfl rfl rfl rfl ?_
  replace h := h _ rfl
  refine mj_auto8 [71] 80 rfl ?_
  refine fn_gI fm_s219 rfl rfl rfl ?_
  refine mj_auto8 [71] 80 rfl ?_
  refine fn_pI fm_s219 rfl rfl rfl rfl ?_
  replace h := h _ rfl
  refine mj_auto8 [71] 80 rfl ?_
  refine mj_wIv h (fm_o fm_s219) rfl rfl rfl rfl rfl ⟨rfl, rfl⟩ (fun v3 M3 L3 R3 h => ?_)
  refine mj_auto8 [71] 80 rfl ?_
  refine mj_if rfl rfl (fun c => ?_) (fun c => ?_)
  · replace h := h.1 c
    refine mj_auto8 [71] 80 rfl ?_
    refine mj_wIv h (fm_o fm_s219) rfl rfl rfl rfl rfl ⟨rfl, rfl⟩ (fun v4 M4 L4 R4 h => ?_)
    refine mj_auto8 [71] 80 rfl ?_
    refine fn_gI fm_s219 rfl rfl rfl ?_
    refine mj_auto8 [71] 80 rfl ?_
    obtain ⟨c, h⟩ := h
    refine fn_gM fm_s219 rfl rfl rfl c ?_
    refine mj_auto8 [71] 80 rfl ?_
    refine fn_gI fm_s219 rfl rfl rfl ?_
    refine mj_auto8 [71] 80 rfl ?_
    obtain ⟨c, h⟩ := h
    refine fn_gM fm_s219 rfl rfl rfl c ?_
    refine fn_pM fm_s219 rfl rfl rfl rfl ?_
    replace h := h _ rfl
    refine mj_auto8 [71] 80 rfl ?_
    refine fn_pI fm_s219 rfl rfl rfl rfl ?_
    replace h := h _ rfl
    refine mj_auto8 [71] 80 rfl ?_
    exact h
  · replace h := h.2 c
    refine mj_auto8 [71] 80 rfl ?_
    exact mj_rt rfl rfl rfl ⟨_, _, _, _, rfl, rfl, h⟩
def H230_36 (d : Nat) (x1 : Int32) (x2 : Int32) (x3 : Int32) (M : Nat → Nat → Int32) (ML : Nat → Nat → Int64) (R : Nat → Nat → Option Nat) (K : wK) : Prop := mj_Rn d (some .int) kX11_years (wQ K) (fm_mk (M, ML, R)) 36 [some (.ref 219), some (.int x1), some (.int x2), some (.int x3), none, none] []
set_option maxRecDepth 20000 in
theorem h230_36 {d : Nat} {x1 : Int32} {x2 : Int32} {x3 : Int32} {M : Nat → Nat → Int32} {ML : Nat → Nat → Int64} {R : Nat → Nat → Option Nat} {K : wK} (h : ((x2 ≤ x3 → (∀ M1, M1 = fm_u M 219 4 (0 : Int32) → (wI d 138 [.ref 227] M1 ML R (fun v2 M2 L2 R2 => (wV d 135 [.ref 219, .long ((v2).toInt64)] M2 L2 R2 (fun M3 L3 R3 => (wI d 229 [.ref 227] M3 L3 R3 (fun v4 M4 L4 R4 => (wV d 135 [.ref 219, .long ((v4).toInt64)] M4 L4 R4 (fun M5 L5 R5 => K ((M5 227 42) - (M5 220 42)) M5 L5 R5)))))))))) ∧ (¬ x2 ≤ x3 → (wI d 228 [.ref 219, .int (6 : Int32)] M ML R (fun v6 M6 L6 R6 => (((4 : Int32) ≤ v6 → (wI d 228 [.ref 219, .int (8 : Int32)] M6 L6 R6 (fun v7 M7 L7 R7 => (wI d 136 [.ref 227, .int v7] M7 L7 R7 (fun v8 M8 L8 R8 => ((¬ v8 = 0 → ((¬ v6 = (4 : Int32) → (wI d 178 [.ref 227, .int v7] M8 L8 R8 (fun v9 M9 L9 R9 => ((¬ v9 = 0 → H230_36 d x1 x2 (x3 + (1 : Int32)) M9 L9 R9 K) ∧ (v9 = 0 → (wI d 179 [.ref 227, .int v7] M9 L9 R9 (fun v10 M10 L10 R10 => H230_36 d x1 x2 (x3 + (1 : Int32)) M10 L10 R10 K))))))) ∧ (v6 = (4 : Int32) → (∃ k11, ((24 : Int32) + v7) = nI k11 ∧ k11 < 43 ∧ (∃ k12, ((24 : Int32) + v7) = nI k12 ∧ k12 < 43 ∧ (∀ M12, M12 = fm_u M8 227 k12 ((1 : Int32) - (M8 227 k11)) → H230_36 d x1 x2 (x3 + (1 : Int32)) M12 L8 R8 K)))))) ∧ (v8 = 0 → H230_36 d x1 x2 (x3 + (1 : Int32)) M8 L8 R8 K))))))) ∧ (¬ (4 : Int32) ≤ v6 → (wI d 172 [.ref 219, .ref 227, .int (-1 : Int32)] M6 L6 R6 (fun v13 M13 L13 R13 => H230_36 d x1 x2 (x3 + (1 : Int32)) M13 L13 R13 K))))))))) : H230_36 d x1 x2 x3 M ML R K := by
  unfold H230_36
  refine mj_begin6 [36] 80 rfl ?_
  refine mj_if rfl rfl (fun c => ?_) (fun c => ?_)
  · replace h := h.1 c
    refine mj_auto6 [36] 80 rfl ?_
    refine fn_pI fm_s219 rfl rfl rfl rfl ?_
    replace h := h _ rfl
    refine mj_auto6 [36] 80 rfl ?_
    refine fn_gR fm_s219 rfl rfl rfl ?_
    refine mj_wIs h rfl rfl rfl rfl rfl rfl (fun v2 M2 L2 R2 h => ?_)
    refine mj_auto6 [36] 80 rfl ?_
    refine mj_wVv h (fm_o fm_s219) rfl rfl rfl rfl rfl ⟨rfl, rfl⟩ (fun M3 L3 R3 h => ?_)
    refine mj_auto6 [36] 80 rfl ?_
    refine fn_gR fm_s219 rfl rfl rfl ?_
    refine mj_wIs h rfl rfl rfl rfl rfl rfl (fun v4 M4 L4 R4 h => ?_)
    refine mj_auto6 [36] 80 rfl ?_
    refine mj_wVv h (fm_o fm_s219) rfl rfl rfl rfl rfl ⟨rfl, rfl⟩ (fun M5 L5 R5 h => ?_)
    refine mj_auto6 [36] 80 rfl ?_
    refine fn_gR fm_s219 rfl rfl rfl ?_
    refine mj_auto6 [36] 80 rfl ?_
    refine fn_ldk (k := 42) rfl (by decide) rfl fm_s227 rfl ?_
    refine mj_auto6 [36] 80 rfl ?_
    refine fn_gR fm_s219 rfl rfl rfl ?_
    refine mj_auto6 [36] 80 rfl ?_
    refine fn_ldk (k := 42) rfl (by decide) rfl fm_s220 rfl ?_
    refine mj_auto6 [36] 80 rfl ?_
    exact mj_rt rfl rfl rfl ⟨_, _, _, _, rfl, rfl, h⟩
  · replace h := h.2 c
    refine mj_auto6 [36] 80 rfl ?_
    refine mj_wIv h (fm_o fm_s219) rfl rfl rfl rfl rfl ⟨rfl, rfl⟩ (fun v6 M6 L6 R6 h => ?_)
    refine mj_auto6 [36] 80 rfl ?_
    refine mj_if rfl rfl (fun c => ?_) (fun c => ?_)
    · replace h := h.1 c
      refine mj_auto6 [36] 80 rfl ?_
      refine mj_wIv h (fm_o fm_s219) rfl rfl rfl rfl rfl ⟨rfl, rfl⟩ (fun v7 M7 L7 R7 h => ?_)
      refine mj_auto6 [36] 80 rfl ?_
      refine fn_gR fm_s219 rfl rfl rfl ?_
      refine mj_auto6 [36] 80 rfl ?_
      refine mj_wIs h rfl rfl rfl rfl rfl rfl (fun v8 M8 L8 R8 h => ?_)
      refine mj_if rfl rfl (fun c => ?_) (fun c => ?_)
      · replace h := h.1 c
        refine mj_auto6 [36] 80 rfl ?_
        refine mj_if rfl rfl (fun c => ?_) (fun c => ?_)
        · replace h := h.1 c
          refine mj_auto6 [36] 80 rfl ?_
          refine fn_gR fm_s219 rfl rfl rfl ?_
          refine mj_auto6 [36] 80 rfl ?_
          refine mj_wIs h rfl rfl rfl rfl rfl rfl (fun v9 M9 L9 R9 h => ?_)
          refine mj_if rfl rfl (fun c => ?_) (fun c => ?_)
          · replace h := h.1 c
            refine mj_auto6 [36] 80 rfl ?_
            exact mj_less h (leS (leS (leS (leS (leN (leN le0))))))
          · replace h := h.2 (Classical.not_not.mp c)
            refine mj_auto6 [36] 80 rfl ?_
            refine fn_gR fm_s219 rfl rfl rfl ?_
            refine mj_auto6 [36] 80 rfl ?_
            refine mj_wIs h rfl rfl rfl rfl rfl rfl (fun v10 M10 L10 R10 h => ?_)
            refine mj_auto6 [36] 80 rfl ?_
            exact mj_less h (leS (leS (leS (leS (leN (leN le0))))))
        · replace h := h.2 (Classical.not_not.mp c)
          refine mj_auto6 [36] 80 rfl ?_
          refine fn_gR fm_s219 rfl rfl rfl ?_
          refine mj_auto6 [36] 80 rfl ?_
          refine fn_gR fm_s219 rfl rfl rfl ?_
          refine mj_auto6 [36] 80 rfl ?_
          obtain ⟨k11, c, c2, h⟩ := h
          refine fn_ldk c c2 rfl fm_s227 rfl ?_
          refine mj_auto6 [36] 80 rfl ?_
          obtain ⟨k12, c, c2, h⟩ := h
          refine fn_stk c c2 rfl fm_s227 rfl ?_
          replace h := h _ rfl
          refine mj_auto6 [36] 80 rfl ?_
          exact mj_less h (leS (leS (leS (leS (leN (leN le0))))))
      · replace h := h.2 (Classical.not_not.mp c)
        refine mj_auto6 [36] 80 rfl ?_
        exact mj_less h (leS (leS (leS (leS (leN (leN le0))))))
    · replace h := h.2 c
      refine mj_auto6 [36] 80 rfl ?_
      refine fn_gR fm_s219 rfl rfl rfl ?_
      refine mj_auto6 [36] 80 rfl ?_
      refine mj_wIv h (fm_o fm_s219) rfl rfl rfl rfl rfl ⟨rfl, rfl⟩ (fun v13 M13 L13 R13 h => ?_)
      refine mj_auto6 [36] 80 rfl ?_
      exact mj_less h (leS (leS (leS (leS (leN (leS le0))))))
set_option maxRecDepth 20000 in
theorem w230 {d : Nat} {a1 : Int32} {a2 : Int32} {M : Nat → Nat → Int32} {ML : Nat → Nat → Int64} {R : Nat → Nat → Option Nat} {K : wK} (h : (∀ M1, M1 = fm_u M 219 5 (0 : Int32) → (wI d 132 [.int a2, .int (1 : Int32), .int (60 : Int32)] M1 ML R (fun v2 M2 L2 R2 => ((¬ v2 = 0 → (∀ M3, M3 = fm_u M2 219 43 a1 → (wV d 170 [.ref 220, .ref 227, .int (0 : Int32)] M3 L2 R2 (fun M4 L4 R4 => H230_36 d a1 a2 (0 : Int32) M4 L4 R4 K)))) ∧ (v2 = 0 → K (-1 : Int32) M2 L2 R2)))))) : wI (d + 1) 230 [.ref 219, .int a1, .int a2] M ML R K := by
  refine mj_of _ _ rfl rfl rfl ?_
  refine mj_auto6 [36] 80 rfl ?_
  refine fn_pI fm_s219 rfl rfl rfl rfl ?_
  replace h := h _ rfl
  refine mj_auto6 [36] 80 rfl ?_
  refine mj_wIs h rfl rfl rfl rfl rfl rfl (fun v2 M2 L2 R2 h => ?_)
  refine mj_if rfl rfl (fun c => ?_) (fun c => ?_)
  · replace h := h.1 c
    refine mj_auto6 [36] 80 rfl ?_
    refine fn_pI fm_s219 rfl rfl rfl rfl ?_
    replace h := h _ rfl
    refine mj_auto6 [36] 80 rfl ?_
    refine fn_gR fm_s219 rfl rfl rfl ?_
    refine mj_auto6 [36] 80 rfl ?_
    refine fn_gR fm_s219 rfl rfl rfl ?_
    refine mj_auto6 [36] 80 rfl ?_
    refine mj_wVs h rfl rfl rfl rfl rfl rfl (fun M4 L4 R4 h => ?_)
    refine mj_auto6 [36] 80 rfl ?_
    exact h
  · replace h := h.2 (Classical.not_not.mp c)
    refine mj_auto6 [36] 80 rfl ?_
    exact mj_rt rfl rfl rfl ⟨_, _, _, _, rfl, rfl, h⟩
set_option maxRecDepth 20000 in
theorem w233 {d : Nat} {a1 : Int32} {M : Nat → Nat → Int32} {ML : Nat → Nat → Int64} {R : Nat → Nat → Option Nat} {K : wK} (h : (∀ M1, M1 = fm_u M 219 5 (0 : Int32) → ((a1 = 0 → (wI d 138 [.ref 220] M1 ML R (fun v2 M2 L2 R2 => K v2 M2 L2 R2))) ∧ (a1 = 1 → K (M1 220 40) M1 ML R) ∧ (a1 = 2 → K (M1 220 41) M1 ML R) ∧ (a1 = 3 → K (M1 220 42) M1 ML R) ∧ (a1 = 4 → K (M1 219 8) M1 ML R) ∧ (a1 = 5 → (wI d 229 [.ref 220] M1 ML R (fun v3 M3 L3 R3 => K v3 M3 L3 R3))) ∧ (a1 = 6 → K (M1 219 36) M1 ML R) ∧ (a1 = 7 → K (M1 219 39) M1 ML R) ∧ (a1 = 8 → K (M1 219 19) M1 ML R) ∧ (a1 = 9 → K (M1 219 4) M1 ML R) ∧ (a1 = 10 → K (M1 219 2) M1 ML R) ∧ (¬ a1 = 0 → ¬ a1 = 1 → ¬ a1 = 2 → ¬ a1 = 3 → ¬ a1 = 4 → ¬ a1 = 5 → ¬ a1 = 6 → ¬ a1 = 7 → ¬ a1 = 8 → ¬ a1 = 9 → ¬ a1 = 10 → K (-1 : Int32) M1 ML R)))) : wI (d + 1) 233 [.ref 219, .int a1] M ML R K := by
  refine mj_of _ _ rfl rfl rfl ?_
  refine mj_auto2 [] 80 rfl ?_
  refine fn_pI fm_s219 rfl rfl rfl rfl ?_
  replace h := h _ rfl
  refine mj_auto2 [] 80 rfl ?_
  by_cases e0 : a1 = 0
  · replace h := h.1 e0
    refine mj_swi 64 rfl rfl (by rw [e0]; decide +kernel) ?_
    refine mj_auto2 [] 80 rfl ?_
    refine fn_gR fm_s219 rfl rfl rfl ?_
    refine mj_wIs h rfl rfl rfl rfl rfl rfl (fun v2 M2 L2 R2 h => ?_)
    exact mj_rt rfl rfl rfl ⟨_, _, _, _, rfl, rfl, h⟩
  by_cases e1 : a1 = 1
  · replace h := h.2.1 e1
    refine mj_swi 72 rfl rfl (by rw [e1]; decide +kernel) ?_
    refine mj_auto2 [] 80 rfl ?_
    refine fn_gR fm_s219 rfl rfl rfl ?_
    refine mj_auto2 [] 80 rfl ?_
    refine fn_ldk (k := 40) rfl (by decide) rfl fm_s220 rfl ?_
    exact mj_rt rfl rfl rfl ⟨_, _, _, _, rfl, rfl, h⟩
  by_cases e2 : a1 = 2
  · replace h := h.2.2.1 e2
    refine mj_swi 80 rfl rfl (by rw [e2]; decide +kernel) ?_
    refine mj_auto2 [] 80 rfl ?_
    refine fn_gR fm_s219 rfl rfl rfl ?_
    refine mj_auto2 [] 80 rfl ?_
    refine fn_ldk (k := 41) rfl (by decide) rfl fm_s220 rfl ?_
    exact mj_rt rfl rfl rfl ⟨_, _, _, _, rfl, rfl, h⟩
  by_cases e3 : a1 = 3
  · replace h := h.2.2.2.1 e3
    refine mj_swi 88 rfl rfl (by rw [e3]; decide +kernel) ?_
    refine mj_auto2 [] 80 rfl ?_
    refine fn_gR fm_s219 rfl rfl rfl ?_
    refine mj_auto2 [] 80 rfl ?_
    refine fn_ldk (k := 42) rfl (by decide) rfl fm_s220 rfl ?_
    exact mj_rt rfl rfl rfl ⟨_, _, _, _, rfl, rfl, h⟩
  by_cases e4 : a1 = 4
  · replace h := h.2.2.2.2.1 e4
    refine mj_swi 96 rfl rfl (by rw [e4]; decide +kernel) ?_
    refine mj_auto2 [] 80 rfl ?_
    refine fn_gI fm_s219 rfl rfl rfl ?_
    exact mj_rt rfl rfl rfl ⟨_, _, _, _, rfl, rfl, h⟩
  by_cases e5 : a1 = 5
  · replace h := h.2.2.2.2.2.1 e5
    refine mj_swi 101 rfl rfl (by rw [e5]; decide +kernel) ?_
    refine mj_auto2 [] 80 rfl ?_
    refine fn_gR fm_s219 rfl rfl rfl ?_
    refine mj_wIs h rfl rfl rfl rfl rfl rfl (fun v3 M3 L3 R3 h => ?_)
    exact mj_rt rfl rfl rfl ⟨_, _, _, _, rfl, rfl, h⟩
  by_cases e6 : a1 = 6
  · replace h := h.2.2.2.2.2.2.1 e6
    refine mj_swi 109 rfl rfl (by rw [e6]; decide +kernel) ?_
    refine mj_auto2 [] 80 rfl ?_
    refine fn_gI fm_s219 rfl rfl rfl ?_
    exact mj_rt rfl rfl rfl ⟨_, _, _, _, rfl, rfl, h⟩
  by_cases e7 : a1 = 7
  · replace h := h.2.2.2.2.2.2.2.1 e7
    refine mj_swi 114 rfl rfl (by rw [e7]; decide +kernel) ?_
    refine mj_auto2 [] 80 rfl ?_
    refine fn_gI fm_s219 rfl rfl rfl ?_
    exact mj_rt rfl rfl rfl ⟨_, _, _, _, rfl, rfl, h⟩
  by_cases e8 : a1 = 8
  · replace h := h.2.2.2.2.2.2.2.2.1 e8
    refine mj_swi 119 rfl rfl (by rw [e8]; decide +kernel) ?_
    refine mj_auto2 [] 80 rfl ?_
    refine fn_gI fm_s219 rfl rfl rfl ?_
    exact mj_rt rfl rfl rfl ⟨_, _, _, _, rfl, rfl, h⟩
  by_cases e9 : a1 = 9
  · replace h := h.2.2.2.2.2.2.2.2.2.1 e9
    refine mj_swi 124 rfl rfl (by rw [e9]; decide +kernel) ?_
    refine mj_auto2 [] 80 rfl ?_
    refine fn_gI fm_s219 rfl rfl rfl ?_
    exact mj_rt rfl rfl rfl ⟨_, _, _, _, rfl, rfl, h⟩
  by_cases e10 : a1 = 10
  · replace h := h.2.2.2.2.2.2.2.2.2.2.1 e10
    refine mj_swi 129 rfl rfl (by rw [e10]; decide +kernel) ?_
    refine mj_auto2 [] 80 rfl ?_
    refine fn_gI fm_s219 rfl rfl rfl ?_
    exact mj_rt rfl rfl rfl ⟨_, _, _, _, rfl, rfl, h⟩
  replace h := h.2.2.2.2.2.2.2.2.2.2.2 e0 e1 e2 e3 e4 e5 e6 e7 e8 e9 e10
  refine mj_swi 134 rfl rfl (by show (6 : Int) + (if (a1).toInt < 0 ∨ 10 < (a1).toInt then 128 else _) = 134; rw [if_pos (sw_out10 e0 e1 e2 e3 e4 e5 e6 e7 e8 e9 e10)]; rfl) ?_
  refine mj_auto2 [] 80 rfl ?_
  exact mj_rt rfl rfl rfl ⟨_, _, _, _, rfl, rfl, h⟩
set_option maxRecDepth 20000 in
theorem w234 {d : Nat} {a1 : Int32} {M : Nat → Nat → Int32} {ML : Nat → Nat → Int64} {R : Nat → Nat → Option Nat} {K : wKl} (h : (∀ M1, M1 = fm_u M 219 5 (0 : Int32) → (wI d 132 [.int a1, .int (0 : Int32), .int ((M1 219 4) - (1 : Int32))] M1 ML R (fun v2 M2 L2 R2 => ((v2 = 0 → (wI d 134 [.ref 219] M2 L2 R2 (fun v3 M3 L3 R3 => K ((v3).toInt64) M3 L3 R3))) ∧ (¬ v2 = 0 → (∃ k4, a1 = nI k4 ∧ k4 < 16 ∧ K (L2 222 k4) M2 L2 R2))))))) : wL (d + 1) 234 [.ref 219, .int a1] M ML R K := by
  refine mj_of _ _ rfl rfl rfl ?_
  refine mj_auto2 [] 80 rfl ?_
  refine fn_pI fm_s219 rfl rfl rfl rfl ?_
  replace h := h _ rfl
  refine mj_auto2 [] 80 rfl ?_
  refine fn_gI fm_s219 rfl rfl rfl ?_
  refine mj_auto2 [] 80 rfl ?_
  refine mj_wIs h rfl rfl rfl rfl rfl rfl (fun v2 M2 L2 R2 h => ?_)
  refine mj_if rfl rfl (fun c => ?_) (fun c => ?_)
  · replace h := h.1 c
    refine mj_auto2 [] 80 rfl ?_
    refine mj_wIv h (fm_o fm_s219) rfl rfl rfl rfl rfl ⟨rfl, rfl⟩ (fun v3 M3 L3 R3 h => ?_)
    refine mj_auto2 [] 80 rfl ?_
    exact mj_rtl rfl rfl ⟨_, _, _, _, rfl, rfl, h⟩
  · replace h := h.2 c
    refine mj_auto2 [] 80 rfl ?_
    refine fn_gR fm_s219 rfl rfl rfl ?_
    refine mj_auto2 [] 80 rfl ?_
    obtain ⟨k4, c, c2, h⟩ := h
    refine fn_ldkl c c2 rfl fm_s222 rfl ?_
    refine mj_auto2 [] 80 rfl ?_
    exact mj_rtl rfl rfl ⟨_, _, _, _, rfl, rfl, h⟩
