def H200_7 (d : Nat) (x1 : Int32) (x2 : Int32) (M : Nat → Nat → Int32) (ML : Nat → Nat → Int64) (R : Nat → Nat → Option Nat) (K : wKv) : Prop := mj_Rn d none kX11_layDue (wQv K) (fm_mk (M, ML, R)) 7 [some (.ref 219), some (.int x1), some (.int x2), none] []
def H200_25 (d : Nat) (x1 : Int32) (x2 : Int32) (x3 : Int32) (M : Nat → Nat → Int32) (ML : Nat → Nat → Int64) (R : Nat → Nat → Option Nat) (K : wKv) : Prop := mj_Rn d none kX11_layDue (wQv K) (fm_mk (M, ML, R)) 25 [some (.ref 219), some (.int x1), some (.int x2), some (.int x3)] []
set_option maxRecDepth 20000 in
theorem h200_7 {d : Nat} {x1 : Int32} {x2 : Int32} {M : Nat → Nat → Int32} {ML : Nat → Nat → Int64} {R : Nat → Nat → Option Nat} {K : wKv} (h : (((8 : Int32) ≤ x2 → K M ML R) ∧ (¬ (8 : Int32) ≤ x2 → (∃ k1, ((32 : Int32) + x2) = nI k1 ∧ k1 < 43 ∧ H200_25 d x1 x2 ((M 220 k1) + (1 : Int32)) M ML R K)))) : H200_7 d x1 x2 M ML R K := by
  unfold H200_7
  refine mj_begin4 [7, 25] 80 rfl ?_
  refine mj_if rfl rfl (fun c => ?_) (fun c => ?_)
  · replace h := h.1 c
    exact mj_rtv rfl rfl ⟨_, _, _, rfl, rfl, h⟩
  · replace h := h.2 c
    refine mj_auto4 [7, 25] 80 rfl ?_
    refine fn_gR fm_s219 rfl rfl rfl ?_
    refine mj_auto4 [7, 25] 80 rfl ?_
    obtain ⟨k1, c, c2, h⟩ := h
    refine fn_ldk c c2 rfl fm_s220 rfl ?_
    refine mj_auto4 [7, 25] 80 rfl ?_
    exact h
set_option maxRecDepth 20000 in
theorem h200_25 {d : Nat} {x1 : Int32} {x2 : Int32} {x3 : Int32} {M : Nat → Nat → Int32} {ML : Nat → Nat → Int64} {R : Nat → Nat → Option Nat} {K : wKv} (h : (wI d 136 [.ref 220, .int x2] M ML R (fun v1 M1 L1 R1 => ((v1 = 0 → H200_7 d x1 (x2 + (1 : Int32)) M1 L1 R1 K) ∧ (¬ v1 = 0 → (wI d 143 [.ref 220, .int x2, .int x3] M1 L1 R1 (fun v2 M2 L2 R2 => ((((M2 220 41) + x1) < v2 → H200_7 d x1 (x2 + (1 : Int32)) M2 L2 R2 K) ∧ (¬ ((M2 220 41) + x1) < v2 → (wI d 143 [.ref 220, .int x2, .int x3] M2 L2 R2 (fun v3 M3 L3 R3 => (((M3 220 41) < v3 → (∃ k4, ((3 : Int32) * (M3 219 28)) = nI k4 ∧ k4 < 192 ∧ (∀ M4, M4 = fm_u M3 230 k4 x2 → (∃ k5, ((24 : Int32) + x2) = nI k5 ∧ k5 < 43 ∧ ((¬ (M4 220 k5) = (1 : Int32) → (wI d 142 [.ref 220, .int x2, .int x3] M4 L3 R3 (fun v6 M6 L6 R6 => (wI d 239 [.int (0 : Int32), .int (v6 - (M6 220 41))] M6 L6 R6 (fun v7 M7 L7 R7 => (∃ k8, (((3 : Int32) * (M4 219 28)) + (1 : Int32)) = nI k8 ∧ k8 < 192 ∧ (∀ M8, M8 = fm_u M7 230 k8 v7 → (wI d 143 [.ref 220, .int x2, .int x3] M8 L7 R7 (fun v9 M9 L9 R9 => (∃ k10, (((3 : Int32) * (M8 219 28)) + (2 : Int32)) = nI k10 ∧ k10 < 192 ∧ (∀ M10, M10 = fm_u M9 230 k10 (v9 - (M9 220 41)) → (∀ M11, M11 = fm_u M10 219 28 ((M10 219 28) + (1 : Int32)) → H200_25 d x1 x2 (x3 + (1 : Int32)) M11 L9 R9 K)))))))))))) ∧ ((M4 220 k5) = (1 : Int32) → (∃ k12, (((3 : Int32) * (M4 219 28)) + (1 : Int32)) = nI k12 ∧ k12 < 192 ∧ (∀ M12, M12 = fm_u M4 230 k12 (0 : Int32) → (wI d 143 [.ref 220, .int x2, .int x3] M12 L3 R3 (fun v13 M13 L13 R13 => (∃ k14, (((3 : Int32) * (M12 219 28)) + (2 : Int32)) = nI k14 ∧ k14 < 192 ∧ (∀ M14, M14 = fm_u M13 230 k14 (v13 - (M13 220 41)) → (∀ M15, M15 = fm_u M14 219 28 ((M14 219 28) + (1 : Int32)) → H200_25 d x1 x2 (x3 + (1 : Int32)) M15 L13 R13 K))))))))))))) ∧ (¬ (M3 220 41) < v3 → H200_25 d x1 x2 (x3 + (1 : Int32)) M3 L3 R3 K))))))))))))) : H200_25 d x1 x2 x3 M ML R K := by
  unfold H200_25
  refine mj_begin4 [7, 25] 80 rfl ?_
  refine fn_gR fm_s219 rfl rfl rfl ?_
  refine mj_auto4 [7, 25] 80 rfl ?_
  refine mj_wIs h rfl rfl rfl rfl rfl rfl (fun v1 M1 L1 R1 h => ?_)
  refine mj_if rfl rfl (fun c => ?_) (fun c => ?_)
  · replace h := h.1 c
    refine mj_auto4 [7, 25] 80 rfl ?_
    exact mj_less h (leS (leS (leS (leN le0))))
  · replace h := h.2 c
    refine mj_auto4 [7, 25] 80 rfl ?_
    refine fn_gR fm_s219 rfl rfl rfl ?_
    refine mj_auto4 [7, 25] 80 rfl ?_
    refine mj_wIs h rfl rfl rfl rfl rfl rfl (fun v2 M2 L2 R2 h => ?_)
    refine mj_auto4 [7, 25] 80 rfl ?_
    refine fn_gR fm_s219 rfl rfl rfl ?_
    refine mj_auto4 [7, 25] 80 rfl ?_
    refine fn_ldk (k := 41) rfl (by decide) rfl fm_s220 rfl ?_
    refine mj_auto4 [7, 25] 80 rfl ?_
    refine mj_if rfl rfl (fun c => ?_) (fun c => ?_)
    · replace h := h.1 c
      refine mj_auto4 [7, 25] 80 rfl ?_
      exact mj_less h (leS (leS (leS (leN le0))))
    · replace h := h.2 c
      refine mj_auto4 [7, 25] 80 rfl ?_
      refine fn_gR fm_s219 rfl rfl rfl ?_
      refine mj_auto4 [7, 25] 80 rfl ?_
      refine mj_wIs h rfl rfl rfl rfl rfl rfl (fun v3 M3 L3 R3 h => ?_)
      refine mj_auto4 [7, 25] 80 rfl ?_
      refine fn_gR fm_s219 rfl rfl rfl ?_
      refine mj_auto4 [7, 25] 80 rfl ?_
      refine fn_ldk (k := 41) rfl (by decide) rfl fm_s220 rfl ?_
      refine mj_if rfl rfl (fun c => ?_) (fun c => ?_)
      · replace h := h.1 c
        refine mj_auto4 [7, 25] 80 rfl ?_
        refine fn_gR fm_s219 rfl rfl rfl ?_
        refine mj_auto4 [7, 25] 80 rfl ?_
        refine fn_gI fm_s219 rfl rfl rfl ?_
        refine mj_auto4 [7, 25] 80 rfl ?_
        obtain ⟨k4, c, c2, h⟩ := h
        refine fn_stk c c2 rfl fm_s230 rfl ?_
        replace h := h _ rfl
        refine mj_auto4 [7, 25] 80 rfl ?_
        refine fn_gR fm_s219 rfl rfl rfl ?_
        refine mj_auto4 [7, 25] 80 rfl ?_
        refine fn_gI fm_s219 rfl rfl rfl ?_
        refine mj_auto4 [7, 25] 80 rfl ?_
        refine fn_gR fm_s219 rfl rfl rfl ?_
        refine mj_auto4 [7, 25] 80 rfl ?_
        obtain ⟨k5, c, c2, h⟩ := h
        refine fn_ldk c c2 rfl fm_s220 rfl ?_
        refine mj_auto4 [7, 25] 80 rfl ?_
        refine mj_if rfl rfl (fun c => ?_) (fun c => ?_)
        · replace h := h.1 c
          refine mj_auto4 [7, 25] 80 rfl ?_
          refine fn_gR fm_s219 rfl rfl rfl ?_
          refine mj_auto4 [7, 25] 80 rfl ?_
          refine mj_wIs h rfl rfl rfl rfl rfl rfl (fun v6 M6 L6 R6 h => ?_)
          refine mj_auto4 [7, 25] 80 rfl ?_
          refine fn_gR fm_s219 rfl rfl rfl ?_
          refine mj_auto4 [7, 25] 80 rfl ?_
          refine fn_ldk (k := 41) rfl (by decide) rfl fm_s220 rfl ?_
          refine mj_auto4 [7, 25] 80 rfl ?_
          refine mj_wIs h rfl rfl rfl rfl rfl rfl (fun v7 M7 L7 R7 h => ?_)
          obtain ⟨k8, c, c2, h⟩ := h
          refine fn_stk c c2 rfl fm_s230 rfl ?_
          replace h := h _ rfl
          refine mj_auto4 [7, 25] 80 rfl ?_
          refine fn_gR fm_s219 rfl rfl rfl ?_
          refine mj_auto4 [7, 25] 80 rfl ?_
          refine fn_gI fm_s219 rfl rfl rfl ?_
          refine mj_auto4 [7, 25] 80 rfl ?_
          refine fn_gR fm_s219 rfl rfl rfl ?_
          refine mj_auto4 [7, 25] 80 rfl ?_
          refine mj_wIs h rfl rfl rfl rfl rfl rfl (fun v9 M9 L9 R9 h => ?_)
          refine mj_auto4 [7, 25] 80 rfl ?_
          refine fn_gR fm_s219 rfl rfl rfl ?_
          refine mj_auto4 [7, 25] 80 rfl ?_
          refine fn_ldk (k := 41) rfl (by decide) rfl fm_s220 rfl ?_
          refine mj_auto4 [7, 25] 80 rfl ?_
          obtain ⟨k10, c, c2, h⟩ := h
          refine fn_stk c c2 rfl fm_s230 rfl ?_
          replace h := h _ rfl
          refine mj_auto4 [7, 25] 80 rfl ?_
          refine fn_gI fm_s219 rfl rfl rfl ?_
          refine mj_auto4 [7, 25] 80 rfl ?_
          refine fn_pI fm_s219 rfl rfl rfl rfl ?_
          replace h := h _ rfl
          refine mj_auto4 [7, 25] 80 rfl ?_
          exact h
        · replace h := h.2 (Classical.not_not.mp c)
          refine mj_auto4 [7, 25] 80 rfl ?_
          obtain ⟨k12, c, c2, h⟩ := h
          refine fn_stk c c2 rfl fm_s230 rfl ?_
          replace h := h _ rfl
          refine mj_auto4 [7, 25] 80 rfl ?_
          refine fn_gR fm_s219 rfl rfl rfl ?_
          refine mj_auto4 [7, 25] 80 rfl ?_
          refine fn_gI fm_s219 rfl rfl rfl ?_
          refine mj_auto4 [7, 25] 80 rfl ?_
          refine fn_gR fm_s219 rfl rfl rfl ?_
          refine mj_auto4 [7, 25] 80 rfl ?_
          refine mj_wIs h rfl rfl rfl rfl rfl rfl (fun v13 M13 L13 R13 h => ?_)
          refine mj_auto4 [7, 25] 80 rfl ?_
          refine fn_gR fm_s219 rfl rfl rfl ?_
          refine mj_auto4 [7, 25] 80 rfl ?_
          refine fn_ldk (k := 41) rfl (by decide) rfl fm_s220 rfl ?_
          refine mj_auto4 [7, 25] 80 rfl ?_
          obtain ⟨k14, c, c2, h⟩ := h
          refine fn_stk c c2 rfl fm_s230 rfl ?_
          replace h := h _ rfl
          refine mj_auto4 [7, 25] 80 rfl ?_
          refine fn_gI fm_s219 rfl rfl rfl ?_
          refine mj_auto4 [7, 25] 80 rfl ?_
          refine fn_pI fm_s219 rfl rfl rfl rfl ?_
          replace h := h _ rfl
          refine mj_auto4 [7, 25] 80 rfl ?_
          exact h
      · replace h := h.2 c
        refine mj_auto4 [7, 25] 80 rfl ?_
        exact h
set_option maxRecDepth 20000 in
theorem w200 {d : Nat} {a1 : Int32} {M : Nat → Nat → Int32} {ML : Nat → Nat → Int64} {R : Nat → Nat → Option Nat} {K : wKv} (h : (∀ M1, M1 = fm_u M 219 28 (0 : Int32) → H200_7 d a1 (0 : Int32) M1 ML R K)) : wV (d + 1) 200 [.ref 219, .int a1] M ML R K := by
  refine mj_of _ _ rfl rfl rfl ?_
  refine mj_auto4 [7, 25] 80 rfl ?_
  refine fn_pI fm_s219 rfl rfl rfl rfl ?_
  replace h := h _ rfl
  refine mj_auto4 [7, 25] 80 rfl ?_
  exact h
def H201_20 (d : Nat) (x1 : Int32) (x2 : Int32) (x3 : Int32) (M : Nat → Nat → Int32) (ML : Nat → Nat → Int64) (R : Nat → Nat → Option Nat) (K : wK) : Prop := mj_Rn d (some .boolean) kX11_finds (wQ K) (fm_mk (M, ML, R)) 20 [some (.ref 219), some (.int x1), some (.int x2), some (.int x3), none] []
set_option maxRecDepth 20000 in
theorem h201_20 {d : Nat} {x1 : Int32} {x2 : Int32} {x3 : Int32} {M : Nat → Nat → Int32} {ML : Nat → Nat → Int64} {R : Nat → Nat → Option Nat} {K : wK} (h : (∃ k1, (((3 : Int32) * x1) + (2 : Int32)) = nI k1 ∧ k1 < 192 ∧ (((M 230 k1) ≤ x3 → K (0 : Int32) M ML R) ∧ (¬ (M 230 k1) ≤ x3 → (∃ k2, (((8 : Int32) * x2) + x3) = nI k2 ∧ k2 < 64 ∧ (((M 233 k2) = 0 → (∃ k3, (((8 : Int32) * x2) + x3) = nI k3 ∧ k3 < 64 ∧ (∀ M3, M3 = fm_u M 233 k3 (1 : Int32) → (∃ k4, (((8 : Int32) * x2) + x3) = nI k4 ∧ k4 < 64 ∧ ((¬ (M3 231 k4) = x1 → (∃ k5, (((8 : Int32) * x2) + x3) = nI k5 ∧ k5 < 64 ∧ (((M3 231 k5) = (-1 : Int32) → (wI d 202 [.ref 219, .int x3] M3 ML R (fun v6 M6 L6 R6 => ((v6 = 0 → H201_20 d x1 x2 (x3 + (1 : Int32)) M6 L6 R6 K) ∧ (¬ v6 = 0 → (∃ k7, (((8 : Int32) * x2) + x3) = nI k7 ∧ k7 < 64 ∧ (∀ M7, M7 = fm_u M6 231 k7 x1 → K (1 : Int32) M7 L6 R6))))))) ∧ (¬ (M3 231 k5) = (-1 : Int32) → (∃ k8, (((8 : Int32) * x2) + x3) = nI k8 ∧ k8 < 64 ∧ (wI d 201 [.ref 219, .int (M3 231 k8)] M3 ML R (fun v9 M9 L9 R9 => ((v9 = 0 → H201_20 d x1 x2 (x3 + (1 : Int32)) M9 L9 R9 K) ∧ (¬ v9 = 0 → (∃ k10, (((8 : Int32) * x2) + x3) = nI k10 ∧ k10 < 64 ∧ (∀ M10, M10 = fm_u M9 231 k10 x1 → K (1 : Int32) M10 L9 R9))))))))))) ∧ ((M3 231 k4) = x1 → H201_20 d x1 x2 (x3 + (1 : Int32)) M3 ML R K)))))) ∧ (¬ (M 233 k2) = 0 → H201_20 d x1 x2 (x3 + (1 : Int32)) M ML R K))))))) : H201_20 d x1 x2 x3 M ML R K := by
  unfold H201_20
  refine mj_begin5 [20] 80 rfl ?_
  refine fn_gR fm_s219 rfl rfl rfl ?_
  refine mj_auto5 [20] 80 rfl ?_
  obtain ⟨k1, c, c2, h⟩ := h
  refine fn_ldk c c2 rfl fm_s230 rfl ?_
  refine mj_if rfl rfl (fun c => ?_) (fun c => ?_)
  · replace h := h.1 c
    refine mj_auto5 [20] 80 rfl ?_
    exact mj_rt rfl rfl rfl ⟨_, _, _, _, rfl, rfl, h⟩
  · replace h := h.2 c
    refine mj_auto5 [20] 80 rfl ?_
    refine fn_gR fm_s219 rfl rfl rfl ?_
    refine mj_auto5 [20] 80 rfl ?_
    obtain ⟨k2, c, c2, h⟩ := h
    refine fn_ldkz c c2 rfl fm_s233 rfl ?_
    refine mj_if rfl rfl (fun c => ?_) (fun c => ?_)
    · replace h := h.1 c
      refine mj_auto5 [20] 80 rfl ?_
      refine fn_gR fm_s219 rfl rfl rfl ?_
      refine mj_auto5 [20] 80 rfl ?_
      obtain ⟨k3, c, c2, h⟩ := h
      refine fn_stkz c c2 rfl fm_s233 rfl ?_
      replace h := h _ rfl
      refine mj_auto5 [20] 80 rfl ?_
      refine fn_gR fm_s219 rfl rfl rfl ?_
      refine mj_auto5 [20] 80 rfl ?_
      obtain ⟨k4, c, c2, h⟩ := h
      refine fn_ldk c c2 rfl fm_s231 rfl ?_
      refine mj_auto5 [20] 80 rfl ?_
      refine mj_if rfl rfl (fun c => ?_) (fun c => ?_)
      · replace h := h.1 c
        refine mj_auto5 [20] 80 rfl ?_
        refine fn_gR fm_s219 rfl rfl rfl ?_
        refine mj_auto5 [20] 80 rfl ?_
        obtain ⟨k5, c, c2, h⟩ := h
        refine fn_ldk c c2 rfl fm_s231 rfl ?_
        refine mj_auto5 [20] 80 rfl ?_
        refine mj_if rfl rfl (fun c => ?_) (fun c => ?_)
        · replace h := h.1 c
          refine mj_auto5 [20] 80 rfl ?_
          refine mj_wIv h (fm_o fm_s219) rfl rfl rfl rfl rfl ⟨rfl, rfl⟩ (fun v6 M6 L6 R6 h => ?_)
          refine mj_if rfl rfl (fun c => ?_) (fun c => ?_)
          · replace h := h.1 c
            refine mj_auto5 [20] 80 rfl ?_
            exact mj_less h (leS (leS (leS (leS (leN le0)))))
          · replace h := h.2 c
            refine mj_auto5 [20] 80 rfl ?_
            refine fn_gR fm_s219 rfl rfl rfl ?_
            refine mj_auto5 [20] 80 rfl ?_
            obtain ⟨k7, c, c2, h⟩ := h
            refine fn_stk c c2 rfl fm_s231 rfl ?_
            replace h := h _ rfl
            refine mj_auto5 [20] 80 rfl ?_
            exact mj_rt rfl rfl rfl ⟨_, _, _, _, rfl, rfl, h⟩
        · replace h := h.2 c
          refine mj_auto5 [20] 80 rfl ?_
          refine fn_gR fm_s219 rfl rfl rfl ?_
          refine mj_auto5 [20] 80 rfl ?_
          obtain ⟨k8, c, c2, h⟩ := h
          refine fn_ldk c c2 rfl fm_s231 rfl ?_
          refine mj_wIv h (fm_o fm_s219) rfl rfl rfl rfl rfl ⟨rfl, rfl⟩ (fun v9 M9 L9 R9 h => ?_)
          refine mj_if rfl rfl (fun c => ?_) (fun c => ?_)
          · replace h := h.1 c
            refine mj_auto5 [20] 80 rfl ?_
            exact mj_less h (leS (leS (leS (leS (leN le0)))))
          · replace h := h.2 c
            refine mj_auto5 [20] 80 rfl ?_
            refine fn_gR fm_s219 rfl rfl rfl ?_
            refine mj_auto5 [20] 80 rfl ?_
            obtain ⟨k10, c, c2, h⟩ := h
            refine fn_stk c c2 rfl fm_s231 rfl ?_
            replace h := h _ rfl
            refine mj_auto5 [20] 80 rfl ?_
            exact mj_rt rfl rfl rfl ⟨_, _, _, _, rfl, rfl, h⟩
      · replace h := h.2 (Classical.not_not.mp c)
        refine mj_auto5 [20] 80 rfl ?_
        exact mj_less h (leS (leS (leS (leS (leN le0)))))
    · replace h := h.2 c
      refine mj_auto5 [20] 80 rfl ?_
      exact mj_less h (leS (leS (leS (leS (leN le0)))))
set_option maxRecDepth 20000 in
theorem w201 {d : Nat} {a1 : Int32} {M : Nat → Nat → Int32} {ML : Nat → Nat → Int64} {R : Nat → Nat → Option Nat} {K : wK} (h : (∃ k1, ((3 : Int32) * a1) = nI k1 ∧ k1 < 192 ∧ (∃ k2, (((3 : Int32) * a1) + (1 : Int32)) = nI k2 ∧ k2 < 192 ∧ H201_20 d a1 (M 230 k1) (M 230 k2) M ML R K))) : wI (d + 1) 201 [.ref 219, .int a1] M ML R K := by
  refine mj_of _ _ rfl rfl rfl ?_
  refine mj_auto5 [20] 80 rfl ?_
  refine fn_gR fm_s219 rfl rfl rfl ?_
  refine mj_auto5 [20] 80 rfl ?_
  obtain ⟨k1, c, c2, h⟩ := h
  refine fn_ldk c c2 rfl fm_s230 rfl ?_
  refine mj_auto5 [20] 80 rfl ?_
  refine fn_gR fm_s219 rfl rfl rfl ?_
  refine mj_auto5 [20] 80 rfl ?_
  obtain ⟨k2, c, c2, h⟩ := h
  refine fn_ldk c c2 rfl fm_s230 rfl ?_
  refine mj_auto5 [20] 80 rfl ?_
  exact h
def H202_48 (d : Nat) (x1 : Int32) (x2 : Int32) (M : Nat → Nat → Int32) (ML : Nat → Nat → Int64) (R : Nat → Nat → Option Nat) (K : wK) : Prop := mj_Rn d (some .boolean) kX11_hasRoom (wQ K) (fm_mk (M, ML, R)) 48 [some (.ref 219), some (.int x1), some (.int x2), none] []
set_option maxRecDepth 20000 in
theorem h202_48 {d : Nat} {x1 : Int32} {x2 : Int32} {M : Nat → Nat → Int32} {ML : Nat → Nat → Int64} {R : Nat → Nat → Option Nat} {K : wK} (h : (((8 : Int32) ≤ x2 → K (0 : Int32) M ML R) ∧ (¬ (8 : Int32) ≤ x2 → (∃ k1, (((8 : Int32) * x2) + x1) = nI k1 ∧ k1 < 64 ∧ (((M 231 k1) = (-1 : Int32) → H202_48 d x1 (x2 + (1 : Int32)) M ML R K) ∧ (¬ (M 231 k1) = (-1 : Int32) → (∃ k2, (((8 : Int32) * x2) + x1) = nI k2 ∧ k2 < 64 ∧ (((M 233 k2) = 0 → (∃ k3, (((8 : Int32) * x2) + x1) = nI k3 ∧ k3 < 64 ∧ (∀ M3, M3 = fm_u M 233 k3 (1 : Int32) → (wI d 201 [.ref 219, .int (M 231 k1)] M3 ML R (fun v4 M4 L4 R4 => ((¬ v4 = 0 → (∃ k5, (((8 : Int32) * x2) + x1) = nI k5 ∧ k5 < 64 ∧ (∀ M5, M5 = fm_u M4 231 k5 (-1 : Int32) → K (1 : Int32) M5 L4 R4))) ∧ (v4 = 0 → H202_48 d x1 (x2 + (1 : Int32)) M4 L4 R4 K))))))) ∧ (¬ (M 233 k2) = 0 → H202_48 d x1 (x2 + (1 : Int32)) M ML R K))))))))) : H202_48 d x1 x2 M ML R K := by
  unfold H202_48
  refine mj_begin4 [48] 80 rfl ?_
  refine mj_if rfl rfl (fun c => ?_) (fun c => ?_)
  · replace h := h.1 c
    refine mj_auto4 [48] 80 rfl ?_
    exact mj_rt rfl rfl rfl ⟨_, _, _, _, rfl, rfl, h⟩
  · replace h := h.2 c
    refine mj_auto4 [48] 80 rfl ?_
    refine fn_gR fm_s219 rfl rfl rfl ?_
    refine mj_auto4 [48] 80 rfl ?_
    obtain ⟨k1, c, c2, h⟩ := h
    refine fn_ldk c c2 rfl fm_s231 rfl ?_
    refine mj_auto4 [48] 80 rfl ?_
    refine mj_if rfl rfl (fun c => ?_) (fun c => ?_)
    · replace h := h.1 c
      refine mj_auto4 [48] 80 rfl ?_
      exact mj_less h (leS (leS (leS (leN le0))))
    · replace h := h.2 c
      refine mj_auto4 [48] 80 rfl ?_
      refine fn_gR fm_s219 rfl rfl rfl ?_
      refine mj_auto4 [48] 80 rfl ?_
      obtain ⟨k2, c, c2, h⟩ := h
      refine fn_ldkz c c2 rfl fm_s233 rfl ?_
      refine mj_if rfl rfl (fun c => ?_) (fun c => ?_)
      · replace h := h.1 c
        refine mj_auto4 [48] 80 rfl ?_
        refine fn_gR fm_s219 rfl rfl rfl ?_
        refine mj_auto4 [48] 80 rfl ?_
        obtain ⟨k3, c, c2, h⟩ := h
        refine fn_stkz c c2 rfl fm_s233 rfl ?_
        replace h := h _ rfl
        refine mj_auto4 [48] 80 rfl ?_
        refine mj_wIv h (fm_o fm_s219) rfl rfl rfl rfl rfl ⟨rfl, rfl⟩ (fun v4 M4 L4 R4 h => ?_)
        refine mj_if rfl rfl (fun c => ?_) (fun c => ?_)
        · replace h := h.1 c
          refine mj_auto4 [48] 80 rfl ?_
          refine fn_gR fm_s219 rfl rfl rfl ?_
          refine mj_auto4 [48] 80 rfl ?_
          obtain ⟨k5, c, c2, h⟩ := h
          refine fn_stk c c2 rfl fm_s231 rfl ?_
          replace h := h _ rfl
          refine mj_auto4 [48] 80 rfl ?_
          exact mj_rt rfl rfl rfl ⟨_, _, _, _, rfl, rfl, h⟩
        · replace h := h.2 (Classical.not_not.mp c)
          refine mj_auto4 [48] 80 rfl ?_
          exact mj_less h (leS (leS (leS (leN le0))))
      · replace h := h.2 c
        refine mj_auto4 [48] 80 rfl ?_
        exact mj_less h (leS (leS (leS (leN le0))))
set_option maxRecDepth 20000 in
theorem w202 {d : Nat} {a1 : Int32} {M : Nat → Nat → Int32} {ML : Nat → Nat → Int64} {R : Nat → Nat → Option Nat} {K : wK} (h : (∃ k1, a1 = nI k1 ∧ k1 < 8 ∧ (((M 220 40) ≤ (M 232 k1) → (∃ k2, a1 = nI k2 ∧ k2 < 8 ∧ (((M 234 k2) = 0 → (∃ k3, a1 = nI k3 ∧ k3 < 8 ∧ (∀ M3, M3 = fm_u M 234 k3 (1 : Int32) → H202_48 d a1 (0 : Int32) M3 ML R K))) ∧ (¬ (M 234 k2) = 0 → K (0 : Int32) M ML R)))) ∧ (¬ (M 220 40) ≤ (M 232 k1) → (∃ k4, a1 = nI k4 ∧ k4 < 8 ∧ (∃ k5, a1 = nI k5 ∧ k5 < 8 ∧ (∀ M5, M5 = fm_u M 232 k5 ((M 232 k4) + (1 : Int32)) → K (1 : Int32) M5 ML R))))))) : wI (d + 1) 202 [.ref 219, .int a1] M ML R K := by
  refine mj_of _ _ rfl rfl rfl ?_
  refine mj_auto4 [48] 80 rfl ?_
  refine fn_gR fm_s219 rfl rfl rfl ?_
  refine mj_auto4 [48] 80 rfl ?_
  obtain ⟨k1, c, c2, h⟩ := h
  refine fn_ldk c c2 rfl fm_s232 rfl ?_
  refine mj_auto4 [48] 80 rfl ?_
  refine fn_gR fm_s219 rfl rfl rfl ?_
  refine mj_auto4 [48] 80 rfl ?_
  refine fn_ldk (k := 40) rfl (by decide) rfl fm_s220 rfl ?_
  refine mj_if rfl rfl (fun c => ?_) (fun c => ?_)
  · replace h := h.1 c
    refine mj_auto4 [48] 80 rfl ?_
    refine fn_gR fm_s219 rfl rfl rfl ?_
    refine mj_auto4 [48] 80 rfl ?_
    obtain ⟨k2, c, c2, h⟩ := h
    refine fn_ldkz c c2 rfl fm_s234 rfl ?_
    refine mj_if rfl rfl (fun c => ?_) (fun c => ?_)
    · replace h := h.1 c
      refine mj_auto4 [48] 80 rfl ?_
      refine fn_gR fm_s219 rfl rfl rfl ?_
      refine mj_auto4 [48] 80 rfl ?_
      obtain ⟨k3, c, c2, h⟩ := h
      refine fn_stkz c c2 rfl fm_s234 rfl ?_
      replace h := h _ rfl
      refine mj_auto4 [48] 80 rfl ?_
      exact h
    · replace h := h.2 c
      refine mj_auto4 [48] 80 rfl ?_
      exact mj_rt rfl rfl rfl ⟨_, _, _, _, rfl, rfl, h⟩
  · replace h := h.2 c
    refine mj_auto4 [48] 80 rfl ?_
    refine fn_gR fm_s219 rfl rfl rfl ?_
    refine mj_auto4 [48] 80 rfl ?_
    obtain ⟨k4, c, c2, h⟩ := h
    refine fn_ldk c c2 rfl fm_s232 rfl ?_
    refine mj_auto4 [48] 80 rfl ?_
    obtain ⟨k5, c, c2, h⟩ := h
    refine fn_stk c c2 rfl fm_s232 rfl ?_
    replace h := h _ rfl
    refine mj_auto4 [48] 80 rfl ?_
    exact mj_rt rfl rfl rfl ⟨_, _, _, _, rfl, rfl, h⟩
def H203_24 (d : Nat) (x1 : Int32) (x2 : Int32) (M : Nat → Nat → Int32) (ML : Nat → Nat → Int64) (R : Nat → Nat → Option Nat) (K : wK) : Prop := mj_Rn d (some .int) kX11_flow (wQ K) (fm_mk (M, ML, R)) 24 [some (.ref 219), some (.int x1), some (.int x2), none, none] []
def H203_45 (d : Nat) (x1 : Int32) (x2 : Int32) (M : Nat → Nat → Int32) (ML : Nat → Nat → Int64) (R : Nat → Nat → Option Nat) (K : wK) : Prop := mj_Rn d (some .int) kX11_flow (wQ K) (fm_mk (M, ML, R)) 45 [some (.ref 219), some (.int x1), some (.int x2), none, none] []
def H203_68 (d : Nat) (x1 : Int32) (x2 : Int32) (x3 : Int32) (M : Nat → Nat → Int32) (ML : Nat → Nat → Int64) (R : Nat → Nat → Option Nat) (K : wK) : Prop := mj_Rn d (some .int) kX11_flow (wQ K) (fm_mk (M, ML, R)) 68 [some (.ref 219), some (.int x1), some (.int x2), some (.int x3), none] []
def H203_79 (d : Nat) (x1 : Int32) (x2 : Int32) (x3 : Int32) (x4 : Int32) (M : Nat → Nat → Int32) (ML : Nat → Nat → Int64) (R : Nat → Nat → Option Nat) (K : wK) : Prop := mj_Rn d (some .int) kX11_flow (wQ K) (fm_mk (M, ML, R)) 79 [some (.ref 219), some (.int x1), some (.int x2), some (.int x3), some (.int x4)] []
def H203_103 (d : Nat) (x1 : Int32) (x2 : Int32) (x3 : Int32) (x4 : Int32) (M : Nat → Nat → Int32) (ML : Nat → Nat → Int64) (R : Nat → Nat → Option Nat) (K : wK) : Prop := mj_Rn d (some .int) kX11_flow (wQ K) (fm_mk (M, ML, R)) 103 [some (.ref 219), some (.int x1), some (.int x2), some (.int x3), some (.int x4)] []
set_option maxRecDepth 20000 in
theorem h203_24 {d : Nat} {x1 : Int32} {x2 : Int32} {M : Nat → Nat → Int32} {ML : Nat → Nat → Int64} {R : Nat → Nat → Option Nat} {K : wK} (h : (((64 : Int32) ≤ x2 → H203_45 d x1 (0 : Int32) M ML R K) ∧ (¬ (64 : Int32) ≤ x2 → (∃ k1, x2 = nI k1 ∧ k1 < 64 ∧ (∀ M1, M1 = fm_u M 231 k1 (-1 : Int32) → H203_24 d x1 (x2 + (1 : Int32)) M1 ML R K))))) : H203_24 d x1 x2 M ML R K := by
  unfold H203_24
  refine mj_begin5 [24, 45, 68, 79, 103] 80 rfl ?_
  refine mj_if rfl rfl (fun c => ?_) (fun c => ?_)
  · replace h := h.1 c
    refine mj_auto5 [24, 45, 68, 79, 103] 80 rfl ?_
    exact h
  · replace h := h.2 c
    refine mj_auto5 [24, 45, 68, 79, 103] 80 rfl ?_
    refine fn_gR fm_s219 rfl rfl rfl ?_
    refine mj_auto5 [24, 45, 68, 79, 103] 80 rfl ?_
    obtain ⟨k1, c, c2, h⟩ := h
    refine fn_stk c c2 rfl fm_s231 rfl ?_
    replace h := h _ rfl
    refine mj_auto5 [24, 45, 68, 79, 103] 80 rfl ?_
    exact h
set_option maxRecDepth 20000 in
theorem h203_45 {d : Nat} {x1 : Int32} {x2 : Int32} {M : Nat → Nat → Int32} {ML : Nat → Nat → Int64} {R : Nat → Nat → Option Nat} {K : wK} (h : (((8 : Int32) ≤ x2 → H203_68 d x1 (0 : Int32) (0 : Int32) M ML R K) ∧ (¬ (8 : Int32) ≤ x2 → (∃ k1, x2 = nI k1 ∧ k1 < 8 ∧ (∀ M1, M1 = fm_u M 232 k1 (0 : Int32) → H203_45 d x1 (x2 + (1 : Int32)) M1 ML R K))))) : H203_45 d x1 x2 M ML R K := by
  unfold H203_45
  refine mj_begin5 [24, 45, 68, 79, 103] 80 rfl ?_
  refine mj_if rfl rfl (fun c => ?_) (fun c => ?_)
  · replace h := h.1 c
    refine mj_auto5 [24, 45, 68, 79, 103] 80 rfl ?_
    exact h
  · replace h := h.2 c
    refine mj_auto5 [24, 45, 68, 79, 103] 80 rfl ?_
    refine fn_gR fm_s219 rfl rfl rfl ?_
    refine mj_auto5 [24, 45, 68, 79, 103] 80 rfl ?_
    obtain ⟨k1, c, c2, h⟩ := h
    refine fn_stk c c2 rfl fm_s232 rfl ?_
    replace h := h _ rfl
    refine mj_auto5 [24, 45, 68, 79, 103] 80 rfl ?_
    exact h
set_option maxRecDepth 20000 in
theorem h203_68 {d : Nat} {x1 : Int32} {x2 : Int32} {x3 : Int32} {M : Nat → Nat → Int32} {ML : Nat → Nat → Int64} {R : Nat → Nat → Option Nat} {K : wK} (h : (((M 219 28) ≤ x3 → (∀ M1, M1 = fm_u M 219 4 (0 : Int32) → (wV d 135 [.ref 219, .long (((M1 219 28)).toInt64)] M1 ML R (fun M2 L2 R2 => K x2 M2 L2 R2)))) ∧ (¬ (M 219 28) ≤ x3 → H203_79 d x1 x2 x3 (0 : Int32) M ML R K))) : H203_68 d x1 x2 x3 M ML R K := by
  unfold H203_68
  refine mj_begin5 [24, 45, 68, 79, 103] 80 rfl ?_
  refine fn_gI fm_s219 rfl rfl rfl ?_
  refine mj_if rfl rfl (fun c => ?_) (fun c => ?_)
  · replace h := h.1 c
    refine mj_auto5 [24, 45, 68, 79, 103] 80 rfl ?_
    refine fn_pI fm_s219 rfl rfl rfl rfl ?_
    replace h := h _ rfl
    refine mj_auto5 [24, 45, 68, 79, 103] 80 rfl ?_
    refine fn_gI fm_s219 rfl rfl rfl ?_
    refine mj_auto5 [24, 45, 68, 79, 103] 80 rfl ?_
    refine mj_wVv h (fm_o fm_s219) rfl rfl rfl rfl rfl ⟨rfl, rfl⟩ (fun M2 L2 R2 h => ?_)
    refine mj_auto5 [24, 45, 68, 79, 103] 80 rfl ?_
    exact mj_rt rfl rfl rfl ⟨_, _, _, _, rfl, rfl, h⟩
  · replace h := h.2 c
    refine mj_auto5 [24, 45, 68, 79, 103] 80 rfl ?_
    exact h
set_option maxRecDepth 20000 in
theorem h203_79 {d : Nat} {x1 : Int32} {x2 : Int32} {x3 : Int32} {x4 : Int32} {M : Nat → Nat → Int32} {ML : Nat → Nat → Int64} {R : Nat → Nat → Option Nat} {K : wK} (h : (((64 : Int32) ≤ x4 → H203_103 d x1 x2 x3 (0 : Int32) M ML R K) ∧ (¬ (64 : Int32) ≤ x4 → (∃ k1, x4 = nI k1 ∧ k1 < 64 ∧ (∀ M1, M1 = fm_u M 233 k1 (0 : Int32) → H203_79 d x1 x2 x3 (x4 + (1 : Int32)) M1 ML R K))))) : H203_79 d x1 x2 x3 x4 M ML R K := by
  unfold H203_79
  refine mj_begin5 [24, 45, 68, 79, 103] 80 rfl ?_
  refine mj_if rfl rfl (fun c => ?_) (fun c => ?_)
  · replace h := h.1 c
    refine mj_auto5 [24, 45, 68, 79, 103] 80 rfl ?_
    exact h
  · replace h := h.2 c
    refine mj_auto5 [24, 45, 68, 79, 103] 80 rfl ?_
    refine fn_gR fm_s219 rfl rfl rfl ?_
    refine mj_auto5 [24, 45, 68, 79, 103] 80 rfl ?_
    obtain ⟨k1, c, c2, h⟩ := h
    refine fn_stkz c c2 rfl fm_s233 rfl ?_
    replace h := h _ rfl
    refine mj_auto5 [24, 45, 68, 79, 103] 80 rfl ?_
    exact h
set_option maxRecDepth 20000 in
theorem h203_103 {d : Nat} {x1 : Int32} {x2 : Int32} {x3 : Int32} {x4 : Int32} {M : Nat → Nat → Int32} {ML : Nat → Nat → Int64} {R : Nat → Nat → Option Nat} {K : wK} (h : (((8 : Int32) ≤ x4 → (wI d 201 [.ref 219, .int x3] M ML R (fun v1 M1 L1 R1 => ((v1 = 0 → H203_68 d x1 (x2 + (0 : Int32)) (x3 + (1 : Int32)) M1 L1 R1 K) ∧ (¬ v1 = 0 → H203_68 d x1 (x2 + (1 : Int32)) (x3 + (1 : Int32)) M1 L1 R1 K))))) ∧ (¬ (8 : Int32) ≤ x4 → (∃ k2, x4 = nI k2 ∧ k2 < 8 ∧ (∀ M2, M2 = fm_u M 234 k2 (0 : Int32) → H203_103 d x1 x2 x3 (x4 + (1 : Int32)) M2 ML R K))))) : H203_103 d x1 x2 x3 x4 M ML R K := by
  unfold H203_103
  refine mj_begin5 [24, 45, 68, 79, 103] 80 rfl ?_
  refine mj_if rfl rfl (fun c => ?_) (fun c => ?_)
  · replace h := h.1 c
    refine mj_auto5 [24, 45, 68, 79, 103] 80 rfl ?_
    refine mj_wIv h (fm_o fm_s219) rfl rfl rfl rfl rfl ⟨rfl, rfl⟩ (fun v1 M1 L1 R1 h => ?_)
    refine mj_if rfl rfl (fun c => ?_) (fun c => ?_)
    · replace h := h.1 c
      refine mj_auto5 [24, 45, 68, 79, 103] 80 rfl ?_
      exact mj_less h (leS (leS (leS (leS (leN le0)))))
    · replace h := h.2 c
      refine mj_auto5 [24, 45, 68, 79, 103] 80 rfl ?_
      exact mj_less h (leS (leS (leS (leS (leN le0)))))
  · replace h := h.2 c
    refine mj_auto5 [24, 45, 68, 79, 103] 80 rfl ?_
    refine fn_gR fm_s219 rfl rfl rfl ?_
    refine mj_auto5 [24, 45, 68, 79, 103] 80 rfl ?_
    obtain ⟨k2, c, c2, h⟩ := h
    refine fn_stkz c c2 rfl fm_s234 rfl ?_
    replace h := h _ rfl
    refine mj_auto5 [24, 45, 68, 79, 103] 80 rfl ?_
    exact h
set_option maxRecDepth 20000 in
theorem w203 {d : Nat} {a1 : Int32} {M : Nat → Nat → Int32} {ML : Nat → Nat → Int64} {R : Nat → Nat → Option Nat} {K : wK} (h : (∀ M1, M1 = fm_u M 219 5 (0 : Int32) → (wI d 132 [.int a1, .int (1 : Int32), .int (8 : Int32)] M1 ML R (fun v2 M2 L2 R2 => ((¬ v2 = 0 → (wV d 200 [.ref 219, .int a1] M2 L2 R2 (fun M3 L3 R3 => H203_24 d a1 (0 : Int32) M3 L3 R3 K))) ∧ (v2 = 0 → K (-1 : Int32) M2 L2 R2)))))) : wI (d + 1) 203 [.ref 219, .int a1] M ML R K := by
  refine mj_of _ _ rfl rfl rfl ?_
  refine mj_auto5 [24, 45, 68, 79, 103] 80 rfl ?_
  refine fn_pI fm_s219 rfl rfl rfl rfl ?_
  replace h := h _ rfl
  refine mj_auto5 [24, 45, 68, 79, 103] 80 rfl ?_
  refine mj_wIs h rfl rfl rfl rfl rfl rfl (fun v2 M2 L2 R2 h => ?_)
  refine mj_if rfl rfl (fun c => ?_) (fun c => ?_)
  · replace h := h.1 c
    refine mj_auto5 [24, 45, 68, 79, 103] 80 rfl ?_
    refine mj_wVv h (fm_o fm_s219) rfl rfl rfl rfl rfl ⟨rfl, rfl⟩ (fun M3 L3 R3 h => ?_)
    refine mj_auto5 [24, 45, 68, 79, 103] 80 rfl ?_
    exact h
  · replace h := h.2 (Classical.not_not.mp c)
    refine mj_auto5 [24, 45, 68, 79, 103] 80 rfl ?_
    exact mj_rt rfl rfl rfl ⟨_, _, _, _, rfl, rfl, h⟩
def H204_17 (d : Nat) (x1 : Int32) (x2 : Int32) (M : Nat → Nat → Int32) (ML : Nat → Nat → Int64) (R : Nat → Nat → Option Nat) (K : wK) : Prop := mj_Rn d (some .int) kX11_waits (wQ K) (fm_mk (M, ML, R)) 17 [some (.ref 219), some (.int x1), some (.int x2), none, none] []
def H204_40 (d : Nat) (x1 : Int32) (x2 : Int32) (x3 : Int32) (x4 : Int32) (M : Nat → Nat → Int32) (ML : Nat → Nat → Int64) (R : Nat → Nat → Option Nat) (K : wK) : Prop := mj_Rn d (some .int) kX11_waits (wQ K) (fm_mk (M, ML, R)) 40 [some (.ref 219), some (.int x1), some (.int x2), some (.int x3), some (.int x4)] []
set_option maxRecDepth 20000 in
theorem h204_17 {d : Nat} {x1 : Int32} {x2 : Int32} {M : Nat → Nat → Int32} {ML : Nat → Nat → Int64} {R : Nat → Nat → Option Nat} {K : wK} (h : (((12 : Int32) < x2 → K (12 : Int32) M ML R) ∧ (¬ (12 : Int32) < x2 → (wV d 170 [.ref 220, .ref 227, .int (0 : Int32)] M ML R (fun M1 L1 R1 => H204_40 d x1 x2 (1 : Int32) (0 : Int32) M1 L1 R1 K))))) : H204_17 d x1 x2 M ML R K := by
  unfold H204_17
  refine mj_begin5 [17, 40] 80 rfl ?_
  refine mj_if rfl rfl (fun c => ?_) (fun c => ?_)
  · replace h := h.1 c
    refine mj_auto5 [17, 40] 80 rfl ?_
    exact mj_rt rfl rfl rfl ⟨_, _, _, _, rfl, rfl, h⟩
  · replace h := h.2 c
    refine mj_auto5 [17, 40] 80 rfl ?_
    refine fn_gR fm_s219 rfl rfl rfl ?_
    refine mj_auto5 [17, 40] 80 rfl ?_
    refine fn_gR fm_s219 rfl rfl rfl ?_
    refine mj_auto5 [17, 40] 80 rfl ?_
    refine mj_wVs h rfl rfl rfl rfl rfl rfl (fun M1 L1 R1 h => ?_)
    refine mj_auto5 [17, 40] 80 rfl ?_
    exact h
set_option maxRecDepth 20000 in
theorem h204_40 {d : Nat} {x1 : Int32} {x2 : Int32} {x3 : Int32} {x4 : Int32} {M : Nat → Nat → Int32} {ML : Nat → Nat → Int64} {R : Nat → Nat → Option Nat} {K : wK} (h : (((60 : Int32) ≤ x4 → ((¬ x3 = 0 → H204_17 d x1 (x2 + (1 : Int32)) M ML R K) ∧ (x3 = 0 → ((¬ x2 = 0 → K (x2 - (1 : Int32)) M ML R) ∧ (x2 = 0 → K (-2 : Int32) M ML R))))) ∧ (¬ (60 : Int32) ≤ x4 → ((x3 = 0 → ((¬ x3 = 0 → H204_17 d x1 (x2 + (1 : Int32)) M ML R K) ∧ (x3 = 0 → ((¬ x2 = 0 → K (x2 - (1 : Int32)) M ML R) ∧ (x2 = 0 → K (-2 : Int32) M ML R))))) ∧ (¬ x3 = 0 → ((x2 ≤ x4 → (wI d 172 [.ref 219, .ref 227, .int (-1 : Int32)] M ML R (fun v1 M1 L1 R1 => ((¬ (M1 219 23) = 0 → H204_40 d x1 x2 (0 : Int32) (x4 + (1 : Int32)) M1 L1 R1 K) ∧ ((M1 219 23) = 0 → H204_40 d x1 x2 (1 : Int32) (x4 + (1 : Int32)) M1 L1 R1 K))))) ∧ (¬ x2 ≤ x4 → (wI d 172 [.ref 219, .ref 227, .int x1] M ML R (fun v2 M2 L2 R2 => ((¬ (M2 219 23) = 0 → H204_40 d x1 x2 (0 : Int32) (x4 + (1 : Int32)) M2 L2 R2 K) ∧ ((M2 219 23) = 0 → H204_40 d x1 x2 (1 : Int32) (x4 + (1 : Int32)) M2 L2 R2 K))))))))))) : H204_40 d x1 x2 x3 x4 M ML R K := by
  unfold H204_40
  refine mj_begin5 [17, 40] 80 rfl ?_
  refine mj_if rfl rfl (fun c => ?_) (fun c => ?_)
  · replace h := h.1 c
    refine mj_auto5 [17, 40] 80 rfl ?_
    refine mj_if rfl rfl (fun c => ?_) (fun c => ?_)
    · replace h := h.1 c
      refine mj_auto5 [17, 40] 80 rfl ?_
      exact mj_less h (leS (leS (leS (leN (leN le0)))))
    · replace h := h.2 (Classical.not_not.mp c)
      refine mj_auto5 [17, 40] 80 rfl ?_
      refine mj_if rfl rfl (fun c => ?_) (fun c => ?_)
      · replace h := h.1 c
        refine mj_auto5 [17, 40] 80 rfl ?_
        exact mj_rt rfl rfl rfl ⟨_, _, _, _, rfl, rfl, h⟩
      · replace h := h.2 (Classical.not_not.mp c)
        refine mj_auto5 [17, 40] 80 rfl ?_
        exact mj_rt rfl rfl rfl ⟨_, _, _, _, rfl, rfl, h⟩
  · replace h := h.2 c
    refine mj_auto5 [17, 40] 80 rfl ?_
    refine mj_if rfl rfl (fun c => ?_) (fun c => ?_)
    · replace h := h.1 c
      refine mj_auto5 [17, 40] 80 rfl ?_
      refine mj_if rfl rfl (fun c => ?_) (fun c => ?_)
      · replace h := h.1 c
        refine mj_auto5 [17, 40] 80 rfl ?_
        exact mj_less h (leS (leS (leS (leN (leN le0)))))
      · replace h := h.2 (Classical.not_not.mp c)
        refine mj_auto5 [17, 40] 80 rfl ?_
        refine mj_if rfl rfl (fun c => ?_) (fun c => ?_)
        · replace h := h.1 c
          refine mj_auto5 [17, 40] 80 rfl ?_
          exact mj_rt rfl rfl rfl ⟨_, _, _, _, rfl, rfl, h⟩
        · replace h := h.2 (Classical.not_not.mp c)
          refine mj_auto5 [17, 40] 80 rfl ?_
          exact mj_rt rfl rfl rfl ⟨_, _, _, _, rfl, rfl, h⟩
    · replace h := h.2 c
      refine mj_auto5 [17, 40] 80 rfl ?_
      refine fn_gR fm_s219 rfl rfl rfl ?_
      refine mj_auto5 [17, 40] 80 rfl ?_
      refine mj_if rfl rfl (fun c => ?_) (fun c => ?_)
      · replace h := h.1 c
        refine mj_auto5 [17, 40] 80 rfl ?_
        refine mj_wIv h (fm_o fm_s219) rfl rfl rfl rfl rfl ⟨rfl, rfl⟩ (fun v1 M1 L1 R1 h => ?_)
        refine mj_auto5 [17, 40] 80 rfl ?_
        refine fn_gI fm_s219 rfl rfl rfl ?_
        refine mj_if rfl rfl (fun c => ?_) (fun c => ?_)
        · replace h := h.1 c
          refine mj_auto5 [17, 40] 80 rfl ?_
          exact h
        · replace h := h.2 (Classical.not_not.mp c)
          refine mj_auto5 [17, 40] 80 rfl ?_
          exact h
      · replace h := h.2 c
        refine mj_auto5 [17, 40] 80 rfl ?_
        refine mj_wIv h (fm_o fm_s219) rfl rfl rfl rfl rfl ⟨rfl, rfl⟩ (fun v2 M2 L2 R2 h => ?_)
        refine mj_auto5 [17, 40] 80 rfl ?_
        refine fn_gI fm_s219 rfl rfl rfl ?_
        refine mj_if rfl rfl (fun c => ?_) (fun c => ?_)
        · replace h := h.1 c
          refine mj_auto5 [17, 40] 80 rfl ?_
          exact h
        · replace h := h.2 (Classical.not_not.mp c)
          refine mj_auto5 [17, 40] 80 rfl ?_
          exact h
set_option maxRecDepth 20000 in
theorem w204 {d : Nat} {a1 : Int32} {M : Nat → Nat → Int32} {ML : Nat → Nat → Int64} {R : Nat → Nat → Option Nat} {K : wK} (h : (∀ M1, M1 = fm_u M 219 5 (0 : Int32) → (wI d 137 [.ref 219, .int a1] M1 ML R (fun v2 M2 L2 R2 => ((¬ v2 = 0 → H204_17 d a1 (0 : Int32) M2 L2 R2 K) ∧ (v2 = 0 → K (-1 : Int32) M2 L2 R2)))))) : wI (d + 1) 204 [.ref 219, .int a1] M ML R K := by
  refine mj_of _ _ rfl rfl rfl ?_
  refine mj_auto5 [17, 40] 80 rfl ?_
  refine fn_pI fm_s219 rfl rfl rfl rfl ?_
  replace h := h _ rfl
  refine mj_auto5 [17, 40] 80 rfl ?_
  refine mj_wIv h (fm_o fm_s219) rfl rfl rfl rfl rfl ⟨rfl, rfl⟩ (fun v2 M2 L2 R2 h => ?_)
  refine mj_if rfl rfl (fun c => ?_) (fun c => ?_)
  · replace h := h.1 c
    refine mj_auto5 [17, 40] 80 rfl ?_
    exact h
  · replace h := h.2 (Classical.not_not.mp c)
    refine mj_auto5 [17, 40] 80 rfl ?_
    exact mj_rt rfl rfl rfl ⟨_, _, _, _, rfl, rfl, h⟩
def H205_56 (d : Nat) (x1 : Int64) (x3 : Int32) (x4 : Int32) (x5 : Int32) (M : Nat → Nat → Int32) (ML : Nat → Nat → Int64) (R : Nat → Nat → Option Nat) (K : wK) : Prop := mj_Rn d (some .int) kX11_room (wQ K) (fm_mk (M, ML, R)) 56 [some (.ref 219), some (.long x1), none, some (.int x3), some (.int x4), some (.int x5), none] []
def H205_66 (d : Nat) (x1 : Int64) (x3 : Int32) (x4 : Int32) (x5 : Int32) (x6 : Int32) (M : Nat → Nat → Int32) (ML : Nat → Nat → Int64) (R : Nat → Nat → Option Nat) (K : wK) : Prop := mj_Rn d (some .int) kX11_room (wQ K) (fm_mk (M, ML, R)) 66 [some (.ref 219), some (.long x1), none, some (.int x3), some (.int x4), some (.int x5), some (.int x6)] []
set_option maxRecDepth 20000 in
theorem h205_56 {d : Nat} {x1 : Int64} {x3 : Int32} {x4 : Int32} {x5 : Int32} {M : Nat → Nat → Int32} {ML : Nat → Nat → Int64} {R : Nat → Nat → Option Nat} {K : wK} (h : (((12 : Int32) < x5 → ((¬ x3 = 0 → (∀ M1, M1 = fm_u M 219 4 (0 : Int32) → (wV d 135 [.ref 219, .long ((x3).toInt64)] M1 ML R (fun M2 L2 R2 => (wV d 135 [.ref 219, .long ((x4).toInt64)] M2 L2 R2 (fun M3 L3 R3 => K (0 : Int32) M3 L3 R3)))))) ∧ (x3 = 0 → K (-2 : Int32) M ML R))) ∧ (¬ (12 : Int32) < x5 → H205_66 d x1 x3 x4 x5 (1 : Int32) M ML R K))) : H205_56 d x1 x3 x4 x5 M ML R K := by
  unfold H205_56
  refine mj_begin7 [56, 66] 80 rfl ?_
  refine mj_if rfl rfl (fun c => ?_) (fun c => ?_)
  · replace h := h.1 c
    refine mj_auto7 [56, 66] 80 rfl ?_
    refine mj_if rfl rfl (fun c => ?_) (fun c => ?_)
    · replace h := h.1 c
      refine mj_auto7 [56, 66] 80 rfl ?_
      refine fn_pI fm_s219 rfl rfl rfl rfl ?_
      replace h := h _ rfl
      refine mj_auto7 [56, 66] 80 rfl ?_
      refine mj_wVv h (fm_o fm_s219) rfl rfl rfl rfl rfl ⟨rfl, rfl⟩ (fun M2 L2 R2 h => ?_)
      refine mj_auto7 [56, 66] 80 rfl ?_
      refine mj_wVv h (fm_o fm_s219) rfl rfl rfl rfl rfl ⟨rfl, rfl⟩ (fun M3 L3 R3 h => ?_)
      refine mj_auto7 [56, 66] 80 rfl ?_
      exact mj_rt rfl rfl rfl ⟨_, _, _, _, rfl, rfl, h⟩
    · replace h := h.2 (Classical.not_not.mp c)
      refine mj_auto7 [56, 66] 80 rfl ?_
      exact mj_rt rfl rfl rfl ⟨_, _, _, _, rfl, rfl, h⟩
  · replace h := h.2 c
    refine mj_auto7 [56, 66] 80 rfl ?_
    exact h
set_option maxRecDepth 20000 in
theorem h205_66 {d : Nat} {x1 : Int64} {x3 : Int32} {x4 : Int32} {x5 : Int32} {x6 : Int32} {M : Nat → Nat → Int32} {ML : Nat → Nat → Int64} {R : Nat → Nat → Option Nat} {K : wK} (h : ((x5 < x6 → H205_56 d x1 x3 x4 (x5 + (1 : Int32)) M ML R K) ∧ (¬ x5 < x6 → ((0 < (lg_cmp (((x6).toInt64) * (ML 219 10)) (x1 * ((x5).toInt64))) → H205_66 d x1 x3 x4 x5 (x6 + (1 : Int32)) M ML R K) ∧ (¬ 0 < (lg_cmp (((x6).toInt64) * (ML 219 10)) (x1 * ((x5).toInt64))) → (((x3 * x5) < (x6 * x4) → H205_66 d x1 x6 x5 x5 (x6 + (1 : Int32)) M ML R K) ∧ (¬ (x3 * x5) < (x6 * x4) → H205_66 d x1 x3 x4 x5 (x6 + (1 : Int32)) M ML R K))))))) : H205_66 d x1 x3 x4 x5 x6 M ML R K := by
  unfold H205_66
  refine mj_begin7 [56, 66] 80 rfl ?_
  refine mj_if rfl rfl (fun c => ?_) (fun c => ?_)
  · replace h := h.1 c
    refine mj_auto7 [56, 66] 80 rfl ?_
    exact mj_less h (leS (leS (leS (leS (leS (leS (leN le0)))))))
  · replace h := h.2 c
    refine mj_auto7 [56, 66] 80 rfl ?_
    refine fn_gL fm_s219 rfl rfl rfl ?_
    refine mj_auto7 [56, 66] 80 rfl ?_
    refine mj_if rfl rfl (fun c => ?_) (fun c => ?_)
    · replace h := h.1 c
      refine mj_auto7 [56, 66] 80 rfl ?_
      exact h
    · replace h := h.2 c
      refine mj_auto7 [56, 66] 80 rfl ?_
      refine mj_if rfl rfl (fun c => ?_) (fun c => ?_)
      · replace h := h.1 c
        refine mj_auto7 [56, 66] 80 rfl ?_
        exact h
      · replace h := h.2 c
        refine mj_auto7 [56, 66] 80 rfl ?_
        exact h
set_option maxRecDepth 20000 in
theorem w205 {d : Nat} {M : Nat → Nat → Int32} {ML : Nat → Nat → Int64} {R : Nat → Nat → Option Nat} {K : wK} (h : (∀ M1, M1 = fm_u M 219 5 (0 : Int32) → (wI d 138 [.ref 220] M1 ML R (fun v2 M2 L2 R2 => ((¬ v2 = (255 : Int32) → (wV d 141 [.ref 219, .ref 220] M2 L2 R2 (fun M3 L3 R3 => H205_56 d (((((M3 220 40)).toInt64) * (L3 219 10)) - (L3 219 9)) (0 : Int32) (1 : Int32) (1 : Int32) M3 L3 R3 K))) ∧ (v2 = (255 : Int32) → K (-2 : Int32) M2 L2 R2)))))) : wI (d + 1) 205 [.ref 219] M ML R K := by
  refine mj_of _ _ rfl rfl rfl ?_
  refine mj_auto7 [56, 66] 80 rfl ?_
  refine fn_pI fm_s219 rfl rfl rfl rfl ?_
  replace h := h _ rfl
  refine mj_auto7 [56, 66] 80 rfl ?_
  refine fn_gR fm_s219 rfl rfl rfl ?_
  refine mj_wIs h rfl rfl rfl rfl rfl rfl (fun v2 M2 L2 R2 h => ?_)
  refine mj_auto7 [56, 66] 80 rfl ?_
  refine mj_if rfl rfl (fun c => ?_) (fun c => ?_)
  · replace h := h.1 c
    refine mj_auto7 [56, 66] 80 rfl ?_
    refine fn_gR fm_s219 rfl rfl rfl ?_
    refine mj_wVv h (fm_o fm_s219) rfl rfl rfl rfl rfl ⟨rfl, rfl⟩ (fun M3 L3 R3 h => ?_)
    refine mj_auto7 [56, 66] 80 rfl ?_
    refine fn_gR fm_s219 rfl rfl rfl ?_
    refine mj_auto7 [56, 66] 80 rfl ?_
    refine fn_ldk (k := 40) rfl (by decide) rfl fm_s220 rfl ?_
    refine mj_auto7 [56, 66] 80 rfl ?_
    refine fn_gL fm_s219 rfl rfl rfl ?_
    refine mj_auto7 [56, 66] 80 rfl ?_
    refine fn_gL fm_s219 rfl rfl rfl ?_
    refine mj_auto7 [56, 66] 80 rfl ?_
    exact h
  · replace h := h.2 (Classical.not_not.mp c)
    refine mj_auto7 [56, 66] 80 rfl ?_
    exact mj_rt rfl rfl rfl ⟨_, _, _, _, rfl, rfl, h⟩
def H206_33 (d : Nat) (x1 : Int32) (x2 : Int32) (M : Nat → Nat → Int32) (ML : Nat → Nat → Int64) (R : Nat → Nat → Option Nat) (K : wK) : Prop := mj_Rn d (some .int) kX11_fewest (wQ K) (fm_mk (M, ML, R)) 33 [some (.ref 219), some (.int x1), some (.int x2), none, none, none, none, none, none, none] []
def H206_60 (d : Nat) (x1 : Int32) (x2 : Int64) (x4 : Int64) (x6 : Int32) (M : Nat → Nat → Int32) (ML : Nat → Nat → Int64) (R : Nat → Nat → Option Nat) (K : wK) : Prop := mj_Rn d (some .int) kX11_fewest (wQ K) (fm_mk (M, ML, R)) 60 [some (.ref 219), some (.int x1), some (.long x2), none, some (.long x4), none, some (.int x6), none, none, none] []
def H206_82 (d : Nat) (x1 : Int32) (x2 : Int64) (x4 : Int64) (x6 : Int32) (x7 : Int32) (x8 : Int32) (M : Nat → Nat → Int32) (ML : Nat → Nat → Int64) (R : Nat → Nat → Option Nat) (K : wK) : Prop := mj_Rn d (some .int) kX11_fewest (wQ K) (fm_mk (M, ML, R)) 82 [some (.ref 219), some (.int x1), some (.long x2), none, some (.long x4), none, some (.int x6), some (.int x7), some (.int x8), none] []
set_option maxRecDepth 20000 in
theorem h206_33 {d : Nat} {x1 : Int32} {x2 : Int32} {M : Nat → Nat → Int32} {ML : Nat → Nat → Int64} {R : Nat → Nat → Option Nat} {K : wK} (h : (((8 : Int32) ≤ x2 → H206_60 d x1 (0 : Int64) (1 : Int64) (0 : Int32) M ML R K) ∧ (¬ (8 : Int32) ≤ x2 → (∃ k1, x2 = nI k1 ∧ k1 < 8 ∧ (∀ M1, M1 = fm_u M 235 k1 (0 : Int32) → H206_33 d x1 (x2 + (1 : Int32)) M1 ML R K))))) : H206_33 d x1 x2 M ML R K := by
  unfold H206_33
  refine mj_begin10 [33, 60, 82] 80 rfl ?_
  refine mj_if rfl rfl (fun c => ?_) (fun c => ?_)
  · replace h := h.1 c
    refine mj_auto10 [33, 60, 82] 80 rfl ?_
    exact h
  · replace h := h.2 c
    refine mj_auto10 [33, 60, 82] 80 rfl ?_
    refine fn_gR fm_s219 rfl rfl rfl ?_
    refine mj_auto10 [33, 60, 82] 80 rfl ?_
    obtain ⟨k1, c, c2, h⟩ := h
    refine fn_stkz c c2 rfl fm_s235 rfl ?_
    replace h := h _ rfl
    refine mj_auto10 [33, 60, 82] 80 rfl ?_
    exact h
set_option maxRecDepth 20000 in
theorem h206_60 {d : Nat} {x1 : Int32} {x2 : Int64} {x4 : Int64} {x6 : Int32} {M : Nat → Nat → Int32} {ML : Nat → Nat → Int64} {R : Nat → Nat → Option Nat} {K : wK} (h : ((x1 ≤ 0 → (∀ M1, M1 = fm_u M 219 4 (0 : Int32) → (wV d 135 [.ref 219, .long ((x6).toInt64)] M1 ML R (fun M2 L2 R2 => K x1 M2 L2 R2)))) ∧ (¬ x1 ≤ 0 → ((0 < (lg_cmp x2 ((((x1 - (1 : Int32))).toInt64) * x4)) → (∀ M3, M3 = fm_u M 219 4 (0 : Int32) → (wV d 135 [.ref 219, .long ((x6).toInt64)] M3 ML R (fun M4 L4 R4 => K x1 M4 L4 R4)))) ∧ (¬ 0 < (lg_cmp x2 ((((x1 - (1 : Int32))).toInt64) * x4)) → H206_82 d x1 x2 x4 x6 (-1 : Int32) (0 : Int32) M ML R K))))) : H206_60 d x1 x2 x4 x6 M ML R K := by
  unfold H206_60
  refine mj_begin10 [33, 60, 82] 80 rfl ?_
  refine mj_if rfl rfl (fun c => ?_) (fun c => ?_)
  · replace h := h.1 c
    refine mj_auto10 [33, 60, 82] 80 rfl ?_
    refine fn_pI fm_s219 rfl rfl rfl rfl ?_
    replace h := h _ rfl
    refine mj_auto10 [33, 60, 82] 80 rfl ?_
    refine mj_wVv h (fm_o fm_s219) rfl rfl rfl rfl rfl ⟨rfl, rfl⟩ (fun M2 L2 R2 h => ?_)
    refine mj_auto10 [33, 60, 82] 80 rfl ?_
    exact mj_rt rfl rfl rfl ⟨_, _, _, _, rfl, rfl, h⟩
  · replace h := h.2 c
    refine mj_auto10 [33, 60, 82] 80 rfl ?_
    refine mj_if rfl rfl (fun c => ?_) (fun c => ?_)
    · replace h := h.1 c
      refine mj_auto10 [33, 60, 82] 80 rfl ?_
      refine fn_pI fm_s219 rfl rfl rfl rfl ?_
      replace h := h _ rfl
      refine mj_auto10 [33, 60, 82] 80 rfl ?_
      refine mj_wVv h (fm_o fm_s219) rfl rfl rfl rfl rfl ⟨rfl, rfl⟩ (fun M4 L4 R4 h => ?_)
      refine mj_auto10 [33, 60, 82] 80 rfl ?_
      exact mj_rt rfl rfl rfl ⟨_, _, _, _, rfl, rfl, h⟩
    · replace h := h.2 c
      refine mj_auto10 [33, 60, 82] 80 rfl ?_
      exact h
set_option maxRecDepth 20000 in
theorem h206_82 {d : Nat} {x1 : Int32} {x2 : Int64} {x4 : Int64} {x6 : Int32} {x7 : Int32} {x8 : Int32} {M : Nat → Nat → Int32} {ML : Nat → Nat → Int64} {R : Nat → Nat → Option Nat} {K : wK} (h : (((8 : Int32) ≤ x8 → (∃ k1, x7 = nI k1 ∧ k1 < 8 ∧ (∀ M1, M1 = fm_u M 235 k1 (1 : Int32) → (∃ k2, ((8 : Int32) + x7) = nI k2 ∧ k2 < 43 ∧ (∃ k3, x7 = nI k3 ∧ k3 < 43 ∧ (∃ k4, ((8 : Int32) + x7) = nI k4 ∧ k4 < 43 ∧ (wL d 139 [.long ((x2 * (((M1 220 k2)).toInt64)) + ((((M1 220 k3)).toInt64) * x4)), .long (x4 * (((M1 220 k4)).toInt64))] M1 ML R (fun v5 M5 L5 R5 => (¬ v5 = 0 ∧ (¬ v5 = 0 ∧ H206_60 d x1 (((x2 * (((M1 220 k2)).toInt64)) + ((((M1 220 k3)).toInt64) * x4)) / v5) ((x4 * (((M1 220 k4)).toInt64)) / v5) (x6 + (1 : Int32)) M5 L5 R5 K)))))))))) ∧ (¬ (8 : Int32) ≤ x8 → (wI d 136 [.ref 220, .int x8] M ML R (fun v6 M6 L6 R6 => ((v6 = 0 → H206_82 d x1 x2 x4 x6 x7 (x8 + (1 : Int32)) M6 L6 R6 K) ∧ (¬ v6 = 0 → (∃ k7, x8 = nI k7 ∧ k7 < 8 ∧ (((M6 235 k7) = 0 → ((x7 = (-1 : Int32) → H206_82 d x1 x2 x4 x6 x8 (x8 + (1 : Int32)) M6 L6 R6 K) ∧ (¬ x7 = (-1 : Int32) → (∃ k8, x8 = nI k8 ∧ k8 < 43 ∧ (∃ k9, ((8 : Int32) + x7) = nI k9 ∧ k9 < 43 ∧ (∃ k10, x7 = nI k10 ∧ k10 < 43 ∧ (∃ k11, ((8 : Int32) + x8) = nI k11 ∧ k11 < 43 ∧ ((((M6 220 k8) * (M6 220 k9)) ≤ ((M6 220 k10) * (M6 220 k11)) → H206_82 d x1 x2 x4 x6 x7 (x8 + (1 : Int32)) M6 L6 R6 K) ∧ (¬ ((M6 220 k8) * (M6 220 k9)) ≤ ((M6 220 k10) * (M6 220 k11)) → H206_82 d x1 x2 x4 x6 x8 (x8 + (1 : Int32)) M6 L6 R6 K))))))))) ∧ (¬ (M6 235 k7) = 0 → H206_82 d x1 x2 x4 x6 x7 (x8 + (1 : Int32)) M6 L6 R6 K)))))))))) : H206_82 d x1 x2 x4 x6 x7 x8 M ML R K := by
  unfold H206_82
  refine mj_begin10 [33, 60, 82] 80 rfl ?_
  refine mj_if rfl rfl (fun c => ?_) (fun c => ?_)
  · replace h := h.1 c
    refine mj_auto10 [33, 60, 82] 80 rfl ?_
    refine fn_gR fm_s219 rfl rfl rfl ?_
    refine mj_auto10 [33, 60, 82] 80 rfl ?_
    obtain ⟨k1, c, c2, h⟩ := h
    refine fn_stkz c c2 rfl fm_s235 rfl ?_
    replace h := h _ rfl
    refine mj_auto10 [33, 60, 82] 80 rfl ?_
    refine fn_gR fm_s219 rfl rfl rfl ?_
    refine mj_auto10 [33, 60, 82] 80 rfl ?_
    obtain ⟨k2, c, c2, h⟩ := h
    refine fn_ldk c c2 rfl fm_s220 rfl ?_
    refine mj_auto10 [33, 60, 82] 80 rfl ?_
    refine fn_gR fm_s219 rfl rfl rfl ?_
    refine mj_auto10 [33, 60, 82] 80 rfl ?_
    obtain ⟨k3, c, c2, h⟩ := h
    refine fn_ldk c c2 rfl fm_s220 rfl ?_
    refine mj_auto10 [33, 60, 82] 80 rfl ?_
    refine fn_gR fm_s219 rfl rfl rfl ?_
    refine mj_auto10 [33, 60, 82] 80 rfl ?_
    obtain ⟨k4, c, c2, h⟩ := h
    refine fn_ldk c c2 rfl fm_s220 rfl ?_
    refine mj_auto10 [33, 60, 82] 80 rfl ?_
    refine mj_wLs h rfl rfl rfl rfl rfl rfl (fun v5 M5 L5 R5 h => ?_)
    refine mj_auto10 [33, 60, 82] 80 rfl ?_
    obtain ⟨c, h⟩ := h
    refine mj_div rfl rfl c ?_
    refine mj_auto10 [33, 60, 82] 80 rfl ?_
    obtain ⟨c, h⟩ := h
    refine mj_div rfl rfl c ?_
    refine mj_auto10 [33, 60, 82] 80 rfl ?_
    exact mj_less h (leS (leS (leS (leS (leS (leS (leS (leN (leN (leS le0))))))))))
  · replace h := h.2 c
    refine mj_auto10 [33, 60, 82] 80 rfl ?_
    refine fn_gR fm_s219 rfl rfl rfl ?_
    refine mj_auto10 [33, 60, 82] 80 rfl ?_
    refine mj_wIs h rfl rfl rfl rfl rfl rfl (fun v6 M6 L6 R6 h => ?_)
    refine mj_if rfl rfl (fun c => ?_) (fun c => ?_)
    · replace h := h.1 c
      refine mj_auto10 [33, 60, 82] 80 rfl ?_
      exact h
    · replace h := h.2 c
      refine mj_auto10 [33, 60, 82] 80 rfl ?_
      refine fn_gR fm_s219 rfl rfl rfl ?_
      refine mj_auto10 [33, 60, 82] 80 rfl ?_
      obtain ⟨k7, c, c2, h⟩ := h
      refine fn_ldkz c c2 rfl fm_s235 rfl ?_
      refine mj_if rfl rfl (fun c => ?_) (fun c => ?_)
      · replace h := h.1 c
        refine mj_auto10 [33, 60, 82] 80 rfl ?_
        refine mj_if rfl rfl (fun c => ?_) (fun c => ?_)
        · replace h := h.1 c
          refine mj_auto10 [33, 60, 82] 80 rfl ?_
          exact h
        · replace h := h.2 c
          refine mj_auto10 [33, 60, 82] 80 rfl ?_
          refine fn_gR fm_s219 rfl rfl rfl ?_
          refine mj_auto10 [33, 60, 82] 80 rfl ?_
          obtain ⟨k8, c, c2, h⟩ := h
          refine fn_ldk c c2 rfl fm_s220 rfl ?_
          refine mj_auto10 [33, 60, 82] 80 rfl ?_
          refine fn_gR fm_s219 rfl rfl rfl ?_
          refine mj_auto10 [33, 60, 82] 80 rfl ?_
          obtain ⟨k9, c, c2, h⟩ := h
          refine fn_ldk c c2 rfl fm_s220 rfl ?_
          refine mj_auto10 [33, 60, 82] 80 rfl ?_
          refine fn_gR fm_s219 rfl rfl rfl ?_
          refine mj_auto10 [33, 60, 82] 80 rfl ?_
          obtain ⟨k10, c, c2, h⟩ := h
          refine fn_ldk c c2 rfl fm_s220 rfl ?_
          refine mj_auto10 [33, 60, 82] 80 rfl ?_
          refine fn_gR fm_s219 rfl rfl rfl ?_
          refine mj_auto10 [33, 60, 82] 80 rfl ?_
          obtain ⟨k11, c, c2, h⟩ := h
          refine fn_ldk c c2 rfl fm_s220 rfl ?_
          refine mj_auto10 [33, 60, 82] 80 rfl ?_
          refine mj_if rfl rfl (fun c => ?_) (fun c => ?_)
          · replace h := h.1 c
            refine mj_auto10 [33, 60, 82] 80 rfl ?_
            exact h
          · replace h := h.2 c
            refine mj_auto10 [33, 60, 82] 80 rfl ?_
            exact h
      · replace h := h.2 c
        refine mj_auto10 [33, 60, 82] 80 rfl ?_
        exact h
set_option maxRecDepth 20000 in
theorem w206 {d : Nat} {M : Nat → Nat → Int32} {ML : Nat → Nat → Int64} {R : Nat → Nat → Option Nat} {K : wK} (h : (∀ M1, M1 = fm_u M 219 5 (0 : Int32) → (wV d 141 [.ref 219, .ref 220] M1 ML R (fun M2 L2 R2 => (¬ (L2 219 10) = 0 ∧ H206_33 d ((((((L2 219 9) + (L2 219 10)) - (1 : Int64)) / (L2 219 10))).toInt32) (0 : Int32) M2 L2 R2 K))))) : wI (d + 1) 206 [.ref 219] M ML R K := by
  refine mj_of _ _ rfl rfl rfl ?_
  refine mj_auto10 [33, 60, 82] 80 rfl ?_
  refine fn_pI fm_s219 rfl rfl rfl rfl ?_
  replace h := h _ rfl
  refine mj_auto10 [33, 60, 82] 80 rfl ?_
  refine fn_gR fm_s219 rfl rfl rfl ?_
  refine mj_wVv h (fm_o fm_s219) rfl rfl rfl rfl rfl ⟨rfl, rfl⟩ (fun M2 L2 R2 h => ?_)
  refine mj_auto10 [33, 60, 82] 80 rfl ?_
  refine fn_gL fm_s219 rfl rfl rfl ?_
  refine mj_auto10 [33, 60, 82] 80 rfl ?_
  refine fn_gL fm_s219 rfl rfl rfl ?_
  refine mj_auto10 [33, 60, 82] 80 rfl ?_
  refine fn_gL fm_s219 rfl rfl rfl ?_
  obtain ⟨c, h⟩ := h
  refine mj_div rfl rfl c ?_
  refine mj_auto10 [33, 60, 82] 80 rfl ?_
  exact h
set_option maxRecDepth 20000 in
theorem w209 {d : Nat} {a1 : Int32} {a2 : Int32} {M : Nat → Nat → Int32} {ML : Nat → Nat → Int64} {R : Nat → Nat → Option Nat} {K : wK} (h : (∀ M1, M1 = fm_u M 219 5 (0 : Int32) → (wI d 132 [.int a1, .int (0 : Int32), .int (4 : Int32)] M1 ML R (fun v2 M2 L2 R2 => ((v2 = 0 → K (-1 : Int32) M2 L2 R2) ∧ (¬ v2 = 0 → (wI d 207 [.int a1] M2 L2 R2 (fun v3 M3 L3 R3 => (wI d 208 [.int a1] M3 L3 R3 (fun v4 M4 L4 R4 => (wI d 132 [.int a2, .int v3, .int v4] M4 L4 R4 (fun v5 M5 L5 R5 => ((v5 = 0 → K (-1 : Int32) M5 L5 R5) ∧ (¬ v5 = 0 → ((¬ (M5 219 36) = (12 : Int32) → (∃ k6, (M5 219 36) = nI k6 ∧ k6 < 12 ∧ (∀ M6, M6 = fm_u M5 236 k6 a1 → (∃ k7, (M6 219 36) = nI k7 ∧ k7 < 12 ∧ (∀ M7, M7 = fm_u M6 237 k7 a2 → (∀ M8, M8 = fm_u M7 219 36 ((M7 219 36) + (1 : Int32)) → K (M8 219 36) M8 L5 R5)))))) ∧ ((M5 219 36) = (12 : Int32) → K (-1 : Int32) M5 L5 R5)))))))))))))))) : wI (d + 1) 209 [.ref 219, .int a1, .int a2] M ML R K := by
  refine mj_of _ _ rfl rfl rfl ?_
  refine mj_auto3 [] 80 rfl ?_
  refine fn_pI fm_s219 rfl rfl rfl rfl ?_
  replace h := h _ rfl
  refine mj_auto3 [] 80 rfl ?_
  refine mj_wIs h rfl rfl rfl rfl rfl rfl (fun v2 M2 L2 R2 h => ?_)
  refine mj_if rfl rfl (fun c => ?_) (fun c => ?_)
  · replace h := h.1 c
    refine mj_auto3 [] 80 rfl ?_
    exact mj_rt rfl rfl rfl ⟨_, _, _, _, rfl, rfl, h⟩
  · replace h := h.2 c
    refine mj_auto3 [] 80 rfl ?_
    refine mj_wIs h rfl rfl rfl rfl rfl rfl (fun v3 M3 L3 R3 h => ?_)
    refine mj_auto3 [] 80 rfl ?_
    refine mj_wIs h rfl rfl rfl rfl rfl rfl (fun v4 M4 L4 R4 h => ?_)
    refine mj_wIs h rfl rfl rfl rfl rfl rfl (fun v5 M5 L5 R5 h => ?_)
    refine mj_if rfl rfl (fun c => ?_) (fun c => ?_)
    · replace h := h.1 c
      refine mj_auto3 [] 80 rfl ?_
      exact mj_rt rfl rfl rfl ⟨_, _, _, _, rfl, rfl, h⟩
    · replace h := h.2 c
      refine mj_auto3 [] 80 rfl ?_
      refine fn_gI fm_s219 rfl rfl rfl ?_
      refine mj_auto3 [] 80 rfl ?_
      refine mj_if rfl rfl (fun c => ?_) (fun c => ?_)
      · replace h := h.1 c
        refine mj_auto3 [] 80 rfl ?_
        refine fn_gR fm_s219 rfl rfl rfl ?_
        refine mj_auto3 [] 80 rfl ?_
        refine fn_gI fm_s219 rfl rfl rfl ?_
        refine mj_auto3 [] 80 rfl ?_
        obtain ⟨k6, c, c2, h⟩ := h
        refine fn_stk c c2 rfl fm_s236 rfl ?_
        replace h := h _ rfl
        refine mj_auto3 [] 80 rfl ?_
        refine fn_gR fm_s219 rfl rfl rfl ?_
        refine mj_auto3 [] 80 rfl ?_
        refine fn_gI fm_s219 rfl rfl rfl ?_
        refine mj_auto3 [] 80 rfl ?_
        obtain ⟨k7, c, c2, h⟩ := h
        refine fn_stk c c2 rfl fm_s237 rfl ?_
        replace h := h _ rfl
        refine mj_auto3 [] 80 rfl ?_
        refine fn_gI fm_s219 rfl rfl rfl ?_
        refine mj_auto3 [] 80 rfl ?_
        refine fn_pI fm_s219 rfl rfl rfl rfl ?_
        replace h := h _ rfl
        refine mj_auto3 [] 80 rfl ?_
        refine fn_gI fm_s219 rfl rfl rfl ?_
        exact mj_rt rfl rfl rfl ⟨_, _, _, _, rfl, rfl, h⟩
      · replace h := h.2 (Classical.not_not.mp c)
        refine mj_auto3 [] 80 rfl ?_
        exact mj_rt rfl rfl rfl ⟨_, _, _, _, rfl, rfl, h⟩
set_option maxRecDepth 20000 in
theorem w211 {d : Nat} {a1 : Int32} {a2 : Int32} {a3 : Int32} {M : Nat → Nat → Int32} {ML : Nat → Nat → Int64} {R : Nat → Nat → Option Nat} {K : wK} (h : ((a2 = 0 → (∃ k1, ((8 : Int32) + a1) = nI k1 ∧ k1 < 43 ∧ ((¬ (M 220 k1) = a3 → K (0 : Int32) M ML R) ∧ ((M 220 k1) = a3 → K (1 : Int32) M ML R)))) ∧ (a2 = 1 → (∃ k2, a1 = nI k2 ∧ k2 < 43 ∧ (((M 220 k2) < a3 → K (0 : Int32) M ML R) ∧ (¬ (M 220 k2) < a3 → K (1 : Int32) M ML R)))) ∧ (a2 = 2 → (wI d 147 [.ref 220, .int a1] M ML R (fun v3 M3 L3 R3 => ((¬ a3 = (1 : Int32) → ((¬ v3 = (0 : Int32) → K (0 : Int32) M3 L3 R3) ∧ (v3 = (0 : Int32) → K (1 : Int32) M3 L3 R3))) ∧ (a3 = (1 : Int32) → ((¬ v3 = (1 : Int32) → K (0 : Int32) M3 L3 R3) ∧ (v3 = (1 : Int32) → K (1 : Int32) M3 L3 R3))))))) ∧ (a2 = 3 → (∃ k4, a1 = nI k4 ∧ k4 < 43 ∧ (∃ k5, ((8 : Int32) + a1) = nI k5 ∧ k5 < 43 ∧ ((((2 : Int32) * (M 220 k4)) < (M 220 k5) → ((¬ a3 = (1 : Int32) → ((¬ (0 : Int32) = (0 : Int32) → K (0 : Int32) M ML R) ∧ ((0 : Int32) = (0 : Int32) → K (1 : Int32) M ML R))) ∧ (a3 = (1 : Int32) → ((¬ (0 : Int32) = (1 : Int32) → K (0 : Int32) M ML R) ∧ ((0 : Int32) = (1 : Int32) → K (1 : Int32) M ML R))))) ∧ (¬ ((2 : Int32) * (M 220 k4)) < (M 220 k5) → ((¬ a3 = (1 : Int32) → ((¬ (1 : Int32) = (0 : Int32) → K (0 : Int32) M ML R) ∧ ((1 : Int32) = (0 : Int32) → K (1 : Int32) M ML R))) ∧ (a3 = (1 : Int32) → ((¬ (1 : Int32) = (1 : Int32) → K (0 : Int32) M ML R) ∧ ((1 : Int32) = (1 : Int32) → K (1 : Int32) M ML R))))))))) ∧ (¬ a2 = 0 → ¬ a2 = 1 → ¬ a2 = 2 → ¬ a2 = 3 → (∃ k6, ((32 : Int32) + a1) = nI k6 ∧ k6 < 43 ∧ (((M 220 k6) < a3 → K (0 : Int32) M ML R) ∧ (¬ (M 220 k6) < a3 → K (1 : Int32) M ML R)))))) : wI (d + 1) 211 [.ref 219, .int a1, .int a2, .int a3] M ML R K := by
  refine mj_of _ _ rfl rfl rfl ?_
  refine mj_auto4 [] 80 rfl ?_
  by_cases e0 : a2 = 0
  · replace h := h.1 e0
    refine mj_swi 32 rfl rfl (by rw [e0]; decide +kernel) ?_
    refine mj_auto4 [] 80 rfl ?_
    refine fn_gR fm_s219 rfl rfl rfl ?_
    refine mj_auto4 [] 80 rfl ?_
    obtain ⟨k1, c, c2, h⟩ := h
    refine fn_ldk c c2 rfl fm_s220 rfl ?_
    refine mj_auto4 [] 80 rfl ?_
    refine mj_if rfl rfl (fun c => ?_) (fun c => ?_)
    · replace h := h.1 c
      refine mj_auto4 [] 80 rfl ?_
      exact mj_rt rfl rfl rfl ⟨_, _, _, _, rfl, rfl, h⟩
    · replace h := h.2 (Classical.not_not.mp c)
      refine mj_auto4 [] 80 rfl ?_
      exact mj_rt rfl rfl rfl ⟨_, _, _, _, rfl, rfl, h⟩
  by_cases e1 : a2 = 1
  · replace h := h.2.1 e1
    refine mj_swi 51 rfl rfl (by rw [e1]; decide +kernel) ?_
    refine mj_auto4 [] 80 rfl ?_
    refine fn_gR fm_s219 rfl rfl rfl ?_
    refine mj_auto4 [] 80 rfl ?_
    obtain ⟨k2, c, c2, h⟩ := h
    refine fn_ldk c c2 rfl fm_s220 rfl ?_
    refine mj_auto4 [] 80 rfl ?_
    refine mj_if rfl rfl (fun c => ?_) (fun c => ?_)
    · replace h := h.1 c
      refine mj_auto4 [] 80 rfl ?_
      exact mj_rt rfl rfl rfl ⟨_, _, _, _, rfl, rfl, h⟩
    · replace h := h.2 c
      refine mj_auto4 [] 80 rfl ?_
      exact mj_rt rfl rfl rfl ⟨_, _, _, _, rfl, rfl, h⟩
  by_cases e2 : a2 = 2
  · replace h := h.2.2.1 e2
    refine mj_swi 67 rfl rfl (by rw [e2]; decide +kernel) ?_
    refine mj_auto4 [] 80 rfl ?_
    refine fn_gR fm_s219 rfl rfl rfl ?_
    refine mj_auto4 [] 80 rfl ?_
    refine mj_wIs h rfl rfl rfl rfl rfl rfl (fun v3 M3 L3 R3 h => ?_)
    refine mj_auto4 [] 80 rfl ?_
    refine mj_if rfl rfl (fun c => ?_) (fun c => ?_)
    · replace h := h.1 c
      refine mj_auto4 [] 80 rfl ?_
      refine mj_if rfl rfl (fun c => ?_) (fun c => ?_)
      · replace h := h.1 c
        refine mj_auto4 [] 80 rfl ?_
        exact mj_rt rfl rfl rfl ⟨_, _, _, _, rfl, rfl, h⟩
      · replace h := h.2 (Classical.not_not.mp c)
        refine mj_auto4 [] 80 rfl ?_
        exact mj_rt rfl rfl rfl ⟨_, _, _, _, rfl, rfl, h⟩
    · replace h := h.2 (Classical.not_not.mp c)
      refine mj_auto4 [] 80 rfl ?_
      refine mj_if rfl rfl (fun c => ?_) (fun c => ?_)
      · replace h := h.1 c
        refine mj_auto4 [] 80 rfl ?_
        exact mj_rt rfl rfl rfl ⟨_, _, _, _, rfl, rfl, h⟩
      · replace h := h.2 (Classical.not_not.mp c)
        refine mj_auto4 [] 80 rfl ?_
        exact mj_rt rfl rfl rfl ⟨_, _, _, _, rfl, rfl, h⟩
  by_cases e3 : a2 = 3
  · replace h := h.2.2.2.1 e3
    refine mj_swi 94 rfl rfl (by rw [e3]; decide +kernel) ?_
    refine mj_auto4 [] 80 rfl ?_
    refine fn_gR fm_s219 rfl rfl rfl ?_
    refine mj_auto4 [] 80 rfl ?_
    obtain ⟨k4, c, c2, h⟩ := h
    refine fn_ldk c c2 rfl fm_s220 rfl ?_
    refine mj_auto4 [] 80 rfl ?_
    refine fn_gR fm_s219 rfl rfl rfl ?_
    refine mj_auto4 [] 80 rfl ?_
    obtain ⟨k5, c, c2, h⟩ := h
    refine fn_ldk c c2 rfl fm_s220 rfl ?_
    refine mj_if rfl rfl (fun c => ?_) (fun c => ?_)
    · replace h := h.1 c
      refine mj_auto4 [] 80 rfl ?_
      refine mj_if rfl rfl (fun c => ?_) (fun c => ?_)
      · replace h := h.1 c
        refine mj_auto4 [] 80 rfl ?_
        refine mj_if rfl rfl (fun c => ?_) (fun c => ?_)
        · replace h := h.1 c
          refine mj_auto4 [] 80 rfl ?_
          exact mj_rt rfl rfl rfl ⟨_, _, _, _, rfl, rfl, h⟩
        · replace h := h.2 (Classical.not_not.mp c)
          refine mj_auto4 [] 80 rfl ?_
          exact mj_rt rfl rfl rfl ⟨_, _, _, _, rfl, rfl, h⟩
      · replace h := h.2 (Classical.not_not.mp c)
        refine mj_auto4 [] 80 rfl ?_
        refine mj_if rfl rfl (fun c => ?_) (fun c => ?_)
        · replace h := h.1 c
          refine mj_auto4 [] 80 rfl ?_
          exact mj_rt rfl rfl rfl ⟨_, _, _, _, rfl, rfl, h⟩
        · replace h := h.2 (Classical.not_not.mp c)
          refine mj_auto4 [] 80 rfl ?_
          exact mj_rt rfl rfl rfl ⟨_, _, _, _, rfl, rfl, h⟩
    · replace h := h.2 c
      refine mj_auto4 [] 80 rfl ?_
      refine mj_if rfl rfl (fun c => ?_) (fun c => ?_)
      · replace h := h.1 c
        refine mj_auto4 [] 80 rfl ?_
        refine mj_if rfl rfl (fun c => ?_) (fun c => ?_)
        · replace h := h.1 c
          refine mj_auto4 [] 80 rfl ?_
          exact mj_rt rfl rfl rfl ⟨_, _, _, _, rfl, rfl, h⟩
        · replace h := h.2 (Classical.not_not.mp c)
          refine mj_auto4 [] 80 rfl ?_
          exact mj_rt rfl rfl rfl ⟨_, _, _, _, rfl, rfl, h⟩
      · replace h := h.2 (Classical.not_not.mp c)
        refine mj_auto4 [] 80 rfl ?_
        refine mj_if rfl rfl (fun c => ?_) (fun c => ?_)
        · replace h := h.1 c
          refine mj_auto4 [] 80 rfl ?_
          exact mj_rt rfl rfl rfl ⟨_, _, _, _, rfl, rfl, h⟩
        · replace h := h.2 (Classical.not_not.mp c)
          refine mj_auto4 [] 80 rfl ?_
          exact mj_rt rfl rfl rfl ⟨_, _, _, _, rfl, rfl, h⟩
  replace h := h.2.2.2.2 e0 e1 e2 e3
  refine mj_swi 138 rfl rfl (by show (1 : Int) + (if (a2).toInt < 0 ∨ 3 < (a2).toInt then 137 else _) = 138; rw [if_pos (sw_out3 e0 e1 e2 e3)]; rfl) ?_
  refine mj_auto4 [] 80 rfl ?_
  refine fn_gR fm_s219 rfl rfl rfl ?_
  refine mj_auto4 [] 80 rfl ?_
  obtain ⟨k6, c, c2, h⟩ := h
  refine fn_ldk c c2 rfl fm_s220 rfl ?_
  refine mj_auto4 [] 80 rfl ?_
  refine mj_if rfl rfl (fun c => ?_) (fun c => ?_)
  · replace h := h.1 c
    refine mj_auto4 [] 80 rfl ?_
    exact mj_rt rfl rfl rfl ⟨_, _, _, _, rfl, rfl, h⟩
  · replace h := h.2 c
    refine mj_auto4 [] 80 rfl ?_
    exact mj_rt rfl rfl rfl ⟨_, _, _, _, rfl, rfl, h⟩
def H212_4 (d : Nat) (x1 : Int32) (x2 : Int32) (M : Nat → Nat → Int32) (ML : Nat → Nat → Int64) (R : Nat → Nat → Option Nat) (K : wK) : Prop := mj_Rn d (some .int) kX11_fitting (wQ K) (fm_mk (M, ML, R)) 4 [some (.ref 219), some (.int x1), some (.int x2), none, none] []
def H212_22 (d : Nat) (x1 : Int32) (x2 : Int32) (x3 : Int32) (x4 : Int32) (M : Nat → Nat → Int32) (ML : Nat → Nat → Int64) (R : Nat → Nat → Option Nat) (K : wK) : Prop := mj_Rn d (some .int) kX11_fitting (wQ K) (fm_mk (M, ML, R)) 22 [some (.ref 219), some (.int x1), some (.int x2), some (.int x3), some (.int x4)] []
set_option maxRecDepth 20000 in
theorem h212_4 {d : Nat} {x1 : Int32} {x2 : Int32} {M : Nat → Nat → Int32} {ML : Nat → Nat → Int64} {R : Nat → Nat → Option Nat} {K : wK} (h : (((8 : Int32) ≤ x2 → K x1 M ML R) ∧ (¬ (8 : Int32) ≤ x2 → (wI d 136 [.ref 220, .int x2] M ML R (fun v1 M1 L1 R1 => H212_22 d x1 x2 v1 (0 : Int32) M1 L1 R1 K))))) : H212_4 d x1 x2 M ML R K := by
  unfold H212_4
  refine mj_begin5 [4, 22] 80 rfl ?_
  refine mj_if rfl rfl (fun c => ?_) (fun c => ?_)
  · replace h := h.1 c
    refine mj_auto5 [4, 22] 80 rfl ?_
    exact mj_rt rfl rfl rfl ⟨_, _, _, _, rfl, rfl, h⟩
  · replace h := h.2 c
    refine mj_auto5 [4, 22] 80 rfl ?_
    refine fn_gR fm_s219 rfl rfl rfl ?_
    refine mj_auto5 [4, 22] 80 rfl ?_
    refine mj_wIs h rfl rfl rfl rfl rfl rfl (fun v1 M1 L1 R1 h => ?_)
    refine mj_auto5 [4, 22] 80 rfl ?_
    exact h
set_option maxRecDepth 20000 in
theorem h212_22 {d : Nat} {x1 : Int32} {x2 : Int32} {x3 : Int32} {x4 : Int32} {M : Nat → Nat → Int32} {ML : Nat → Nat → Int64} {R : Nat → Nat → Option Nat} {K : wK} (h : (((M 219 36) ≤ x4 → ((x3 = 0 → H212_4 d (x1 ||| (0 : Int32)) (x2 + (1 : Int32)) M ML R K) ∧ (¬ x3 = 0 → H212_4 d (x1 ||| ((1 : Int32) <<< (x2 &&& 31))) (x2 + (1 : Int32)) M ML R K))) ∧ (¬ (M 219 36) ≤ x4 → ((x3 = 0 → ((x3 = 0 → H212_4 d (x1 ||| (0 : Int32)) (x2 + (1 : Int32)) M ML R K) ∧ (¬ x3 = 0 → H212_4 d (x1 ||| ((1 : Int32) <<< (x2 &&& 31))) (x2 + (1 : Int32)) M ML R K))) ∧ (¬ x3 = 0 → (∃ k1, x4 = nI k1 ∧ k1 < 12 ∧ (∃ k2, x4 = nI k2 ∧ k2 < 12 ∧ (wI d 211 [.ref 219, .int x2, .int (M 236 k1), .int (M 237 k2)] M ML R (fun v3 M3 L3 R3 => H212_22 d x1 x2 v3 (x4 + (1 : Int32)) M3 L3 R3 K))))))))) : H212_22 d x1 x2 x3 x4 M ML R K := by
  unfold H212_22
  refine mj_begin5 [4, 22] 80 rfl ?_
  refine fn_gI fm_s219 rfl rfl rfl ?_
  refine mj_if rfl rfl (fun c => ?_) (fun c => ?_)
  · replace h := h.1 c
    refine mj_auto5 [4, 22] 80 rfl ?_
    refine mj_if rfl rfl (fun c => ?_) (fun c => ?_)
    · replace h := h.1 c
      refine mj_auto5 [4, 22] 80 rfl ?_
      exact mj_less h (leS (leS (leS (leN (leN le0)))))
    · replace h := h.2 c
      refine mj_auto5 [4, 22] 80 rfl ?_
      exact mj_less h (leS (leS (leS (leN (leN le0)))))
  · replace h := h.2 c
    refine mj_auto5 [4, 22] 80 rfl ?_
    refine mj_if rfl rfl (fun c => ?_) (fun c => ?_)
    · replace h := h.1 c
      refine mj_auto5 [4, 22] 80 rfl ?_
      refine mj_if rfl rfl (fun c => ?_) (fun c => ?_)
      · replace h := h.1 c
        refine mj_auto5 [4, 22] 80 rfl ?_
        exact mj_less h (leS (leS (leS (leN (leN le0)))))
      · replace h := h.2 c
        refine mj_auto5 [4, 22] 80 rfl ?_
        exact mj_less h (leS (leS (leS (leN (leN le0)))))
    · replace h := h.2 c
      refine mj_auto5 [4, 22] 80 rfl ?_
      refine fn_gR fm_s219 rfl rfl rfl ?_
      refine mj_auto5 [4, 22] 80 rfl ?_
      obtain ⟨k1, c, c2, h⟩ := h
      refine fn_ldk c c2 rfl fm_s236 rfl ?_
      refine mj_auto5 [4, 22] 80 rfl ?_
      refine fn_gR fm_s219 rfl rfl rfl ?_
      refine mj_auto5 [4, 22] 80 rfl ?_
      obtain ⟨k2, c, c2, h⟩ := h
      refine fn_ldk c c2 rfl fm_s237 rfl ?_
      refine mj_wIv h (fm_o fm_s219) rfl rfl rfl rfl rfl ⟨rfl, rfl⟩ (fun v3 M3 L3 R3 h => ?_)
      refine mj_auto5 [4, 22] 80 rfl ?_
      exact h
set_option maxRecDepth 20000 in
theorem w212 {d : Nat} {M : Nat → Nat → Int32} {ML : Nat → Nat → Int64} {R : Nat → Nat → Option Nat} {K : wK} (h : H212_4 d (0 : Int32) (0 : Int32) M ML R K) : wI (d + 1) 212 [.ref 219] M ML R K := by
  refine mj_of _ _ rfl rfl rfl ?_
  refine mj_auto5 [4, 22] 80 rfl ?_
  exact h
set_option maxRecDepth 20000 in
theorem w213 {d : Nat} {M : Nat → Nat → Int32} {ML : Nat → Nat → Int64} {R : Nat → Nat → Option Nat} {K : wK} (h : (∀ M1, M1 = fm_u M 219 5 (0 : Int32) → (wI d 212 [.ref 219] M1 ML R (fun v2 M2 L2 R2 => (∀ M3, M3 = fm_u M2 219 4 (0 : Int32) → (wI d 236 [.int v2] M3 L2 R2 (fun v4 M4 L4 R4 => (wV d 135 [.ref 219, .long ((v4).toInt64)] M4 L4 R4 (fun M5 L5 R5 => K v2 M5 L5 R5))))))))) : wI (d + 1) 213 [.ref 219] M ML R K := by
  refine mj_of _ _ rfl rfl rfl ?_
  refine mj_auto2 [] 80 rfl ?_
  refine fn_pI fm_s219 rfl rfl rfl rfl ?_
  replace h := h _ rfl
  refine mj_auto2 [] 80 rfl ?_
  refine mj_wIv h (fm_o fm_s219) rfl rfl rfl rfl rfl ⟨rfl, rfl⟩ (fun v2 M2 L2 R2 h => ?_)
  refine mj_auto2 [] 80 rfl ?_
  refine fn_pI fm_s219 rfl rfl rfl rfl ?_
  replace h := h _ rfl
  refine mj_auto2 [] 80 rfl ?_
  refine mj_wIs h rfl rfl rfl rfl rfl rfl (fun v4 M4 L4 R4 h => ?_)
  refine mj_auto2 [] 80 rfl ?_
  refine mj_wVv h (fm_o fm_s219) rfl rfl rfl rfl rfl ⟨rfl, rfl⟩ (fun M5 L5 R5 h => ?_)
  refine mj_auto2 [] 80 rfl ?_
  exact mj_rt rfl rfl rfl ⟨_, _, _, _, rfl, rfl, h⟩
def H214_26 (d : Nat) (x1 : Int32) (x2 : Int32) (x3 : Int32) (x4 : Int32) (M : Nat → Nat → Int32) (ML : Nat → Nat → Int64) (R : Nat → Nat → Option Nat) (K : wK) : Prop := mj_Rn d (some .int) kX11_asks (wQ K) (fm_mk (M, ML, R)) 26 [some (.ref 219), some (.int x1), some (.int x2), some (.int x3), some (.int x4), none, none, none] []
def H214_39 (d : Nat) (x1 : Int32) (x2 : Int32) (x3 : Int32) (x4 : Int32) (x5 : Int32) (M : Nat → Nat → Int32) (ML : Nat → Nat → Int64) (R : Nat → Nat → Option Nat) (K : wK) : Prop := mj_Rn d (some .int) kX11_asks (wQ K) (fm_mk (M, ML, R)) 39 [some (.ref 219), some (.int x1), some (.int x2), some (.int x3), some (.int x4), some (.int x5), none, none] []
def H214_55 (d : Nat) (x1 : Int32) (x2 : Int32) (x3 : Int32) (x4 : Int32) (x5 : Int32) (x6 : Int32) (x7 : Int32) (M : Nat → Nat → Int32) (ML : Nat → Nat → Int64) (R : Nat → Nat → Option Nat) (K : wK) : Prop := mj_Rn d (some .int) kX11_asks (wQ K) (fm_mk (M, ML, R)) 55 [some (.ref 219), some (.int x1), some (.int x2), some (.int x3), some (.int x4), some (.int x5), some (.int x6), some (.int x7)] []
set_option maxRecDepth 20000 in
theorem h214_26 {d : Nat} {x1 : Int32} {x2 : Int32} {x3 : Int32} {x4 : Int32} {M : Nat → Nat → Int32} {ML : Nat → Nat → Int64} {R : Nat → Nat → Option Nat} {K : wK} (h : (((5 : Int32) ≤ x4 → (∀ M1, M1 = fm_u M 219 4 (0 : Int32) → (wV d 135 [.ref 219, .long ((x3).toInt64)] M1 ML R (fun M2 L2 R2 => K x2 M2 L2 R2)))) ∧ (¬ (5 : Int32) ≤ x4 → (wI d 207 [.int x4] M ML R (fun v3 M3 L3 R3 => H214_39 d x1 x2 x3 x4 v3 M3 L3 R3 K))))) : H214_26 d x1 x2 x3 x4 M ML R K := by
  unfold H214_26
  refine mj_begin8 [26, 39, 55] 80 rfl ?_
  refine mj_if rfl rfl (fun c => ?_) (fun c => ?_)
  · replace h := h.1 c
    refine mj_auto8 [26, 39, 55] 80 rfl ?_
    refine fn_pI fm_s219 rfl rfl rfl rfl ?_
    replace h := h _ rfl
    refine mj_auto8 [26, 39, 55] 80 rfl ?_
    refine mj_wVv h (fm_o fm_s219) rfl rfl rfl rfl rfl ⟨rfl, rfl⟩ (fun M2 L2 R2 h => ?_)
    refine mj_auto8 [26, 39, 55] 80 rfl ?_
    exact mj_rt rfl rfl rfl ⟨_, _, _, _, rfl, rfl, h⟩
  · replace h := h.2 c
    refine mj_auto8 [26, 39, 55] 80 rfl ?_
    refine mj_wIs h rfl rfl rfl rfl rfl rfl (fun v3 M3 L3 R3 h => ?_)
    refine mj_auto8 [26, 39, 55] 80 rfl ?_
    exact h
set_option maxRecDepth 20000 in
theorem h214_39 {d : Nat} {x1 : Int32} {x2 : Int32} {x3 : Int32} {x4 : Int32} {x5 : Int32} {M : Nat → Nat → Int32} {ML : Nat → Nat → Int64} {R : Nat → Nat → Option Nat} {K : wK} (h : (wI d 208 [.int x4] M ML R (fun v1 M1 L1 R1 => ((v1 < x5 → H214_26 d x1 x2 x3 (x4 + (1 : Int32)) M1 L1 R1 K) ∧ (¬ v1 < x5 → H214_55 d x1 x2 x3 x4 x5 (0 : Int32) (0 : Int32) M1 L1 R1 K))))) : H214_39 d x1 x2 x3 x4 x5 M ML R K := by
  unfold H214_39
  refine mj_begin8 [26, 39, 55] 80 rfl ?_
  refine mj_wIs h rfl rfl rfl rfl rfl rfl (fun v1 M1 L1 R1 h => ?_)
  refine mj_if rfl rfl (fun c => ?_) (fun c => ?_)
  · replace h := h.1 c
    refine mj_auto8 [26, 39, 55] 80 rfl ?_
    exact mj_less h (leS (leS (leS (leS (leS (leN (leS (leS le0))))))))
  · replace h := h.2 c
    refine mj_auto8 [26, 39, 55] 80 rfl ?_
    exact h
set_option maxRecDepth 20000 in
theorem h214_55 {d : Nat} {x1 : Int32} {x2 : Int32} {x3 : Int32} {x4 : Int32} {x5 : Int32} {x6 : Int32} {x7 : Int32} {M : Nat → Nat → Int32} {ML : Nat → Nat → Int64} {R : Nat → Nat → Option Nat} {K : wK} (h : (((8 : Int32) ≤ x7 → (wI d 236 [.int x1] M ML R (fun v1 M1 L1 R1 => (wI d 239 [.int x6, .int (v1 - x6)] M1 L1 R1 (fun v2 M2 L2 R2 => ((v2 < x3 → H214_39 d x1 (((100 : Int32) * x4) + x5) v2 x4 (x5 + (1 : Int32)) M2 L2 R2 K) ∧ (¬ v2 < x3 → H214_39 d x1 x2 x3 x4 (x5 + (1 : Int32)) M2 L2 R2 K))))))) ∧ (¬ (8 : Int32) ≤ x7 → (wI d 133 [.int x1, .int x7] M ML R (fun v3 M3 L3 R3 => ((v3 = 0 → H214_55 d x1 x2 x3 x4 x5 (x6 + (0 : Int32)) (x7 + (1 : Int32)) M3 L3 R3 K) ∧ (¬ v3 = 0 → (wI d 211 [.ref 219, .int x7, .int x4, .int x5] M3 L3 R3 (fun v4 M4 L4 R4 => ((v4 = 0 → H214_55 d x1 x2 x3 x4 x5 (x6 + (0 : Int32)) (x7 + (1 : Int32)) M4 L4 R4 K) ∧ (¬ v4 = 0 → H214_55 d x1 x2 x3 x4 x5 (x6 + (1 : Int32)) (x7 + (1 : Int32)) M4 L4 R4 K))))))))))) : H214_55 d x1 x2 x3 x4 x5 x6 x7 M ML R K := by
  unfold H214_55
  refine mj_begin8 [26, 39, 55] 80 rfl ?_
  refine mj_if rfl rfl (fun c => ?_) (fun c => ?_)
  · replace h := h.1 c
    refine mj_auto8 [26, 39, 55] 80 rfl ?_
    refine mj_wIs h rfl rfl rfl rfl rfl rfl (fun v1 M1 L1 R1 h => ?_)
    refine mj_auto8 [26, 39, 55] 80 rfl ?_
    refine mj_wIs h rfl rfl rfl rfl rfl rfl (fun v2 M2 L2 R2 h => ?_)
    refine mj_auto8 [26, 39, 55] 80 rfl ?_
    refine mj_if rfl rfl (fun c => ?_) (fun c => ?_)
    · replace h := h.1 c
      refine mj_auto8 [26, 39, 55] 80 rfl ?_
      exact mj_less h (leS (leS (leS (leS (leS (leS (leN (leN le0))))))))
    · replace h := h.2 c
      refine mj_auto8 [26, 39, 55] 80 rfl ?_
      exact mj_less h (leS (leS (leS (leS (leS (leS (leN (leN le0))))))))
  · replace h := h.2 c
    refine mj_auto8 [26, 39, 55] 80 rfl ?_
    refine mj_wIs h rfl rfl rfl rfl rfl rfl (fun v3 M3 L3 R3 h => ?_)
    refine mj_if rfl rfl (fun c => ?_) (fun c => ?_)
    · replace h := h.1 c
      refine mj_auto8 [26, 39, 55] 80 rfl ?_
      exact h
    · replace h := h.2 c
      refine mj_auto8 [26, 39, 55] 80 rfl ?_
      refine mj_wIv h (fm_o fm_s219) rfl rfl rfl rfl rfl ⟨rfl, rfl⟩ (fun v4 M4 L4 R4 h => ?_)
      refine mj_if rfl rfl (fun c => ?_) (fun c => ?_)
      · replace h := h.1 c
        refine mj_auto8 [26, 39, 55] 80 rfl ?_
        exact h
      · replace h := h.2 c
        refine mj_auto8 [26, 39, 55] 80 rfl ?_
        exact h
set_option maxRecDepth 20000 in
theorem w214 {d : Nat} {M : Nat → Nat → Int32} {ML : Nat → Nat → Int64} {R : Nat → Nat → Option Nat} {K : wK} (h : (∀ M1, M1 = fm_u M 219 5 (0 : Int32) → (wI d 212 [.ref 219] M1 ML R (fun v2 M2 L2 R2 => ((¬ v2 = 0 → H214_26 d v2 (-1 : Int32) (1000000 : Int32) (0 : Int32) M2 L2 R2 K) ∧ (v2 = 0 → K (-2 : Int32) M2 L2 R2)))))) : wI (d + 1) 214 [.ref 219] M ML R K := by
  refine mj_of _ _ rfl rfl rfl ?_
  refine mj_auto8 [26, 39, 55] 80 rfl ?_
  refine fn_pI fm_s219 rfl rfl rfl rfl ?_
  replace h := h _ rfl
  refine mj_auto8 [26, 39, 55] 80 rfl ?_
  refine mj_wIv h (fm_o fm_s219) rfl rfl rfl rfl rfl ⟨rfl, rfl⟩ (fun v2 M2 L2 R2 h => ?_)
  refine mj_auto8 [26, 39, 55] 80 rfl ?_
  refine mj_if rfl rfl (fun c => ?_) (fun c => ?_)
  · replace h := h.1 c
    refine mj_auto8 [26, 39, 55] 80 rfl ?_
    exact h
  · replace h := h.2 (Classical.not_not.mp c)
    refine mj_auto8 [26, 39, 55] 80 rfl ?_
    exact mj_rt rfl rfl rfl ⟨_, _, _, _, rfl, rfl, h⟩
def H218_14 (d : Nat) (x1 : Int32) (x2 : Int32) (M : Nat → Nat → Int32) (ML : Nat → Nat → Int64) (R : Nat → Nat → Option Nat) (K : wK) : Prop := mj_Rn d (some .int) kX11_weights (wQ K) (fm_mk (M, ML, R)) 14 [some (.ref 219), some (.int x1), some (.int x2), none] []
def H218_22 (d : Nat) (x1 : Int32) (x2 : Int32) (x3 : Int32) (M : Nat → Nat → Int32) (ML : Nat → Nat → Int64) (R : Nat → Nat → Option Nat) (K : wK) : Prop := mj_Rn d (some .int) kX11_weights (wQ K) (fm_mk (M, ML, R)) 22 [some (.ref 219), some (.int x1), some (.int x2), some (.int x3)] []
set_option maxRecDepth 20000 in
theorem h218_14 {d : Nat} {x1 : Int32} {x2 : Int32} {M : Nat → Nat → Int32} {ML : Nat → Nat → Int64} {R : Nat → Nat → Option Nat} {K : wK} (h : (((12 : Int32) < x2 → K x1 M ML R) ∧ (¬ (12 : Int32) < x2 → H218_22 d x1 x2 (1 : Int32) M ML R K))) : H218_14 d x1 x2 M ML R K := by
  unfold H218_14
  refine mj_begin4 [14, 22] 80 rfl ?_
  refine mj_if rfl rfl (fun c => ?_) (fun c => ?_)
  · replace h := h.1 c
    refine mj_auto4 [14, 22] 80 rfl ?_
    exact mj_rt rfl rfl rfl ⟨_, _, _, _, rfl, rfl, h⟩
  · replace h := h.2 c
    refine mj_auto4 [14, 22] 80 rfl ?_
    exact h
set_option maxRecDepth 20000 in
theorem h218_22 {d : Nat} {x1 : Int32} {x2 : Int32} {x3 : Int32} {M : Nat → Nat → Int32} {ML : Nat → Nat → Int64} {R : Nat → Nat → Option Nat} {K : wK} (h : ((x2 < x3 → H218_14 d x1 (x2 + (1 : Int32)) M ML R K) ∧ (¬ x2 < x3 → (wI d 217 [.ref 219, .int x3, .int x2] M ML R (fun v1 M1 L1 R1 => ((¬ v1 = 0 → ((¬ x1 = 0 → H218_22 d (x1 + (1 : Int32)) x2 (x3 + (1 : Int32)) M1 L1 R1 K) ∧ (x1 = 0 → (wV d 135 [.ref 219, .long ((x2).toInt64)] M1 L1 R1 (fun M2 L2 R2 => (wV d 135 [.ref 219, .long ((x3).toInt64)] M2 L2 R2 (fun M3 L3 R3 => H218_22 d (x1 + (1 : Int32)) x2 (x3 + (1 : Int32)) M3 L3 R3 K))))))) ∧ (v1 = 0 → H218_22 d x1 x2 (x3 + (1 : Int32)) M1 L1 R1 K))))))) : H218_22 d x1 x2 x3 M ML R K := by
  unfold H218_22
  refine mj_begin4 [14, 22] 80 rfl ?_
  refine mj_if rfl rfl (fun c => ?_) (fun c => ?_)
  · replace h := h.1 c
    refine mj_auto4 [14, 22] 80 rfl ?_
    exact mj_less h (leS (leS (leS (leN le0))))
  · replace h := h.2 c
    refine mj_auto4 [14, 22] 80 rfl ?_
    refine mj_wIv h (fm_o fm_s219) rfl rfl rfl rfl rfl ⟨rfl, rfl⟩ (fun v1 M1 L1 R1 h => ?_)
    refine mj_if rfl rfl (fun c => ?_) (fun c => ?_)
    · replace h := h.1 c
      refine mj_auto4 [14, 22] 80 rfl ?_
      refine mj_if rfl rfl (fun c => ?_) (fun c => ?_)
      · replace h := h.1 c
        refine mj_auto4 [14, 22] 80 rfl ?_
        exact h
      · replace h := h.2 (Classical.not_not.mp c)
        refine mj_auto4 [14, 22] 80 rfl ?_
        refine mj_wVv h (fm_o fm_s219) rfl rfl rfl rfl rfl ⟨rfl, rfl⟩ (fun M2 L2 R2 h => ?_)
        refine mj_auto4 [14, 22] 80 rfl ?_
        refine mj_wVv h (fm_o fm_s219) rfl rfl rfl rfl rfl ⟨rfl, rfl⟩ (fun M3 L3 R3 h => ?_)
        refine mj_auto4 [14, 22] 80 rfl ?_
        exact h
    · replace h := h.2 (Classical.not_not.mp c)
      refine mj_auto4 [14, 22] 80 rfl ?_
      exact h
set_option maxRecDepth 20000 in
theorem w218 {d : Nat} {M : Nat → Nat → Int32} {ML : Nat → Nat → Int64} {R : Nat → Nat → Option Nat} {K : wK} (h : (∀ M1, M1 = fm_u M 219 5 (0 : Int32) → (∀ M2, M2 = fm_u M1 219 4 (0 : Int32) → H218_14 d (0 : Int32) (1 : Int32) M2 ML R K))) : wI (d + 1) 218 [.ref 219] M ML R K := by
  refine mj_of _ _ rfl rfl rfl ?_
  refine mj_auto4 [14, 22] 80 rfl ?_
  refine fn_pI fm_s219 rfl rfl rfl rfl ?_
  replace h := h _ rfl
  refine mj_auto4 [14, 22] 80 rfl ?_
  refine fn_pI fm_s219 rfl rfl rfl rfl ?_
  replace h := h _ rfl
  refine mj_auto4 [14, 22] 80 rfl ?_
  exact h
def H219_13 (d : Nat) (x1 : Int32) (x2 : Int32) (x3 : Int32) (M : Nat → Nat → Int32) (ML : Nat → Nat → Int64) (R : Nat → Nat → Option Nat) (K : wK) : Prop := mj_Rn d (some .int) kX11_looks (wQ K) (fm_mk (M, ML, R)) 13 [some (.ref 219), some (.int x1), some (.int x2), some (.int x3), none, none, none, none] []
def H219_22 (d : Nat) (x1 : Int32) (x2 : Int32) (x3 : Int32) (x4 : Int32) (M : Nat → Nat → Int32) (ML : Nat → Nat → Int64) (R : Nat → Nat → Option Nat) (K : wK) : Prop := mj_Rn d (some .int) kX11_looks (wQ K) (fm_mk (M, ML, R)) 22 [some (.ref 219), some (.int x1), some (.int x2), some (.int x3), some (.int x4), none, none, none] []
def H219_50 (d : Nat) (x1 : Int32) (x2 : Int32) (x3 : Int32) (x4 : Int32) (x5 : Int32) (M : Nat → Nat → Int32) (ML : Nat → Nat → Int64) (R : Nat → Nat → Option Nat) (K : wK) : Prop := mj_Rn d (some .int) kX11_looks (wQ K) (fm_mk (M, ML, R)) 50 [some (.ref 219), some (.int x1), some (.int x2), some (.int x3), some (.int x4), some (.int x5), none, none] []
def H219_60 (d : Nat) (x1 : Int32) (x2 : Int32) (x3 : Int32) (x4 : Int32) (x5 : Int32) (x6 : Int32) (M : Nat → Nat → Int32) (ML : Nat → Nat → Int64) (R : Nat → Nat → Option Nat) (K : wK) : Prop := mj_Rn d (some .int) kX11_looks (wQ K) (fm_mk (M, ML, R)) 60 [some (.ref 219), some (.int x1), some (.int x2), some (.int x3), some (.int x4), some (.int x5), some (.int x6), none] []
set_option maxRecDepth 20000 in
theorem h219_13 {d : Nat} {x1 : Int32} {x2 : Int32} {x3 : Int32} {M : Nat → Nat → Int32} {ML : Nat → Nat → Int64} {R : Nat → Nat → Option Nat} {K : wK} (h : (((12 : Int32) < x3 → ((¬ x2 = 0 → (∀ M1, M1 = fm_u M 219 4 (0 : Int32) → (wV d 135 [.ref 219, .long ((x2).toInt64)] M1 ML R (fun M2 L2 R2 => K x1 M2 L2 R2)))) ∧ (x2 = 0 → K (-2 : Int32) M ML R))) ∧ (¬ (12 : Int32) < x3 → H219_22 d x1 x2 x3 (0 : Int32) M ML R K))) : H219_13 d x1 x2 x3 M ML R K := by
  unfold H219_13
  refine mj_begin8 [13, 22, 50, 60] 80 rfl ?_
  refine mj_if rfl rfl (fun c => ?_) (fun c => ?_)
  · replace h := h.1 c
    refine mj_auto8 [13, 22, 50, 60] 80 rfl ?_
    refine mj_if rfl rfl (fun c => ?_) (fun c => ?_)
    · replace h := h.1 c
      refine mj_auto8 [13, 22, 50, 60] 80 rfl ?_
      refine fn_pI fm_s219 rfl rfl rfl rfl ?_
      replace h := h _ rfl
      refine mj_auto8 [13, 22, 50, 60] 80 rfl ?_
      refine mj_wVv h (fm_o fm_s219) rfl rfl rfl rfl rfl ⟨rfl, rfl⟩ (fun M2 L2 R2 h => ?_)
      refine mj_auto8 [13, 22, 50, 60] 80 rfl ?_
      exact mj_rt rfl rfl rfl ⟨_, _, _, _, rfl, rfl, h⟩
    · replace h := h.2 (Classical.not_not.mp c)
      refine mj_auto8 [13, 22, 50, 60] 80 rfl ?_
      exact mj_rt rfl rfl rfl ⟨_, _, _, _, rfl, rfl, h⟩
  · replace h := h.2 c
    refine mj_auto8 [13, 22, 50, 60] 80 rfl ?_
    exact h
set_option maxRecDepth 20000 in
theorem h219_22 {d : Nat} {x1 : Int32} {x2 : Int32} {x3 : Int32} {x4 : Int32} {M : Nat → Nat → Int32} {ML : Nat → Nat → Int64} {R : Nat → Nat → Option Nat} {K : wK} (h : (((150 : Int32) < x4 → H219_50 d x1 x2 x3 (0 : Int32) (1 : Int32) M ML R K) ∧ (¬ (150 : Int32) < x4 → (∃ k1, x4 = nI k1 ∧ k1 < 151 ∧ (∀ M1, M1 = fm_u M 240 k1 (0 : Int32) → H219_22 d x1 x2 x3 (x4 + (1 : Int32)) M1 ML R K))))) : H219_22 d x1 x2 x3 x4 M ML R K := by
  unfold H219_22
  refine mj_begin8 [13, 22, 50, 60] 80 rfl ?_
  refine mj_if rfl rfl (fun c => ?_) (fun c => ?_)
  · replace h := h.1 c
    refine mj_auto8 [13, 22, 50, 60] 80 rfl ?_
    exact h
  · replace h := h.2 c
    refine mj_auto8 [13, 22, 50, 60] 80 rfl ?_
    refine fn_gR fm_s219 rfl rfl rfl ?_
    refine mj_auto8 [13, 22, 50, 60] 80 rfl ?_
    obtain ⟨k1, c, c2, h⟩ := h
    refine fn_stk c c2 rfl fm_s240 rfl ?_
    replace h := h _ rfl
    refine mj_auto8 [13, 22, 50, 60] 80 rfl ?_
    exact h
set_option maxRecDepth 20000 in
theorem h219_50 {d : Nat} {x1 : Int32} {x2 : Int32} {x3 : Int32} {x4 : Int32} {x5 : Int32} {M : Nat → Nat → Int32} {ML : Nat → Nat → Int64} {R : Nat → Nat → Option Nat} {K : wK} (h : (((12 : Int32) < x5 → ((x4 < x2 → H219_13 d x3 x4 (x3 + (1 : Int32)) M ML R K) ∧ (¬ x4 < x2 → H219_13 d x1 x2 (x3 + (1 : Int32)) M ML R K))) ∧ (¬ (12 : Int32) < x5 → H219_60 d x1 x2 x3 x4 x5 (1 : Int32) M ML R K))) : H219_50 d x1 x2 x3 x4 x5 M ML R K := by
  unfold H219_50
  refine mj_begin8 [13, 22, 50, 60] 80 rfl ?_
  refine mj_if rfl rfl (fun c => ?_) (fun c => ?_)
  · replace h := h.1 c
    refine mj_auto8 [13, 22, 50, 60] 80 rfl ?_
    refine mj_if rfl rfl (fun c => ?_) (fun c => ?_)
    · replace h := h.1 c
      refine mj_auto8 [13, 22, 50, 60] 80 rfl ?_
      exact mj_less h (leS (leS (leS (leS (leN (leN (leS (leS le0))))))))
    · replace h := h.2 c
      refine mj_auto8 [13, 22, 50, 60] 80 rfl ?_
      exact mj_less h (leS (leS (leS (leS (leN (leN (leS (leS le0))))))))
  · replace h := h.2 c
    refine mj_auto8 [13, 22, 50, 60] 80 rfl ?_
    exact h
set_option maxRecDepth 20000 in
theorem h219_60 {d : Nat} {x1 : Int32} {x2 : Int32} {x3 : Int32} {x4 : Int32} {x5 : Int32} {x6 : Int32} {M : Nat → Nat → Int32} {ML : Nat → Nat → Int64} {R : Nat → Nat → Option Nat} {K : wK} (h : ((x5 < x6 → H219_50 d x1 x2 x3 x4 (x5 + (1 : Int32)) M ML R K) ∧ (¬ x5 < x6 → (wI d 217 [.ref 219, .int x6, .int x5] M ML R (fun v1 M1 L1 R1 => ((¬ v1 = 0 → (¬ x6 = 0 ∧ (∃ k2, (((x3 - (1 : Int32)) * x5) / x6) = nI k2 ∧ k2 < 151 ∧ (∃ k3, (((x3 - (1 : Int32)) * x5) / x6) = nI k3 ∧ k3 < 151 ∧ (∀ M3, M3 = fm_u M1 240 k3 ((M1 240 k2) + (1 : Int32)) → (∃ k4, (((x3 - (1 : Int32)) * x5) / x6) = nI k4 ∧ k4 < 151 ∧ (wI d 239 [.int x4, .int (M3 240 k4)] M3 L1 R1 (fun v5 M5 L5 R5 => H219_60 d x1 x2 x3 v5 x5 (x6 + (1 : Int32)) M5 L5 R5 K)))))))) ∧ (v1 = 0 → H219_60 d x1 x2 x3 x4 x5 (x6 + (1 : Int32)) M1 L1 R1 K))))))) : H219_60 d x1 x2 x3 x4 x5 x6 M ML R K := by
  unfold H219_60
  refine mj_begin8 [13, 22, 50, 60] 80 rfl ?_
  refine mj_if rfl rfl (fun c => ?_) (fun c => ?_)
  · replace h := h.1 c
    refine mj_auto8 [13, 22, 50, 60] 80 rfl ?_
    exact mj_less h (leS (leS (leS (leS (leS (leS (leN (leS le0))))))))
  · replace h := h.2 c
    refine mj_auto8 [13, 22, 50, 60] 80 rfl ?_
    refine mj_wIv h (fm_o fm_s219) rfl rfl rfl rfl rfl ⟨rfl, rfl⟩ (fun v1 M1 L1 R1 h => ?_)
    refine mj_if rfl rfl (fun c => ?_) (fun c => ?_)
    · replace h := h.1 c
      refine mj_auto8 [13, 22, 50, 60] 80 rfl ?_
      obtain ⟨c, h⟩ := h
      refine mj_div rfl rfl c ?_
      refine mj_auto8 [13, 22, 50, 60] 80 rfl ?_
      refine fn_gR fm_s219 rfl rfl rfl ?_
      refine mj_auto8 [13, 22, 50, 60] 80 rfl ?_
      obtain ⟨k2, c, c2, h⟩ := h
      refine fn_ldk c c2 rfl fm_s240 rfl ?_
      refine mj_auto8 [13, 22, 50, 60] 80 rfl ?_
      obtain ⟨k3, c, c2, h⟩ := h
      refine fn_stk c c2 rfl fm_s240 rfl ?_
      replace h := h _ rfl
      refine mj_auto8 [13, 22, 50, 60] 80 rfl ?_
      refine fn_gR fm_s219 rfl rfl rfl ?_
      refine mj_auto8 [13, 22, 50, 60] 80 rfl ?_
      obtain ⟨k4, c, c2, h⟩ := h
      refine fn_ldk c c2 rfl fm_s240 rfl ?_
      refine mj_wIs h rfl rfl rfl rfl rfl rfl (fun v5 M5 L5 R5 h => ?_)
      refine mj_auto8 [13, 22, 50, 60] 80 rfl ?_
      exact mj_less h (leS (leS (leS (leS (leS (leS (leS (leN le0))))))))
    · replace h := h.2 (Classical.not_not.mp c)
      refine mj_auto8 [13, 22, 50, 60] 80 rfl ?_
      exact h
set_option maxRecDepth 20000 in
theorem w219 {d : Nat} {M : Nat → Nat → Int32} {ML : Nat → Nat → Int64} {R : Nat → Nat → Option Nat} {K : wK} (h : (∀ M1, M1 = fm_u M 219 5 (0 : Int32) → H219_13 d (-1 : Int32) (1000000 : Int32) (1 : Int32) M1 ML R K)) : wI (d + 1) 219 [.ref 219] M ML R K := by
  refine mj_of _ _ rfl rfl rfl ?_
  refine mj_auto8 [13, 22, 50, 60] 80 rfl ?_
  refine fn_pI fm_s219 rfl rfl rfl rfl ?_
  replace h := h _ rfl
  refine mj_auto8 [13, 22, 50, 60] 80 rfl ?_
  exact h
def H220_46 (d : Nat) (x1 : Int32) (x2 : Int32) (x3 : Int32) (x4 : Int64) (x6 : Int64) (x8 : Int32) (M : Nat → Nat → Int32) (ML : Nat → Nat → Int64) (R : Nat → Nat → Option Nat) (K : wK) : Prop := mj_Rn d (some .int) kX11_odds (wQ K) (fm_mk (M, ML, R)) 46 [some (.ref 219), some (.int x1), some (.int x2), some (.int x3), some (.long x4), none, some (.long x6), none, some (.int x8), none, none, none] []
def H220_69 (d : Nat) (x1 : Int32) (x2 : Int32) (x3 : Int32) (x4 : Int64) (x6 : Int64) (x8 : Int32) (M : Nat → Nat → Int32) (ML : Nat → Nat → Int64) (R : Nat → Nat → Option Nat) (K : wK) : Prop := mj_Rn d (some .int) kX11_odds (wQ K) (fm_mk (M, ML, R)) 69 [some (.ref 219), some (.int x1), some (.int x2), some (.int x3), some (.long x4), none, some (.long x6), none, some (.int x8), none, none, none] []
def H220_95 (d : Nat) (x1 : Int32) (x2 : Int32) (x3 : Int32) (x4 : Int64) (x6 : Int64) (x8 : Int32) (x9 : Int64) (x11 : Int32) (M : Nat → Nat → Int32) (ML : Nat → Nat → Int64) (R : Nat → Nat → Option Nat) (K : wK) : Prop := mj_Rn d (some .int) kX11_odds (wQ K) (fm_mk (M, ML, R)) 95 [some (.ref 219), some (.int x1), some (.int x2), some (.int x3), some (.long x4), none, some (.long x6), none, some (.int x8), some (.long x9), none, some (.int x11)] []
set_option maxRecDepth 20000 in
theorem h220_46 {d : Nat} {x1 : Int32} {x2 : Int32} {x3 : Int32} {x4 : Int64} {x6 : Int64} {x8 : Int32} {M : Nat → Nat → Int32} {ML : Nat → Nat → Int64} {R : Nat → Nat → Option Nat} {K : wK} (h : ((x1 ≤ x8 → H220_69 d x1 x2 x3 x4 x6 (0 : Int32) M ML R K) ∧ (¬ x1 ≤ x8 → H220_46 d x1 x2 x3 x4 (x6 * (Int64.ofNat 10)) (x8 + (1 : Int32)) M ML R K))) : H220_46 d x1 x2 x3 x4 x6 x8 M ML R K := by
  unfold H220_46
  refine mj_begin12 [46, 69, 95] 80 rfl ?_
  refine mj_if rfl rfl (fun c => ?_) (fun c => ?_)
  · replace h := h.1 c
    refine mj_auto12 [46, 69, 95] 80 rfl ?_
    exact h
  · replace h := h.2 c
    refine mj_auto12 [46, 69, 95] 80 rfl ?_
    exact h
set_option maxRecDepth 20000 in
theorem h220_69 {d : Nat} {x1 : Int32} {x2 : Int32} {x3 : Int32} {x4 : Int64} {x6 : Int64} {x8 : Int32} {M : Nat → Nat → Int32} {ML : Nat → Nat → Int64} {R : Nat → Nat → Option Nat} {K : wK} (h : ((((1 : Int32) <<< (x1 &&& 31)) ≤ x8 → (∀ M1, M1 = fm_u M 219 4 (0 : Int32) → (wV d 140 [.ref 219, .long x4, .long x6] M1 ML R (fun M2 L2 R2 => K (0 : Int32) M2 L2 R2)))) ∧ (¬ ((1 : Int32) <<< (x1 &&& 31)) ≤ x8 → (wI d 236 [.int x8] M ML R (fun v3 M3 L3 R3 => ((x2 ≤ v3 → H220_95 d x1 x2 x3 x4 x6 x8 (1 : Int64) (0 : Int32) M3 L3 R3 K) ∧ (¬ x2 ≤ v3 → H220_69 d x1 x2 x3 x4 x6 (x8 + (1 : Int32)) M3 L3 R3 K))))))) : H220_69 d x1 x2 x3 x4 x6 x8 M ML R K := by
  unfold H220_69
  refine mj_begin12 [46, 69, 95] 80 rfl ?_
  refine mj_if rfl rfl (fun c => ?_) (fun c => ?_)
  · replace h := h.1 c
    refine mj_auto12 [46, 69, 95] 80 rfl ?_
    refine fn_pI fm_s219 rfl rfl rfl rfl ?_
    replace h := h _ rfl
    refine mj_auto12 [46, 69, 95] 80 rfl ?_
    refine mj_wVv h (fm_o fm_s219) rfl rfl rfl rfl rfl ⟨rfl, rfl⟩ (fun M2 L2 R2 h => ?_)
    refine mj_auto12 [46, 69, 95] 80 rfl ?_
    exact mj_rt rfl rfl rfl ⟨_, _, _, _, rfl, rfl, h⟩
  · replace h := h.2 c
    refine mj_auto12 [46, 69, 95] 80 rfl ?_
    refine mj_wIs h rfl rfl rfl rfl rfl rfl (fun v3 M3 L3 R3 h => ?_)
    refine mj_auto12 [46, 69, 95] 80 rfl ?_
    refine mj_if rfl rfl (fun c => ?_) (fun c => ?_)
    · replace h := h.1 c
      refine mj_auto12 [46, 69, 95] 80 rfl ?_
      exact h
    · replace h := h.2 c
      refine mj_auto12 [46, 69, 95] 80 rfl ?_
      exact h
set_option maxRecDepth 20000 in
theorem h220_95 {d : Nat} {x1 : Int32} {x2 : Int32} {x3 : Int32} {x4 : Int64} {x6 : Int64} {x8 : Int32} {x9 : Int64} {x11 : Int32} {M : Nat → Nat → Int32} {ML : Nat → Nat → Int64} {R : Nat → Nat → Option Nat} {K : wK} (h : ((x1 ≤ x11 → H220_69 d x1 x2 x3 (x4 + x9) x6 (x8 + (1 : Int32)) M ML R K) ∧ (¬ x1 ≤ x11 → (wI d 133 [.int x8, .int x11] M ML R (fun v1 M1 L1 R1 => ((v1 = 0 → H220_95 d x1 x2 x3 x4 x6 x8 (x9 * ((x3).toInt64)) (x11 + (1 : Int32)) M1 L1 R1 K) ∧ (¬ v1 = 0 → H220_95 d x1 x2 x3 x4 x6 x8 (x9 * ((((10 : Int32) - x3)).toInt64)) (x11 + (1 : Int32)) M1 L1 R1 K))))))) : H220_95 d x1 x2 x3 x4 x6 x8 x9 x11 M ML R K := by
  unfold H220_95
  refine mj_begin12 [46, 69, 95] 80 rfl ?_
  refine mj_if rfl rfl (fun c => ?_) (fun c => ?_)
  · replace h := h.1 c
    refine mj_auto12 [46, 69, 95] 80 rfl ?_
    exact mj_less h (leS (leS (leS (leS (leS (leS (leS (leS (leS (leN (leS (leN le0))))))))))))
  · replace h := h.2 c
    refine mj_auto12 [46, 69, 95] 80 rfl ?_
    refine mj_wIs h rfl rfl rfl rfl rfl rfl (fun v1 M1 L1 R1 h => ?_)
    refine mj_if rfl rfl (fun c => ?_) (fun c => ?_)
    · replace h := h.1 c
      refine mj_auto12 [46, 69, 95] 80 rfl ?_
      exact h
    · replace h := h.2 c
      refine mj_auto12 [46, 69, 95] 5 rfl ?_
      refine mj_auto12 [46, 69, 95] 2 rfl ?_
      exact h
set_option maxRecDepth 20000 in
theorem w220 {d : Nat} {a1 : Int32} {a2 : Int32} {a3 : Int32} {M : Nat → Nat → Int32} {ML : Nat → Nat → Int64} {R : Nat → Nat → Option Nat} {K : wK} (h : (∀ M1, M1 = fm_u M 219 5 (0 : Int32) → (wI d 132 [.int a1, .int (0 : Int32), .int (8 : Int32)] M1 ML R (fun v2 M2 L2 R2 => ((v2 = 0 → K (-1 : Int32) M2 L2 R2) ∧ (¬ v2 = 0 → (wI d 132 [.int a2, .int (0 : Int32), .int (8 : Int32)] M2 L2 R2 (fun v3 M3 L3 R3 => ((v3 = 0 → K (-1 : Int32) M3 L3 R3) ∧ (¬ v3 = 0 → (wI d 132 [.int a3, .int (0 : Int32), .int (10 : Int32)] M3 L3 R3 (fun v4 M4 L4 R4 => ((¬ v4 = 0 → H220_46 d a1 a2 a3 (0 : Int64) (1 : Int64) (0 : Int32) M4 L4 R4 K) ∧ (v4 = 0 → K (-1 : Int32) M4 L4 R4)))))))))))))) : wI (d + 1) 220 [.ref 219, .int a1, .int a2, .int a3] M ML R K := by
  refine mj_of _ _ rfl rfl rfl ?_
  refine mj_auto12 [46, 69, 95] 80 rfl ?_
  refine fn_pI fm_s219 rfl rfl rfl rfl ?_
  replace h := h _ rfl
  refine mj_auto12 [46, 69, 95] 80 rfl ?_
  refine mj_wIs h rfl rfl rfl rfl rfl rfl (fun v2 M2 L2 R2 h => ?_)
  refine mj_if rfl rfl (fun c => ?_) (fun c => ?_)
  · replace h := h.1 c
    refine mj_auto12 [46, 69, 95] 80 rfl ?_
    exact mj_rt rfl rfl rfl ⟨_, _, _, _, rfl, rfl, h⟩
  · replace h := h.2 c
    refine mj_auto12 [46, 69, 95] 80 rfl ?_
    refine mj_wIs h rfl rfl rfl rfl rfl rfl (fun v3 M3 L3 R3 h => ?_)
    refine mj_if rfl rfl (fun c => ?_) (fun c => ?_)
    · replace h := h.1 c
      refine mj_auto12 [46, 69, 95] 80 rfl ?_
      exact mj_rt rfl rfl rfl ⟨_, _, _, _, rfl, rfl, h⟩
    · replace h := h.2 c
      refine mj_auto12 [46, 69, 95] 80 rfl ?_
      refine mj_wIs h rfl rfl rfl rfl rfl rfl (fun v4 M4 L4 R4 h => ?_)
      refine mj_if rfl rfl (fun c => ?_) (fun c => ?_)
      · replace h := h.1 c
        refine mj_auto12 [46, 69, 95] 80 rfl ?_
        exact h
      · replace h := h.2 (Classical.not_not.mp c)
        refine mj_auto12 [46, 69, 95] 80 rfl ?_
        exact mj_rt rfl rfl rfl ⟨_, _, _, _, rfl, rfl, h⟩
def H221_2 (d : Nat) (x1 : Int32) (x2 : Int32) (M : Nat → Nat → Int32) (ML : Nat → Nat → Int64) (R : Nat → Nat → Option Nat) (K : wK) : Prop := mj_Rn d (some .int) kX11_take (wQ K) (fm_mk (M, ML, R)) 2 [some (.ref 219), some (.int x1), some (.int x2)] []
set_option maxRecDepth 20000 in
theorem h221_2 {d : Nat} {x1 : Int32} {x2 : Int32} {M : Nat → Nat → Int32} {ML : Nat → Nat → Int64} {R : Nat → Nat → Option Nat} {K : wK} (h : ((x1 ≤ x2 → K (0 : Int32) M ML R) ∧ (¬ x1 ≤ x2 → (¬ x2 = 0 ∧ ((¬ (x1 - x1 / x2 * x2) = 0 → H221_2 d x1 (x2 + (1 : Int32)) M ML R K) ∧ ((x1 - x1 / x2 * x2) = 0 → (∃ k1, (x1 - x2) = nI k1 ∧ k1 < 201 ∧ ((¬ (M 241 k1) = 0 → H221_2 d x1 (x2 + (1 : Int32)) M ML R K) ∧ ((M 241 k1) = 0 → K x2 M ML R))))))))) : H221_2 d x1 x2 M ML R K := by
  unfold H221_2
  refine mj_begin3 [2] 80 rfl ?_
  refine mj_if rfl rfl (fun c => ?_) (fun c => ?_)
  · replace h := h.1 c
    refine mj_auto3 [2] 80 rfl ?_
    exact mj_rt rfl rfl rfl ⟨_, _, _, _, rfl, rfl, h⟩
  · replace h := h.2 c
    refine mj_auto3 [2] 80 rfl ?_
    obtain ⟨c, h⟩ := h
    refine mj_div rfl rfl c ?_
    refine mj_if rfl rfl (fun c => ?_) (fun c => ?_)
    · replace h := h.1 c
      refine mj_auto3 [2] 80 rfl ?_
      exact h
    · replace h := h.2 (Classical.not_not.mp c)
      refine mj_auto3 [2] 80 rfl ?_
      refine fn_gR fm_s219 rfl rfl rfl ?_
      refine mj_auto3 [2] 80 rfl ?_
      obtain ⟨k1, c, c2, h⟩ := h
      refine fn_ldkz c c2 rfl fm_s241 rfl ?_
      refine mj_if rfl rfl (fun c => ?_) (fun c => ?_)
      · replace h := h.1 c
        refine mj_auto3 [2] 80 rfl ?_
        exact h
      · replace h := h.2 (Classical.not_not.mp c)
        refine mj_auto3 [2] 80 rfl ?_
        exact mj_rt rfl rfl rfl ⟨_, _, _, _, rfl, rfl, h⟩
set_option maxRecDepth 20000 in
theorem w221 {d : Nat} {a1 : Int32} {M : Nat → Nat → Int32} {ML : Nat → Nat → Int64} {R : Nat → Nat → Option Nat} {K : wK} (h : H221_2 d a1 (1 : Int32) M ML R K) : wI (d + 1) 221 [.ref 219, .int a1] M ML R K := by
  refine mj_of _ _ rfl rfl rfl ?_
  refine mj_auto3 [2] 80 rfl ?_
  exact h
