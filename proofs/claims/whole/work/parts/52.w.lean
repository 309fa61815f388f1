def H102_21 (d : Nat) (x1 : Int32) (x2 : Int32) (M : Nat → Nat → Int32) (ML : Nat → Nat → Int64) (R : Nat → Nat → Option Nat) (K : wKv) : Prop := mj_Rn d none kX10_countPairs (wQv K) (fm_mk (M, ML, R)) 21 [some (.ref 0), some (.int x1), some (.int x2), none, none] []
def H102_40 (d : Nat) (x1 : Int32) (x2 : Int32) (x3 : Int32) (M : Nat → Nat → Int32) (ML : Nat → Nat → Int64) (R : Nat → Nat → Option Nat) (K : wKv) : Prop := mj_Rn d none kX10_countPairs (wQv K) (fm_mk (M, ML, R)) 40 [some (.ref 0), some (.int x1), some (.int x2), some (.int x3), none] []
def H102_51 (d : Nat) (x1 : Int32) (x2 : Int32) (x3 : Int32) (x4 : Int32) (M : Nat → Nat → Int32) (ML : Nat → Nat → Int64) (R : Nat → Nat → Option Nat) (K : wKv) : Prop := mj_Rn d none kX10_countPairs (wQv K) (fm_mk (M, ML, R)) 51 [some (.ref 0), some (.int x1), some (.int x2), some (.int x3), some (.int x4)] []
set_option maxRecDepth 20000 in
theorem h102_21 {d : Nat} {x1 : Int32} {x2 : Int32} {M : Nat → Nat → Int32} {ML : Nat → Nat → Int64} {R : Nat → Nat → Option Nat} {K : wKv} (h : ((x1 ≤ x2 → K M ML R) ∧ (¬ x1 ≤ x2 → (wV d 63 [.ref 23, .ref 40, .int (-1 : Int32)] M ML R (fun M1 L1 R1 => H102_40 d x1 x2 (0 : Int32) M1 L1 R1 K))))) : H102_21 d x1 x2 M ML R K := by
  unfold H102_21
  refine mj_begin5 [21, 40, 51] 80 rfl ?_
  refine mj_if rfl rfl (fun c => ?_) (fun c => ?_)
  · replace h := h.1 c
    exact mj_rtv rfl rfl ⟨_, _, _, rfl, rfl, h⟩
  · replace h := h.2 c
    refine mj_auto5 [21, 40, 51] 80 rfl ?_
    refine fn_gR fm_s0 rfl rfl rfl ?_
    refine mj_auto5 [21, 40, 51] 80 rfl ?_
    refine fn_gR fm_s0 rfl rfl rfl ?_
    refine mj_auto5 [21, 40, 51] 80 rfl ?_
    refine mj_wVv h (fm_o fm_w23) rfl rfl rfl rfl rfl ⟨rfl, rfl⟩ (fun M1 L1 R1 h => ?_)
    refine mj_auto5 [21, 40, 51] 80 rfl ?_
    exact h
set_option maxRecDepth 20000 in
theorem h102_40 {d : Nat} {x1 : Int32} {x2 : Int32} {x3 : Int32} {M : Nat → Nat → Int32} {ML : Nat → Nat → Int64} {R : Nat → Nat → Option Nat} {K : wKv} (h : (((8 : Int32) ≤ x3 → H102_21 d x1 (x2 + (1 : Int32)) M ML R K) ∧ (¬ (8 : Int32) ≤ x3 → H102_51 d x1 x2 x3 (x3 + (1 : Int32)) M ML R K))) : H102_40 d x1 x2 x3 M ML R K := by
  unfold H102_40
  refine mj_begin5 [21, 40, 51] 80 rfl ?_
  refine mj_if rfl rfl (fun c => ?_) (fun c => ?_)
  · replace h := h.1 c
    refine mj_auto5 [21, 40, 51] 80 rfl ?_
    exact mj_less h (leS (leS (leS (leN (leS le0)))))
  · replace h := h.2 c
    refine mj_auto5 [21, 40, 51] 80 rfl ?_
    exact h
set_option maxRecDepth 20000 in
theorem h102_51 {d : Nat} {x1 : Int32} {x2 : Int32} {x3 : Int32} {x4 : Int32} {M : Nat → Nat → Int32} {ML : Nat → Nat → Int64} {R : Nat → Nat → Option Nat} {K : wKv} (h : (((8 : Int32) ≤ x4 → H102_40 d x1 x2 (x3 + (1 : Int32)) M ML R K) ∧ (¬ (8 : Int32) ≤ x4 → (wI d 60 [.ref 23, .int x3] M ML R (fun v1 M1 L1 R1 => ((v1 = 0 → H102_51 d x1 x2 x3 (x4 + (1 : Int32)) M1 L1 R1 K) ∧ (¬ v1 = 0 → (wI d 60 [.ref 23, .int x4] M1 L1 R1 (fun v2 M2 L2 R2 => ((v2 = 0 → H102_51 d x1 x2 x3 (x4 + (1 : Int32)) M2 L2 R2 K) ∧ (¬ v2 = 0 → (∃ k3, ((x3 * (8 : Int32)) + x4) = nI k3 ∧ k3 < 64 ∧ (∃ k4, ((x3 * (8 : Int32)) + x4) = nI k4 ∧ k4 < 64 ∧ (∀ M4, M4 = fm_u M2 61 k4 ((M2 61 k3) + (1 : Int32)) → H102_51 d x1 x2 x3 (x4 + (1 : Int32)) M4 L2 R2 K)))))))))))))) : H102_51 d x1 x2 x3 x4 M ML R K := by
  unfold H102_51
  refine mj_begin5 [21, 40, 51] 80 rfl ?_
  refine mj_if rfl rfl (fun c => ?_) (fun c => ?_)
  · replace h := h.1 c
    refine mj_auto5 [21, 40, 51] 80 rfl ?_
    exact mj_less h (leS (leS (leS (leS (leN le0)))))
  · replace h := h.2 c
    refine mj_auto5 [21, 40, 51] 80 rfl ?_
    refine fn_gR fm_s0 rfl rfl rfl ?_
    refine mj_auto5 [21, 40, 51] 80 rfl ?_
    refine mj_wIv h (fm_o fm_w23) rfl rfl rfl rfl rfl ⟨rfl, rfl⟩ (fun v1 M1 L1 R1 h => ?_)
    refine mj_if rfl rfl (fun c => ?_) (fun c => ?_)
    · replace h := h.1 c
      refine mj_auto5 [21, 40, 51] 80 rfl ?_
      exact h
    · replace h := h.2 c
      refine mj_auto5 [21, 40, 51] 80 rfl ?_
      refine fn_gR fm_s0 rfl rfl rfl ?_
      refine mj_auto5 [21, 40, 51] 80 rfl ?_
      refine mj_wIv h (fm_o fm_w23) rfl rfl rfl rfl rfl ⟨rfl, rfl⟩ (fun v2 M2 L2 R2 h => ?_)
      refine mj_if rfl rfl (fun c => ?_) (fun c => ?_)
      · replace h := h.1 c
        refine mj_auto5 [21, 40, 51] 80 rfl ?_
        exact h
      · replace h := h.2 c
        refine mj_auto5 [21, 40, 51] 80 rfl ?_
        refine fn_gR fm_s0 rfl rfl rfl ?_
        refine mj_auto5 [21, 40, 51] 80 rfl ?_
        obtain ⟨k3, c, c2, h⟩ := h
        refine fn_ldk c c2 rfl fm_s61 rfl ?_
        refine mj_auto5 [21, 40, 51] 80 rfl ?_
        obtain ⟨k4, c, c2, h⟩ := h
        refine fn_stk c c2 rfl fm_s61 rfl ?_
        replace h := h _ rfl
        refine mj_auto5 [21, 40, 51] 80 rfl ?_
        exact h
set_option maxRecDepth 20000 in
theorem w102 {d : Nat} {a1 : Int32} {M : Nat → Nat → Int32} {ML : Nat → Nat → Int64} {R : Nat → Nat → Option Nat} {K : wKv} (h : (wV d 242 [.ref 61, .int (0 : Int32)] M ML R (fun M1 L1 R1 => (wV d 48 [.ref 23, .ref 1] M1 L1 R1 (fun M2 L2 R2 => H102_21 d a1 (0 : Int32) M2 L2 R2 K))))) : wV (d + 1) 102 [.ref 0, .int a1] M ML R K := by
  refine mj_of _ _ rfl rfl rfl ?_
  refine mj_auto5 [21, 40, 51] 80 rfl ?_
  refine fn_gR fm_s0 rfl rfl rfl ?_
  refine mj_auto5 [21, 40, 51] 80 rfl ?_
  refine mj_wVs h rfl rfl rfl rfl rfl rfl (fun M1 L1 R1 h => ?_)
  refine mj_auto5 [21, 40, 51] 80 rfl ?_
  refine fn_gR fm_s0 rfl rfl rfl ?_
  refine mj_auto5 [21, 40, 51] 80 rfl ?_
  refine fn_gR fm_s0 rfl rfl rfl ?_
  refine mj_wVv h (fm_o fm_w23) rfl rfl rfl rfl rfl ⟨rfl, rfl⟩ (fun M2 L2 R2 h => ?_)
  refine mj_auto5 [21, 40, 51] 80 rfl ?_
  exact h
def H103_46 (d : Nat) (x1 : Int32) (x2 : Int32) (M : Nat → Nat → Int32) (ML : Nat → Nat → Int64) (R : Nat → Nat → Option Nat) (K : wK) : Prop := mj_Rn d (some .int) kX10_lags (wQ K) (fm_mk (M, ML, R)) 46 [some (.ref 0), some (.int x1), some (.int x2), none] []
def H103_65 (d : Nat) (x1 : Int32) (x2 : Int32) (x3 : Int32) (M : Nat → Nat → Int32) (ML : Nat → Nat → Int64) (R : Nat → Nat → Option Nat) (K : wK) : Prop := mj_Rn d (some .int) kX10_lags (wQ K) (fm_mk (M, ML, R)) 65 [some (.ref 0), some (.int x1), some (.int x2), some (.int x3)] []
set_option maxRecDepth 20000 in
theorem h103_46 {d : Nat} {x1 : Int32} {x2 : Int32} {M : Nat → Nat → Int32} {ML : Nat → Nat → Int64} {R : Nat → Nat → Option Nat} {K : wK} (h : ((x1 < x2 → (wV d 15 [.ref 44] M ML R (fun M1 L1 R1 => (wV d 16 [.ref 44, .long (((M1 53 1)).toInt64)] M1 L1 R1 (fun M2 L2 R2 => (wV d 17 [.ref 44, .long (L2 53 2), .long (L2 53 3)] M2 L2 R2 (fun M3 L3 R3 => (wV d 17 [.ref 44, .long (L3 53 4), .long (L3 53 5)] M3 L3 R3 (fun M4 L4 R4 => K (M4 53 0) M4 L4 R4))))))))) ∧ (¬ x1 < x2 → (wV d 63 [.ref 23, .ref 40, .int (-1 : Int32)] M ML R (fun M5 L5 R5 => H103_65 d x1 x2 (0 : Int32) M5 L5 R5 K))))) : H103_46 d x1 x2 M ML R K := by
  unfold H103_46
  refine mj_begin4 [46, 65] 80 rfl ?_
  refine mj_if rfl rfl (fun c => ?_) (fun c => ?_)
  · replace h := h.1 c
    refine mj_auto4 [46, 65] 80 rfl ?_
    refine fn_gR fm_s0 rfl rfl rfl ?_
    refine mj_wVv h (fm_o fm_s44) rfl rfl rfl rfl rfl ⟨rfl, rfl⟩ (fun M1 L1 R1 h => ?_)
    refine mj_auto4 [46, 65] 80 rfl ?_
    refine fn_gR fm_s0 rfl rfl rfl ?_
    refine mj_auto4 [46, 65] 80 rfl ?_
    refine fn_gR fm_s0 rfl rfl rfl ?_
    refine fn_gI fm_s53 rfl rfl rfl ?_
    refine mj_auto4 [46, 65] 80 rfl ?_
    refine mj_wVv h (fm_o fm_s44) rfl rfl rfl rfl rfl ⟨rfl, rfl⟩ (fun M2 L2 R2 h => ?_)
    refine mj_auto4 [46, 65] 80 rfl ?_
    refine fn_gR fm_s0 rfl rfl rfl ?_
    refine mj_auto4 [46, 65] 80 rfl ?_
    refine fn_gR fm_s0 rfl rfl rfl ?_
    refine fn_gL fm_s53 rfl rfl rfl ?_
    refine mj_auto4 [46, 65] 80 rfl ?_
    refine fn_gR fm_s0 rfl rfl rfl ?_
    refine fn_gL fm_s53 rfl rfl rfl ?_
    refine mj_wVv h (fm_o fm_s44) rfl rfl rfl rfl rfl ⟨rfl, rfl⟩ (fun M3 L3 R3 h => ?_)
    refine mj_auto4 [46, 65] 80 rfl ?_
    refine fn_gR fm_s0 rfl rfl rfl ?_
    refine mj_auto4 [46, 65] 80 rfl ?_
    refine fn_gR fm_s0 rfl rfl rfl ?_
    refine fn_gL fm_s53 rfl rfl rfl ?_
    refine mj_auto4 [46, 65] 80 rfl ?_
    refine fn_gR fm_s0 rfl rfl rfl ?_
    refine fn_gL fm_s53 rfl rfl rfl ?_
    refine mj_wVv h (fm_o fm_s44) rfl rfl rfl rfl rfl ⟨rfl, rfl⟩ (fun M4 L4 R4 h => ?_)
    refine mj_auto4 [46, 65] 80 rfl ?_
    refine fn_gR fm_s0 rfl rfl rfl ?_
    refine fn_gI fm_s53 rfl rfl rfl ?_
    exact mj_rt rfl rfl rfl ⟨_, _, _, _, rfl, rfl, h⟩
  · replace h := h.2 c
    refine mj_auto4 [46, 65] 80 rfl ?_
    refine fn_gR fm_s0 rfl rfl rfl ?_
    refine mj_auto4 [46, 65] 80 rfl ?_
    refine fn_gR fm_s0 rfl rfl rfl ?_
    refine mj_auto4 [46, 65] 80 rfl ?_
    refine mj_wVv h (fm_o fm_w23) rfl rfl rfl rfl rfl ⟨rfl, rfl⟩ (fun M5 L5 R5 h => ?_)
    refine mj_auto4 [46, 65] 80 rfl ?_
    exact h
set_option maxRecDepth 20000 in
theorem h103_65 {d : Nat} {x1 : Int32} {x2 : Int32} {x3 : Int32} {M : Nat → Nat → Int32} {ML : Nat → Nat → Int64} {R : Nat → Nat → Option Nat} {K : wK} (h : (((8 : Int32) ≤ x3 → H103_46 d x1 (x2 + (1 : Int32)) M ML R K) ∧ (¬ (8 : Int32) ≤ x3 → (wI d 49 [.ref 23, .int x3] M ML R (fun v1 M1 L1 R1 => ((v1 = 0 → H103_65 d x1 x2 (x3 + (1 : Int32)) M1 L1 R1 K) ∧ (¬ v1 = 0 → (wI d 71 [.ref 23, .int x3] M1 L1 R1 (fun v2 M2 L2 R2 => (∃ k3, x3 = nI k3 ∧ k3 < 8 ∧ (wV d 1 [.ref 53, .int x3, .int x2, .long ((v2).toInt64), .long (((M2 25 k3)).toInt64)] M2 L2 R2 (fun M4 L4 R4 => H103_65 d x1 x2 (x3 + (1 : Int32)) M4 L4 R4 K)))))))))))) : H103_65 d x1 x2 x3 M ML R K := by
  unfold H103_65
  refine mj_begin4 [46, 65] 80 rfl ?_
  refine mj_if rfl rfl (fun c => ?_) (fun c => ?_)
  · replace h := h.1 c
    refine mj_auto4 [46, 65] 80 rfl ?_
    exact mj_less h (leS (leS (leS (leN le0))))
  · replace h := h.2 c
    refine mj_auto4 [46, 65] 80 rfl ?_
    refine fn_gR fm_s0 rfl rfl rfl ?_
    refine mj_auto4 [46, 65] 80 rfl ?_
    refine mj_wIv h (fm_o fm_w23) rfl rfl rfl rfl rfl ⟨rfl, rfl⟩ (fun v1 M1 L1 R1 h => ?_)
    refine mj_if rfl rfl (fun c => ?_) (fun c => ?_)
    · replace h := h.1 c
      refine mj_auto4 [46, 65] 80 rfl ?_
      exact h
    · replace h := h.2 c
      refine mj_auto4 [46, 65] 80 rfl ?_
      refine fn_gR fm_s0 rfl rfl rfl ?_
      refine mj_auto4 [46, 65] 80 rfl ?_
      refine fn_gR fm_s0 rfl rfl rfl ?_
      refine mj_auto4 [46, 65] 80 rfl ?_
      refine mj_wIv h (fm_o fm_w23) rfl rfl rfl rfl rfl ⟨rfl, rfl⟩ (fun v2 M2 L2 R2 h => ?_)
      refine mj_auto4 [46, 65] 80 rfl ?_
      refine fn_gR fm_s0 rfl rfl rfl ?_
      refine fn_gR fm_w23 rfl rfl rfl ?_
      refine mj_auto4 [46, 65] 80 rfl ?_
      obtain ⟨k3, c, c2, h⟩ := h
      refine fn_ldk c c2 rfl fm_v25 rfl ?_
      refine mj_auto4 [46, 65] 80 rfl ?_
      refine mj_wVv h (fm_o fm_s53) rfl rfl rfl rfl rfl ⟨rfl, rfl⟩ (fun M4 L4 R4 h => ?_)
      refine mj_auto4 [46, 65] 80 rfl ?_
      exact h
set_option maxRecDepth 20000 in
theorem w103 {d : Nat} {a1 : Int32} {M : Nat → Nat → Int32} {ML : Nat → Nat → Int64} {R : Nat → Nat → Option Nat} {K : wK} (h : ((a1 < (1 : Int32) → K (-1 : Int32) M ML R) ∧ (¬ a1 < (1 : Int32) → ((a1 ≤ (60 : Int32) → (wI d 50 [.ref 1] M ML R (fun v1 M1 L1 R1 => ((¬ v1 = 0 → (wV d 0 [.ref 53] M1 L1 R1 (fun M2 L2 R2 => (wV d 48 [.ref 23, .ref 1] M2 L2 R2 (fun M3 L3 R3 => H103_46 d a1 (1 : Int32) M3 L3 R3 K))))) ∧ (v1 = 0 → K (-2 : Int32) M1 L1 R1))))) ∧ (¬ a1 ≤ (60 : Int32) → K (-1 : Int32) M ML R))))) : wI (d + 1) 103 [.ref 0, .int a1] M ML R K := by
  refine mj_of _ _ rfl rfl rfl ?_
  refine mj_auto4 [46, 65] 80 rfl ?_
  refine mj_if rfl rfl (fun c => ?_) (fun c => ?_)
  · replace h := h.1 c
    refine mj_auto4 [46, 65] 80 rfl ?_
    exact mj_rt rfl rfl rfl ⟨_, _, _, _, rfl, rfl, h⟩
  · replace h := h.2 c
    refine mj_auto4 [46, 65] 80 rfl ?_
    refine mj_if rfl rfl (fun c => ?_) (fun c => ?_)
    · replace h := h.1 c
      refine mj_auto4 [46, 65] 80 rfl ?_
      refine fn_gR fm_s0 rfl rfl rfl ?_
      refine mj_wIv h (fm_o fm_w1) rfl rfl rfl rfl rfl ⟨rfl, rfl⟩ (fun v1 M1 L1 R1 h => ?_)
      refine mj_if rfl rfl (fun c => ?_) (fun c => ?_)
      · replace h := h.1 c
        refine mj_auto4 [46, 65] 80 rfl ?_
        refine fn_gR fm_s0 rfl rfl rfl ?_
        refine mj_wVv h (fm_o fm_s53) rfl rfl rfl rfl rfl ⟨rfl, rfl⟩ (fun M2 L2 R2 h => ?_)
        refine mj_auto4 [46, 65] 80 rfl ?_
        refine fn_gR fm_s0 rfl rfl rfl ?_
        refine mj_auto4 [46, 65] 80 rfl ?_
        refine fn_gR fm_s0 rfl rfl rfl ?_
        refine mj_wVv h (fm_o fm_w23) rfl rfl rfl rfl rfl ⟨rfl, rfl⟩ (fun M3 L3 R3 h => ?_)
        refine mj_auto4 [46, 65] 80 rfl ?_
        exact h
      · replace h := h.2 (Classical.not_not.mp c)
        refine mj_auto4 [46, 65] 80 rfl ?_
        exact mj_rt rfl rfl rfl ⟨_, _, _, _, rfl, rfl, h⟩
    · replace h := h.2 c
      refine mj_auto4 [46, 65] 80 rfl ?_
      exact mj_rt rfl rfl rfl ⟨_, _, _, _, rfl, rfl, h⟩
set_option maxRecDepth 20000 in
theorem w104 {d : Nat} {a1 : Int32} {M : Nat → Nat → Int32} {ML : Nat → Nat → Int64} {R : Nat → Nat → Option Nat} {K : wK} (h : ((a1 < (1 : Int32) → K (-1 : Int32) M ML R) ∧ (¬ a1 < (1 : Int32) → ((a1 ≤ (8 : Int32) → (wI d 34 [.ref 54, .ref 1, .int a1] M ML R (fun v1 M1 L1 R1 => (wV d 15 [.ref 44] M1 L1 R1 (fun M2 L2 R2 => (wV d 16 [.ref 44, .long ((v1).toInt64)] M2 L2 R2 (fun M3 L3 R3 => (wI d 36 [.ref 54, .int (M3 1 10)] M3 L3 R3 (fun v4 M4 L4 R4 => K v4 M4 L4 R4))))))))) ∧ (¬ a1 ≤ (8 : Int32) → K (-1 : Int32) M ML R))))) : wI (d + 1) 104 [.ref 0, .int a1] M ML R K := by
  refine mj_of _ _ rfl rfl rfl ?_
  refine mj_auto3 [] 80 rfl ?_
  refine mj_if rfl rfl (fun c => ?_) (fun c => ?_)
  · replace h := h.1 c
    refine mj_auto3 [] 80 rfl ?_
    exact mj_rt rfl rfl rfl ⟨_, _, _, _, rfl, rfl, h⟩
  · replace h := h.2 c
    refine mj_auto3 [] 80 rfl ?_
    refine mj_if rfl rfl (fun c => ?_) (fun c => ?_)
    · replace h := h.1 c
      refine mj_auto3 [] 80 rfl ?_
      refine fn_gR fm_s0 rfl rfl rfl ?_
      refine mj_auto3 [] 80 rfl ?_
      refine fn_gR fm_s0 rfl rfl rfl ?_
      refine mj_auto3 [] 80 rfl ?_
      refine mj_wIv h (fm_o fm_s54) rfl rfl rfl rfl rfl ⟨rfl, rfl⟩ (fun v1 M1 L1 R1 h => ?_)
      refine mj_auto3 [] 80 rfl ?_
      refine fn_gR fm_s0 rfl rfl rfl ?_
      refine mj_wVv h (fm_o fm_s44) rfl rfl rfl rfl rfl ⟨rfl, rfl⟩ (fun M2 L2 R2 h => ?_)
      refine mj_auto3 [] 80 rfl ?_
      refine fn_gR fm_s0 rfl rfl rfl ?_
      refine mj_auto3 [] 80 rfl ?_
      refine mj_wVv h (fm_o fm_s44) rfl rfl rfl rfl rfl ⟨rfl, rfl⟩ (fun M3 L3 R3 h => ?_)
      refine mj_auto3 [] 80 rfl ?_
      refine fn_gR fm_s0 rfl rfl rfl ?_
      refine mj_auto3 [] 80 rfl ?_
      refine fn_gR fm_s0 rfl rfl rfl ?_
      refine fn_gI fm_w1 rfl rfl rfl ?_
      refine mj_wIv h (fm_o fm_s54) rfl rfl rfl rfl rfl ⟨rfl, rfl⟩ (fun v4 M4 L4 R4 h => ?_)
      exact mj_rt rfl rfl rfl ⟨_, _, _, _, rfl, rfl, h⟩
    · replace h := h.2 c
      refine mj_auto3 [] 80 rfl ?_
      exact mj_rt rfl rfl rfl ⟨_, _, _, _, rfl, rfl, h⟩
def H105_18 (d : Nat) (x1 : Int32) (x2 : Int32) (x3 : Int32) (M : Nat → Nat → Int32) (ML : Nat → Nat → Int64) (R : Nat → Nat → Option Nat) (K : wK) : Prop := mj_Rn d (some .int) kX10_waits (wQ K) (fm_mk (M, ML, R)) 18 [some (.ref 0), some (.int x1), some (.int x2), some (.int x3)] []
set_option maxRecDepth 20000 in
theorem h105_18 {d : Nat} {x1 : Int32} {x2 : Int32} {x3 : Int32} {M : Nat → Nat → Int32} {ML : Nat → Nat → Int64} {R : Nat → Nat → Option Nat} {K : wK} (h : (((12 : Int32) < x3 → K x2 M ML R) ∧ (¬ (12 : Int32) < x3 → (wI d 106 [.ref 0, .int x1, .int x3] M ML R (fun v1 M1 L1 R1 => ((v1 = 0 → H105_18 d x1 x3 (x3 + (1 : Int32)) M1 L1 R1 K) ∧ (¬ v1 = 0 → K x2 M1 L1 R1))))))) : H105_18 d x1 x2 x3 M ML R K := by
  unfold H105_18
  refine mj_begin4 [18] 80 rfl ?_
  refine mj_if rfl rfl (fun c => ?_) (fun c => ?_)
  · replace h := h.1 c
    refine mj_auto4 [18] 80 rfl ?_
    exact mj_rt rfl rfl rfl ⟨_, _, _, _, rfl, rfl, h⟩
  · replace h := h.2 c
    refine mj_auto4 [18] 80 rfl ?_
    refine mj_wIv h (fm_o fm_s0) rfl rfl rfl rfl rfl ⟨rfl, rfl⟩ (fun v1 M1 L1 R1 h => ?_)
    refine mj_if rfl rfl (fun c => ?_) (fun c => ?_)
    · replace h := h.1 c
      refine mj_auto4 [18] 80 rfl ?_
      exact h
    · replace h := h.2 c
      refine mj_auto4 [18] 80 rfl ?_
      exact mj_rt rfl rfl rfl ⟨_, _, _, _, rfl, rfl, h⟩
set_option maxRecDepth 20000 in
theorem w105 {d : Nat} {a1 : Int32} {M : Nat → Nat → Int32} {ML : Nat → Nat → Int64} {R : Nat → Nat → Option Nat} {K : wK} (h : (wI d 49 [.ref 1, .int a1] M ML R (fun v1 M1 L1 R1 => ((¬ v1 = 0 → H105_18 d a1 (-2 : Int32) (0 : Int32) M1 L1 R1 K) ∧ (v1 = 0 → K (-1 : Int32) M1 L1 R1))))) : wI (d + 1) 105 [.ref 0, .int a1] M ML R K := by
  refine mj_of _ _ rfl rfl rfl ?_
  refine mj_auto4 [18] 80 rfl ?_
  refine fn_gR fm_s0 rfl rfl rfl ?_
  refine mj_auto4 [18] 80 rfl ?_
  refine mj_wIv h (fm_o fm_w1) rfl rfl rfl rfl rfl ⟨rfl, rfl⟩ (fun v1 M1 L1 R1 h => ?_)
  refine mj_if rfl rfl (fun c => ?_) (fun c => ?_)
  · replace h := h.1 c
    refine mj_auto4 [18] 80 rfl ?_
    exact h
  · replace h := h.2 (Classical.not_not.mp c)
    refine mj_auto4 [18] 80 rfl ?_
    exact mj_rt rfl rfl rfl ⟨_, _, _, _, rfl, rfl, h⟩
def H107_30 (d : Nat) (x1 : Int32) (x2 : Int32) (x3 : Int32) (x4 : Int32) (x5 : Int32) (M : Nat → Nat → Int32) (ML : Nat → Nat → Int64) (R : Nat → Nat → Option Nat) (K : wK) : Prop := mj_Rn d (some .int) kX10_room (wQ K) (fm_mk (M, ML, R)) 30 [some (.ref 0), some (.int x1), some (.int x2), some (.int x3), some (.int x4), some (.int x5), none, none] []
def H107_40 (d : Nat) (x1 : Int32) (x2 : Int32) (x3 : Int32) (x4 : Int32) (x5 : Int32) (x6 : Int32) (M : Nat → Nat → Int32) (ML : Nat → Nat → Int64) (R : Nat → Nat → Option Nat) (K : wK) : Prop := mj_Rn d (some .int) kX10_room (wQ K) (fm_mk (M, ML, R)) 40 [some (.ref 0), some (.int x1), some (.int x2), some (.int x3), some (.int x4), some (.int x5), some (.int x6), none] []
set_option maxRecDepth 20000 in
theorem h107_30 {d : Nat} {x1 : Int32} {x2 : Int32} {x3 : Int32} {x4 : Int32} {x5 : Int32} {M : Nat → Nat → Int32} {ML : Nat → Nat → Int64} {R : Nat → Nat → Option Nat} {K : wK} (h : (((12 : Int32) < x5 → ((x2 = 0 → K (-2 : Int32) M ML R) ∧ (¬ x2 = 0 → (wI d 51 [.ref 1] M ML R (fun v1 M1 L1 R1 => ((¬ v1 = (-1 : Int32) → (wV d 15 [.ref 44] M1 L1 R1 (fun M2 L2 R2 => (wV d 16 [.ref 44, .long ((x3).toInt64)] M2 L2 R2 (fun M3 L3 R3 => (wV d 16 [.ref 44, .long ((x4).toInt64)] M3 L3 R3 (fun M4 L4 R4 => K (0 : Int32) M4 L4 R4))))))) ∧ (v1 = (-1 : Int32) → K (-2 : Int32) M1 L1 R1))))))) ∧ (¬ (12 : Int32) < x5 → H107_40 d x1 x2 x3 x4 x5 (1 : Int32) M ML R K))) : H107_30 d x1 x2 x3 x4 x5 M ML R K := by
  unfold H107_30
  refine mj_begin8 [30, 40] 80 rfl ?_
  refine mj_if rfl rfl (fun c => ?_) (fun c => ?_)
  · replace h := h.1 c
    refine mj_auto8 [30, 40] 80 rfl ?_
    refine mj_if rfl rfl (fun c => ?_) (fun c => ?_)
    · replace h := h.1 c
      refine mj_auto8 [30, 40] 80 rfl ?_
      exact mj_rt rfl rfl rfl ⟨_, _, _, _, rfl, rfl, h⟩
    · replace h := h.2 c
      refine mj_auto8 [30, 40] 80 rfl ?_
      refine fn_gR fm_s0 rfl rfl rfl ?_
      refine mj_wIv h (fm_o fm_w1) rfl rfl rfl rfl rfl ⟨rfl, rfl⟩ (fun v1 M1 L1 R1 h => ?_)
      refine mj_auto8 [30, 40] 80 rfl ?_
      refine mj_if rfl rfl (fun c => ?_) (fun c => ?_)
      · replace h := h.1 c
        refine mj_auto8 [30, 40] 80 rfl ?_
        refine fn_gR fm_s0 rfl rfl rfl ?_
        refine mj_wVv h (fm_o fm_s44) rfl rfl rfl rfl rfl ⟨rfl, rfl⟩ (fun M2 L2 R2 h => ?_)
        refine mj_auto8 [30, 40] 80 rfl ?_
        refine fn_gR fm_s0 rfl rfl rfl ?_
        refine mj_auto8 [30, 40] 80 rfl ?_
        refine mj_wVv h (fm_o fm_s44) rfl rfl rfl rfl rfl ⟨rfl, rfl⟩ (fun M3 L3 R3 h => ?_)
        refine mj_auto8 [30, 40] 80 rfl ?_
        refine fn_gR fm_s0 rfl rfl rfl ?_
        refine mj_auto8 [30, 40] 80 rfl ?_
        refine mj_wVv h (fm_o fm_s44) rfl rfl rfl rfl rfl ⟨rfl, rfl⟩ (fun M4 L4 R4 h => ?_)
        refine mj_auto8 [30, 40] 80 rfl ?_
        exact mj_rt rfl rfl rfl ⟨_, _, _, _, rfl, rfl, h⟩
      · replace h := h.2 (Classical.not_not.mp c)
        refine mj_auto8 [30, 40] 80 rfl ?_
        exact mj_rt rfl rfl rfl ⟨_, _, _, _, rfl, rfl, h⟩
  · replace h := h.2 c
    refine mj_auto8 [30, 40] 80 rfl ?_
    exact h
set_option maxRecDepth 20000 in
theorem h107_40 {d : Nat} {x1 : Int32} {x2 : Int32} {x3 : Int32} {x4 : Int32} {x5 : Int32} {x6 : Int32} {M : Nat → Nat → Int32} {ML : Nat → Nat → Int64} {R : Nat → Nat → Option Nat} {K : wK} (h : ((x5 < x6 → H107_30 d x1 x2 x3 x4 (x5 + (1 : Int32)) M ML R K) ∧ (¬ x5 < x6 → (¬ x5 = 0 ∧ ((x1 < (x6 * ((27720 : Int32) / x5)) → H107_40 d x1 x2 x3 x4 x5 (x6 + (1 : Int32)) M ML R K) ∧ (¬ x1 < (x6 * ((27720 : Int32) / x5)) → (((x6 * ((27720 : Int32) / x5)) ≤ x2 → H107_40 d x1 x2 x3 x4 x5 (x6 + (1 : Int32)) M ML R K) ∧ (¬ (x6 * ((27720 : Int32) / x5)) ≤ x2 → H107_40 d x1 (x6 * ((27720 : Int32) / x5)) x6 x5 x5 (x6 + (1 : Int32)) M ML R K)))))))) : H107_40 d x1 x2 x3 x4 x5 x6 M ML R K := by
  unfold H107_40
  refine mj_begin8 [30, 40] 80 rfl ?_
  refine mj_if rfl rfl (fun c => ?_) (fun c => ?_)
  · replace h := h.1 c
    refine mj_auto8 [30, 40] 80 rfl ?_
    exact mj_less h (leS (leS (leS (leS (leS (leS (leN (leS le0))))))))
  · replace h := h.2 c
    refine mj_auto8 [30, 40] 80 rfl ?_
    obtain ⟨c, h⟩ := h
    refine mj_div rfl rfl c ?_
    refine mj_auto8 [30, 40] 80 rfl ?_
    refine mj_if rfl rfl (fun c => ?_) (fun c => ?_)
    · replace h := h.1 c
      refine mj_auto8 [30, 40] 80 rfl ?_
      exact mj_less h (leS (leS (leS (leS (leS (leS (leS (leN le0))))))))
    · replace h := h.2 c
      refine mj_auto8 [30, 40] 80 rfl ?_
      refine mj_if rfl rfl (fun c => ?_) (fun c => ?_)
      · replace h := h.1 c
        refine mj_auto8 [30, 40] 80 rfl ?_
        exact mj_less h (leS (leS (leS (leS (leS (leS (leS (leN le0))))))))
      · replace h := h.2 c
        refine mj_auto8 [30, 40] 80 rfl ?_
        exact mj_less h (leS (leS (leS (leS (leS (leS (leS (leN le0))))))))
set_option maxRecDepth 20000 in
theorem w107 {d : Nat} {M : Nat → Nat → Int32} {ML : Nat → Nat → Int64} {R : Nat → Nat → Option Nat} {K : wK} (h : (wI d 69 [.ref 1] M ML R (fun v1 M1 L1 R1 => H107_30 d (((M 1 10) * (27720 : Int32)) - v1) (0 : Int32) (0 : Int32) (0 : Int32) (1 : Int32) M1 L1 R1 K))) : wI (d + 1) 107 [.ref 0] M ML R K := by
  refine mj_of _ _ rfl rfl rfl ?_
  refine mj_auto8 [30, 40] 80 rfl ?_
  refine fn_gR fm_s0 rfl rfl rfl ?_
  refine fn_gI fm_w1 rfl rfl rfl ?_
  refine mj_auto8 [30, 40] 80 rfl ?_
  refine fn_gR fm_s0 rfl rfl rfl ?_
  refine mj_wIv h (fm_o fm_w1) rfl rfl rfl rfl rfl ⟨rfl, rfl⟩ (fun v1 M1 L1 R1 h => ?_)
  refine mj_auto8 [30, 40] 80 rfl ?_
  exact h
def H108_43 (d : Nat) (x1 : Int32) (x2 : Int32) (x3 : Int32) (x4 : Int32) (x5 : Int32) (x6 : Int32) (M : Nat → Nat → Int32) (ML : Nat → Nat → Int64) (R : Nat → Nat → Option Nat) (K : wK) : Prop := mj_Rn d (some .int) kX10_fewest (wQ K) (fm_mk (M, ML, R)) 43 [some (.ref 0), some (.int x1), some (.int x2), some (.int x3), some (.int x4), some (.int x5), some (.int x6), none] []
set_option maxRecDepth 20000 in
theorem h108_43 {d : Nat} {x1 : Int32} {x2 : Int32} {x3 : Int32} {x4 : Int32} {x5 : Int32} {x6 : Int32} {M : Nat → Nat → Int32} {ML : Nat → Nat → Int64} {R : Nat → Nat → Option Nat} {K : wK} (h : (((8 : Int32) ≤ x6 → (wV d 15 [.ref 44] M ML R (fun M1 L1 R1 => (wV d 16 [.ref 44, .long ((x5).toInt64)] M1 L1 R1 (fun M2 L2 R2 => K x1 M2 L2 R2))))) ∧ (¬ (8 : Int32) ≤ x6 → ((x3 = 0 → (wV d 15 [.ref 44] M ML R (fun M3 L3 R3 => (wV d 16 [.ref 44, .long ((x5).toInt64)] M3 L3 R3 (fun M4 L4 R4 => K x1 M4 L4 R4))))) ∧ (¬ x3 = 0 → ((x2 < x4 → (wV d 15 [.ref 44] M ML R (fun M5 L5 R5 => (wV d 16 [.ref 44, .long ((x5).toInt64)] M5 L5 R5 (fun M6 L6 R6 => K x1 M6 L6 R6))))) ∧ (¬ x2 < x4 → (wI d 70 [.ref 1, .int x3] M ML R (fun v7 M7 L7 R7 => ((v7 = (-1 : Int32) → H108_43 d x1 x2 x3 x4 x5 (x6 + (1 : Int32)) M7 L7 R7 K) ∧ (¬ v7 = (-1 : Int32) → (∃ k8, v7 = nI k8 ∧ k8 < 8 ∧ H108_43 d x1 x2 (x3 &&& (((1 : Int32) <<< (v7 &&& 31)) ^^^ (-1 : Int32))) (x4 + (M7 4 k8)) (x5 + (1 : Int32)) (x6 + (1 : Int32)) M7 L7 R7 K)))))))))))) : H108_43 d x1 x2 x3 x4 x5 x6 M ML R K := by
  unfold H108_43
  refine mj_begin8 [43] 80 rfl ?_
  refine mj_if rfl rfl (fun c => ?_) (fun c => ?_)
  · replace h := h.1 c
    refine mj_auto8 [43] 80 rfl ?_
    refine fn_gR fm_s0 rfl rfl rfl ?_
    refine mj_wVv h (fm_o fm_s44) rfl rfl rfl rfl rfl ⟨rfl, rfl⟩ (fun M1 L1 R1 h => ?_)
    refine mj_auto8 [43] 80 rfl ?_
    refine fn_gR fm_s0 rfl rfl rfl ?_
    refine mj_auto8 [43] 80 rfl ?_
    refine mj_wVv h (fm_o fm_s44) rfl rfl rfl rfl rfl ⟨rfl, rfl⟩ (fun M2 L2 R2 h => ?_)
    refine mj_auto8 [43] 80 rfl ?_
    exact mj_rt rfl rfl rfl ⟨_, _, _, _, rfl, rfl, h⟩
  · replace h := h.2 c
    refine mj_auto8 [43] 80 rfl ?_
    refine mj_if rfl rfl (fun c => ?_) (fun c => ?_)
    · replace h := h.1 c
      refine mj_auto8 [43] 80 rfl ?_
      refine fn_gR fm_s0 rfl rfl rfl ?_
      refine mj_wVv h (fm_o fm_s44) rfl rfl rfl rfl rfl ⟨rfl, rfl⟩ (fun M3 L3 R3 h => ?_)
      refine mj_auto8 [43] 80 rfl ?_
      refine fn_gR fm_s0 rfl rfl rfl ?_
      refine mj_auto8 [43] 80 rfl ?_
      refine mj_wVv h (fm_o fm_s44) rfl rfl rfl rfl rfl ⟨rfl, rfl⟩ (fun M4 L4 R4 h => ?_)
      refine mj_auto8 [43] 80 rfl ?_
      exact mj_rt rfl rfl rfl ⟨_, _, _, _, rfl, rfl, h⟩
    · replace h := h.2 c
      refine mj_auto8 [43] 80 rfl ?_
      refine mj_if rfl rfl (fun c => ?_) (fun c => ?_)
      · replace h := h.1 c
        refine mj_auto8 [43] 80 rfl ?_
        refine fn_gR fm_s0 rfl rfl rfl ?_
        refine mj_wVv h (fm_o fm_s44) rfl rfl rfl rfl rfl ⟨rfl, rfl⟩ (fun M5 L5 R5 h => ?_)
        refine mj_auto8 [43] 80 rfl ?_
        refine fn_gR fm_s0 rfl rfl rfl ?_
        refine mj_auto8 [43] 80 rfl ?_
        refine mj_wVv h (fm_o fm_s44) rfl rfl rfl rfl rfl ⟨rfl, rfl⟩ (fun M6 L6 R6 h => ?_)
        refine mj_auto8 [43] 80 rfl ?_
        exact mj_rt rfl rfl rfl ⟨_, _, _, _, rfl, rfl, h⟩
      · replace h := h.2 c
        refine mj_auto8 [43] 80 rfl ?_
        refine fn_gR fm_s0 rfl rfl rfl ?_
        refine mj_auto8 [43] 80 rfl ?_
        refine mj_wIv h (fm_o fm_w1) rfl rfl rfl rfl rfl ⟨rfl, rfl⟩ (fun v7 M7 L7 R7 h => ?_)
        refine mj_auto8 [43] 80 rfl ?_
        refine mj_if rfl rfl (fun c => ?_) (fun c => ?_)
        · replace h := h.1 c
          refine mj_auto8 [43] 80 rfl ?_
          exact mj_less h (leS (leS (leS (leS (leS (leS (leS (leN le0))))))))
        · replace h := h.2 c
          refine mj_auto8 [43] 80 rfl ?_
          refine fn_gR fm_s0 rfl rfl rfl ?_
          refine fn_gR fm_w1 rfl rfl rfl ?_
          refine mj_auto8 [43] 80 rfl ?_
          obtain ⟨k8, c, c2, h⟩ := h
          refine fn_ldk c c2 rfl fm_v4 rfl ?_
          refine mj_auto8 [43] 80 rfl ?_
          exact mj_less h (leS (leS (leS (leS (leS (leS (leS (leN le0))))))))
set_option maxRecDepth 20000 in
theorem w108 {d : Nat} {M : Nat → Nat → Int32} {ML : Nat → Nat → Int64} {R : Nat → Nat → Option Nat} {K : wK} (h : (wI d 69 [.ref 1] M ML R (fun v1 M1 L1 R1 => (wI d 50 [.ref 1] M1 L1 R1 (fun v2 M2 L2 R2 => H108_43 d (((v1 + (27720 : Int32)) - (1 : Int32)) / (27720 : Int32)) (((((v1 + (27720 : Int32)) - (1 : Int32)) / (27720 : Int32)) - (1 : Int32)) * (27720 : Int32)) v2 (0 : Int32) (0 : Int32) (0 : Int32) M2 L2 R2 K))))) : wI (d + 1) 108 [.ref 0] M ML R K := by
  refine mj_of _ _ rfl rfl rfl ?_
  refine mj_auto8 [43] 80 rfl ?_
  refine fn_gR fm_s0 rfl rfl rfl ?_
  refine mj_wIv h (fm_o fm_w1) rfl rfl rfl rfl rfl ⟨rfl, rfl⟩ (fun v1 M1 L1 R1 h => ?_)
  refine mj_auto8 [43] 80 rfl ?_
  refine mj_div rfl rfl (by decide) ?_
  refine mj_auto8 [43] 80 rfl ?_
  refine fn_gR fm_s0 rfl rfl rfl ?_
  refine mj_wIv h (fm_o fm_w1) rfl rfl rfl rfl rfl ⟨rfl, rfl⟩ (fun v2 M2 L2 R2 h => ?_)
  refine mj_auto8 [43] 80 rfl ?_
  exact h
set_option maxRecDepth 20000 in
theorem w111 {d : Nat} {M : Nat → Nat → Int32} {ML : Nat → Nat → Int64} {R : Nat → Nat → Option Nat} {K : wK} (h : (wI d 4 [.ref 46, .ref 1] M ML R (fun v1 M1 L1 R1 => (wV d 15 [.ref 44] M1 L1 R1 (fun M2 L2 R2 => (wI d 236 [.int v1] M2 L2 R2 (fun v3 M3 L3 R3 => (wV d 16 [.ref 44, .long ((v3).toInt64)] M3 L3 R3 (fun M4 L4 R4 => K v1 M4 L4 R4))))))))) : wI (d + 1) 111 [.ref 0] M ML R K := by
  refine mj_of _ _ rfl rfl rfl ?_
  refine mj_auto2 [] 80 rfl ?_
  refine fn_gR fm_s0 rfl rfl rfl ?_
  refine mj_auto2 [] 80 rfl ?_
  refine fn_gR fm_s0 rfl rfl rfl ?_
  refine mj_wIv h (fm_o fm_s46) rfl rfl rfl rfl rfl ⟨rfl, rfl⟩ (fun v1 M1 L1 R1 h => ?_)
  refine mj_auto2 [] 80 rfl ?_
  refine fn_gR fm_s0 rfl rfl rfl ?_
  refine mj_wVv h (fm_o fm_s44) rfl rfl rfl rfl rfl ⟨rfl, rfl⟩ (fun M2 L2 R2 h => ?_)
  refine mj_auto2 [] 80 rfl ?_
  refine fn_gR fm_s0 rfl rfl rfl ?_
  refine mj_auto2 [] 80 rfl ?_
  refine mj_wIs h rfl rfl rfl rfl rfl rfl (fun v3 M3 L3 R3 h => ?_)
  refine mj_auto2 [] 80 rfl ?_
  refine mj_wVv h (fm_o fm_s44) rfl rfl rfl rfl rfl ⟨rfl, rfl⟩ (fun M4 L4 R4 h => ?_)
  refine mj_auto2 [] 80 rfl ?_
  exact mj_rt rfl rfl rfl ⟨_, _, _, _, rfl, rfl, h⟩
def H115_11 (d : Nat) (x1 : Int32) (x2 : Int32) (M : Nat → Nat → Int32) (ML : Nat → Nat → Int64) (R : Nat → Nat → Option Nat) (K : wK) : Prop := mj_Rn d (some .int) kX10_weights (wQ K) (fm_mk (M, ML, R)) 11 [some (.ref 0), some (.int x1), some (.int x2), none] []
def H115_19 (d : Nat) (x1 : Int32) (x2 : Int32) (x3 : Int32) (M : Nat → Nat → Int32) (ML : Nat → Nat → Int64) (R : Nat → Nat → Option Nat) (K : wK) : Prop := mj_Rn d (some .int) kX10_weights (wQ K) (fm_mk (M, ML, R)) 19 [some (.ref 0), some (.int x1), some (.int x2), some (.int x3)] []
set_option maxRecDepth 20000 in
theorem h115_11 {d : Nat} {x1 : Int32} {x2 : Int32} {M : Nat → Nat → Int32} {ML : Nat → Nat → Int64} {R : Nat → Nat → Option Nat} {K : wK} (h : (((12 : Int32) < x2 → K x1 M ML R) ∧ (¬ (12 : Int32) < x2 → H115_19 d x1 x2 (1 : Int32) M ML R K))) : H115_11 d x1 x2 M ML R K := by
  unfold H115_11
  refine mj_begin4 [11, 19] 80 rfl ?_
  refine mj_if rfl rfl (fun c => ?_) (fun c => ?_)
  · replace h := h.1 c
    refine mj_auto4 [11, 19] 80 rfl ?_
    exact mj_rt rfl rfl rfl ⟨_, _, _, _, rfl, rfl, h⟩
  · replace h := h.2 c
    refine mj_auto4 [11, 19] 80 rfl ?_
    exact h
set_option maxRecDepth 20000 in
theorem h115_19 {d : Nat} {x1 : Int32} {x2 : Int32} {x3 : Int32} {M : Nat → Nat → Int32} {ML : Nat → Nat → Int64} {R : Nat → Nat → Option Nat} {K : wK} (h : ((x2 < x3 → H115_11 d x1 (x2 + (1 : Int32)) M ML R K) ∧ (¬ x2 < x3 → (wI d 32 [.ref 49, .int x3, .int x2] M ML R (fun v1 M1 L1 R1 => ((v1 = 0 → H115_19 d x1 x2 (x3 + (1 : Int32)) M1 L1 R1 K) ∧ (¬ v1 = 0 → ((¬ x1 = 0 → H115_19 d (x1 + (1 : Int32)) x2 (x3 + (1 : Int32)) M1 L1 R1 K) ∧ (x1 = 0 → (wV d 16 [.ref 44, .long ((x2).toInt64)] M1 L1 R1 (fun M2 L2 R2 => (wV d 16 [.ref 44, .long ((x3).toInt64)] M2 L2 R2 (fun M3 L3 R3 => H115_19 d (x1 + (1 : Int32)) x2 (x3 + (1 : Int32)) M3 L3 R3 K))))))))))))) : H115_19 d x1 x2 x3 M ML R K := by
  unfold H115_19
  refine mj_begin4 [11, 19] 80 rfl ?_
  refine mj_if rfl rfl (fun c => ?_) (fun c => ?_)
  · replace h := h.1 c
    refine mj_auto4 [11, 19] 80 rfl ?_
    exact mj_less h (leS (leS (leS (leN le0))))
  · replace h := h.2 c
    refine mj_auto4 [11, 19] 80 rfl ?_
    refine fn_gR fm_s0 rfl rfl rfl ?_
    refine mj_auto4 [11, 19] 80 rfl ?_
    refine mj_wIv h (fm_o fm_s49) rfl rfl rfl rfl rfl ⟨rfl, rfl⟩ (fun v1 M1 L1 R1 h => ?_)
    refine mj_if rfl rfl (fun c => ?_) (fun c => ?_)
    · replace h := h.1 c
      refine mj_auto4 [11, 19] 80 rfl ?_
      exact h
    · replace h := h.2 c
      refine mj_auto4 [11, 19] 80 rfl ?_
      refine mj_if rfl rfl (fun c => ?_) (fun c => ?_)
      · replace h := h.1 c
        refine mj_auto4 [11, 19] 80 rfl ?_
        exact h
      · replace h := h.2 (Classical.not_not.mp c)
        refine mj_auto4 [11, 19] 80 rfl ?_
        refine fn_gR fm_s0 rfl rfl rfl ?_
        refine mj_auto4 [11, 19] 80 rfl ?_
        refine mj_wVv h (fm_o fm_s44) rfl rfl rfl rfl rfl ⟨rfl, rfl⟩ (fun M2 L2 R2 h => ?_)
        refine mj_auto4 [11, 19] 80 rfl ?_
        refine fn_gR fm_s0 rfl rfl rfl ?_
        refine mj_auto4 [11, 19] 80 rfl ?_
        refine mj_wVv h (fm_o fm_s44) rfl rfl rfl rfl rfl ⟨rfl, rfl⟩ (fun M3 L3 R3 h => ?_)
        refine mj_auto4 [11, 19] 80 rfl ?_
        exact h
set_option maxRecDepth 20000 in
theorem w115 {d : Nat} {M : Nat → Nat → Int32} {ML : Nat → Nat → Int64} {R : Nat → Nat → Option Nat} {K : wK} (h : (wV d 15 [.ref 44] M ML R (fun M1 L1 R1 => H115_11 d (0 : Int32) (1 : Int32) M1 L1 R1 K))) : wI (d + 1) 115 [.ref 0] M ML R K := by
  refine mj_of _ _ rfl rfl rfl ?_
  refine mj_auto4 [11, 19] 80 rfl ?_
  refine fn_gR fm_s0 rfl rfl rfl ?_
  refine mj_wVv h (fm_o fm_s44) rfl rfl rfl rfl rfl ⟨rfl, rfl⟩ (fun M1 L1 R1 h => ?_)
  refine mj_auto4 [11, 19] 80 rfl ?_
  exact h
def H116_6 (d : Nat) (x1 : Int32) (x2 : Int32) (x3 : Int32) (M : Nat → Nat → Int32) (ML : Nat → Nat → Int64) (R : Nat → Nat → Option Nat) (K : wK) : Prop := mj_Rn d (some .int) kX10_looks (wQ K) (fm_mk (M, ML, R)) 6 [some (.ref 0), some (.int x1), some (.int x2), some (.int x3), none] []
set_option maxRecDepth 20000 in
theorem h116_6 {d : Nat} {x1 : Int32} {x2 : Int32} {x3 : Int32} {M : Nat → Nat → Int32} {ML : Nat → Nat → Int64} {R : Nat → Nat → Option Nat} {K : wK} (h : (((12 : Int32) < x3 → ((¬ x2 = 0 → (wV d 15 [.ref 44] M ML R (fun M1 L1 R1 => (wV d 16 [.ref 44, .long ((x2).toInt64)] M1 L1 R1 (fun M2 L2 R2 => K x1 M2 L2 R2))))) ∧ (x2 = 0 → K (-2 : Int32) M ML R))) ∧ (¬ (12 : Int32) < x3 → (wI d 33 [.ref 49, .int x3] M ML R (fun v3 M3 L3 R3 => ((x1 = (-1 : Int32) → H116_6 d x3 v3 (x3 + (1 : Int32)) M3 L3 R3 K) ∧ (¬ x1 = (-1 : Int32) → ((x2 ≤ v3 → H116_6 d x1 x2 (x3 + (1 : Int32)) M3 L3 R3 K) ∧ (¬ x2 ≤ v3 → H116_6 d x3 v3 (x3 + (1 : Int32)) M3 L3 R3 K))))))))) : H116_6 d x1 x2 x3 M ML R K := by
  unfold H116_6
  refine mj_begin5 [6] 80 rfl ?_
  refine mj_if rfl rfl (fun c => ?_) (fun c => ?_)
  · replace h := h.1 c
    refine mj_auto5 [6] 80 rfl ?_
    refine mj_if rfl rfl (fun c => ?_) (fun c => ?_)
    · replace h := h.1 c
      refine mj_auto5 [6] 80 rfl ?_
      refine fn_gR fm_s0 rfl rfl rfl ?_
      refine mj_wVv h (fm_o fm_s44) rfl rfl rfl rfl rfl ⟨rfl, rfl⟩ (fun M1 L1 R1 h => ?_)
      refine mj_auto5 [6] 80 rfl ?_
      refine fn_gR fm_s0 rfl rfl rfl ?_
      refine mj_auto5 [6] 80 rfl ?_
      refine mj_wVv h (fm_o fm_s44) rfl rfl rfl rfl rfl ⟨rfl, rfl⟩ (fun M2 L2 R2 h => ?_)
      refine mj_auto5 [6] 80 rfl ?_
      exact mj_rt rfl rfl rfl ⟨_, _, _, _, rfl, rfl, h⟩
    · replace h := h.2 (Classical.not_not.mp c)
      refine mj_auto5 [6] 80 rfl ?_
      exact mj_rt rfl rfl rfl ⟨_, _, _, _, rfl, rfl, h⟩
  · replace h := h.2 c
    refine mj_auto5 [6] 80 rfl ?_
    refine fn_gR fm_s0 rfl rfl rfl ?_
    refine mj_auto5 [6] 80 rfl ?_
    refine mj_wIv h (fm_o fm_s49) rfl rfl rfl rfl rfl ⟨rfl, rfl⟩ (fun v3 M3 L3 R3 h => ?_)
    refine mj_auto5 [6] 80 rfl ?_
    refine mj_if rfl rfl (fun c => ?_) (fun c => ?_)
    · replace h := h.1 c
      refine mj_auto5 [6] 80 rfl ?_
      exact mj_less h (leS (leS (leS (leS (leN le0)))))
    · replace h := h.2 c
      refine mj_auto5 [6] 80 rfl ?_
      refine mj_if rfl rfl (fun c => ?_) (fun c => ?_)
      · replace h := h.1 c
        refine mj_auto5 [6] 80 rfl ?_
        exact mj_less h (leS (leS (leS (leS (leN le0)))))
      · replace h := h.2 c
        refine mj_auto5 [6] 80 rfl ?_
        exact mj_less h (leS (leS (leS (leS (leN le0)))))
set_option maxRecDepth 20000 in
theorem w116 {d : Nat} {M : Nat → Nat → Int32} {ML : Nat → Nat → Int64} {R : Nat → Nat → Option Nat} {K : wK} (h : H116_6 d (-1 : Int32) (0 : Int32) (1 : Int32) M ML R K) : wI (d + 1) 116 [.ref 0] M ML R K := by
  refine mj_of _ _ rfl rfl rfl ?_
  refine mj_auto5 [6] 80 rfl ?_
  exact h
def H117_53 (d : Nat) (x1 : Int32) (x2 : Int32) (x3 : Int32) (x4 : Int64) (x6 : Int32) (M : Nat → Nat → Int32) (ML : Nat → Nat → Int64) (R : Nat → Nat → Option Nat) (K : wK) : Prop := mj_Rn d (some .int) kX10_odds (wQ K) (fm_mk (M, ML, R)) 53 [some (.ref 0), some (.int x1), some (.int x2), some (.int x3), some (.long x4), none, some (.int x6), none, none] []
def H117_63 (d : Nat) (x1 : Int32) (x2 : Int32) (x3 : Int32) (x4 : Int64) (x6 : Int32) (x7 : Int32) (M : Nat → Nat → Int32) (ML : Nat → Nat → Int64) (R : Nat → Nat → Option Nat) (K : wK) : Prop := mj_Rn d (some .int) kX10_odds (wQ K) (fm_mk (M, ML, R)) 63 [some (.ref 0), some (.int x1), some (.int x2), some (.int x3), some (.long x4), none, some (.int x6), some (.int x7), none] []
def H117_138 (d : Nat) (x1 : Int32) (x2 : Int32) (x3 : Int32) (x4 : Int64) (x6 : Int64) (x8 : Int32) (M : Nat → Nat → Int32) (ML : Nat → Nat → Int64) (R : Nat → Nat → Option Nat) (K : wK) : Prop := mj_Rn d (some .int) kX10_odds (wQ K) (fm_mk (M, ML, R)) 138 [some (.ref 0), some (.int x1), some (.int x2), some (.int x3), some (.long x4), none, some (.long x6), none, some (.int x8)] []
set_option maxRecDepth 20000 in
theorem h117_53 {d : Nat} {x1 : Int32} {x2 : Int32} {x3 : Int32} {x4 : Int64} {x6 : Int32} {M : Nat → Nat → Int32} {ML : Nat → Nat → Int64} {R : Nat → Nat → Option Nat} {K : wK} (h : ((x1 ≤ x6 → H117_138 d x1 x2 x3 x4 (0 : Int64) x2 M ML R K) ∧ (¬ x1 ≤ x6 → H117_63 d x1 x2 x3 x4 x6 (8 : Int32) M ML R K))) : H117_53 d x1 x2 x3 x4 x6 M ML R K := by
  unfold H117_53
  refine mj_begin9 [53, 63, 138] 80 rfl ?_
  refine mj_if rfl rfl (fun c => ?_) (fun c => ?_)
  · replace h := h.1 c
    refine mj_auto9 [53, 63, 138] 80 rfl ?_
    exact h
  · replace h := h.2 c
    refine mj_auto9 [53, 63, 138] 80 rfl ?_
    exact h
set_option maxRecDepth 20000 in
theorem h117_63 {d : Nat} {x1 : Int32} {x2 : Int32} {x3 : Int32} {x4 : Int64} {x6 : Int32} {x7 : Int32} {M : Nat → Nat → Int32} {ML : Nat → Nat → Int64} {R : Nat → Nat → Option Nat} {K : wK} (h : ((x7 ≤ 0 → (∀ L1, L1 = fm_ul ML 62 0 ((ML 62 0) * ((x3).toInt64)) → H117_53 d x1 x2 x3 (x4 * (Int64.ofNat 10)) (x6 + (1 : Int32)) M L1 R K)) ∧ (¬ x7 ≤ 0 → (∃ k2, x7 = nI k2 ∧ k2 < 9 ∧ (∃ k3, (x7 - (1 : Int32)) = nI k3 ∧ k3 < 9 ∧ (∃ k4, x7 = nI k4 ∧ k4 < 9 ∧ (∀ L4, L4 = fm_ul ML 62 k4 (((ML 62 k2) * ((x3).toInt64)) + ((ML 62 k3) * ((((10 : Int32) - x3)).toInt64))) → H117_63 d x1 x2 x3 x4 x6 (x7 + (-1 : Int32)) M L4 R K))))))) : H117_63 d x1 x2 x3 x4 x6 x7 M ML R K := by
  unfold H117_63
  refine mj_begin9 [53, 63, 138] 80 rfl ?_
  refine mj_if rfl rfl (fun c => ?_) (fun c => ?_)
  · replace h := h.1 c
    refine mj_auto9 [53, 63, 138] 80 rfl ?_
    refine fn_gR fm_s0 rfl rfl rfl ?_
    refine mj_auto9 [53, 63, 138] 80 rfl ?_
    refine fn_ldkl (k := 0) rfl (by decide) rfl fm_s62 rfl ?_
    refine mj_auto9 [53, 63, 138] 80 rfl ?_
    refine fn_stkl (k := 0) rfl (by decide) rfl fm_s62 rfl ?_
    replace h := h _ rfl
    refine mj_auto9 [53, 63, 138] 80 rfl ?_
    exact mj_less h (leS (leS (leS (leS (leS (leS (leS (leN (leS le0)))))))))
  · replace h := h.2 c
    refine mj_auto9 [53, 63, 138] 80 rfl ?_
    refine fn_gR fm_s0 rfl rfl rfl ?_
    refine mj_auto9 [53, 63, 138] 80 rfl ?_
    refine fn_gR fm_s0 rfl rfl rfl ?_
    refine mj_auto9 [53, 63, 138] 80 rfl ?_
    obtain ⟨k2, c, c2, h⟩ := h
    refine fn_ldkl c c2 rfl fm_s62 rfl ?_
    refine mj_auto9 [53, 63, 138] 80 rfl ?_
    refine fn_gR fm_s0 rfl rfl rfl ?_
    refine mj_auto9 [53, 63, 138] 80 rfl ?_
    obtain ⟨k3, c, c2, h⟩ := h
    refine fn_ldkl c c2 rfl fm_s62 rfl ?_
    refine mj_auto9 [53, 63, 138] 80 rfl ?_
    obtain ⟨k4, c, c2, h⟩ := h
    refine fn_stkl c c2 rfl fm_s62 rfl ?_
    replace h := h _ rfl
    refine mj_auto9 [53, 63, 138] 80 rfl ?_
    exact h
set_option maxRecDepth 20000 in
theorem h117_138 {d : Nat} {x1 : Int32} {x2 : Int32} {x3 : Int32} {x4 : Int64} {x6 : Int64} {x8 : Int32} {M : Nat → Nat → Int32} {ML : Nat → Nat → Int64} {R : Nat → Nat → Option Nat} {K : wK} (h : (((8 : Int32) < x8 → (wV d 15 [.ref 44] M ML R (fun M1 L1 R1 => (wV d 17 [.ref 44, .long x6, .long x4] M1 L1 R1 (fun M2 L2 R2 => K (0 : Int32) M2 L2 R2))))) ∧ (¬ (8 : Int32) < x8 → (∃ k3, x8 = nI k3 ∧ k3 < 9 ∧ H117_138 d x1 x2 x3 x4 (x6 + (ML 62 k3)) (x8 + (1 : Int32)) M ML R K)))) : H117_138 d x1 x2 x3 x4 x6 x8 M ML R K := by
  unfold H117_138
  refine mj_begin9 [53, 63, 138] 80 rfl ?_
  refine mj_if rfl rfl (fun c => ?_) (fun c => ?_)
  · replace h := h.1 c
    refine mj_auto9 [53, 63, 138] 80 rfl ?_
    refine fn_gR fm_s0 rfl rfl rfl ?_
    refine mj_wVv h (fm_o fm_s44) rfl rfl rfl rfl rfl ⟨rfl, rfl⟩ (fun M1 L1 R1 h => ?_)
    refine mj_auto9 [53, 63, 138] 80 rfl ?_
    refine fn_gR fm_s0 rfl rfl rfl ?_
    refine mj_auto9 [53, 63, 138] 80 rfl ?_
    refine mj_wVv h (fm_o fm_s44) rfl rfl rfl rfl rfl ⟨rfl, rfl⟩ (fun M2 L2 R2 h => ?_)
    refine mj_auto9 [53, 63, 138] 80 rfl ?_
    exact mj_rt rfl rfl rfl ⟨_, _, _, _, rfl, rfl, h⟩
  · replace h := h.2 c
    refine mj_auto9 [53, 63, 138] 80 rfl ?_
    refine fn_gR fm_s0 rfl rfl rfl ?_
    refine mj_auto9 [53, 63, 138] 80 rfl ?_
    obtain ⟨k3, c, c2, h⟩ := h
    refine fn_ldkl c c2 rfl fm_s62 rfl ?_
    refine mj_auto9 [53, 63, 138] 80 rfl ?_
    exact h
set_option maxRecDepth 20000 in
theorem w117 {d : Nat} {a1 : Int32} {a2 : Int32} {a3 : Int32} {M : Nat → Nat → Int32} {ML : Nat → Nat → Int64} {R : Nat → Nat → Option Nat} {K : wK} (h : ((a1 < 0 → K (-1 : Int32) M ML R) ∧ (¬ a1 < 0 → (((8 : Int32) < a1 → K (-1 : Int32) M ML R) ∧ (¬ (8 : Int32) < a1 → ((a2 < 0 → K (-1 : Int32) M ML R) ∧ (¬ a2 < 0 → (((8 : Int32) < a2 → K (-1 : Int32) M ML R) ∧ (¬ (8 : Int32) < a2 → ((a3 < 0 → K (-1 : Int32) M ML R) ∧ (¬ a3 < 0 → ((a3 ≤ (10 : Int32) → (wV d 241 [.ref 62, .long (0 : Int64)] M ML R (fun M1 L1 R1 => (∀ L2, L2 = fm_ul L1 62 0 (1 : Int64) → H117_53 d a1 a2 a3 (1 : Int64) (0 : Int32) M1 L2 R1 K)))) ∧ (¬ a3 ≤ (10 : Int32) → K (-1 : Int32) M ML R))))))))))))) : wI (d + 1) 117 [.ref 0, .int a1, .int a2, .int a3] M ML R K := by
  refine mj_of _ _ rfl rfl rfl ?_
  refine mj_auto9 [53, 63, 138] 80 rfl ?_
  refine mj_if rfl rfl (fun c => ?_) (fun c => ?_)
  · replace h := h.1 c
    refine mj_auto9 [53, 63, 138] 80 rfl ?_
    exact mj_rt rfl rfl rfl ⟨_, _, _, _, rfl, rfl, h⟩
  · replace h := h.2 c
    refine mj_auto9 [53, 63, 138] 80 rfl ?_
    refine mj_if rfl rfl (fun c => ?_) (fun c => ?_)
    · replace h := h.1 c
      refine mj_auto9 [53, 63, 138] 80 rfl ?_
      exact mj_rt rfl rfl rfl ⟨_, _, _, _, rfl, rfl, h⟩
    · replace h := h.2 c
      refine mj_auto9 [53, 63, 138] 80 rfl ?_
      refine mj_if rfl rfl (fun c => ?_) (fun c => ?_)
      · replace h := h.1 c
        refine mj_auto9 [53, 63, 138] 80 rfl ?_
        exact mj_rt rfl rfl rfl ⟨_, _, _, _, rfl, rfl, h⟩
      · replace h := h.2 c
        refine mj_auto9 [53, 63, 138] 80 rfl ?_
        refine mj_if rfl rfl (fun c => ?_) (fun c => ?_)
        · replace h := h.1 c
          refine mj_auto9 [53, 63, 138] 80 rfl ?_
          exact mj_rt rfl rfl rfl ⟨_, _, _, _, rfl, rfl, h⟩
        · replace h := h.2 c
          refine mj_auto9 [53, 63, 138] 80 rfl ?_
          refine mj_if rfl rfl (fun c => ?_) (fun c => ?_)
          · replace h := h.1 c
            refine mj_auto9 [53, 63, 138] 80 rfl ?_
            exact mj_rt rfl rfl rfl ⟨_, _, _, _, rfl, rfl, h⟩
          · replace h := h.2 c
            refine mj_auto9 [53, 63, 138] 80 rfl ?_
            refine mj_if rfl rfl (fun c => ?_) (fun c => ?_)
            · replace h := h.1 c
              refine mj_auto9 [53, 63, 138] 80 rfl ?_
              refine fn_gR fm_s0 rfl rfl rfl ?_
              refine mj_auto9 [53, 63, 138] 80 rfl ?_
              refine mj_wVs h rfl rfl rfl rfl rfl rfl (fun M1 L1 R1 h => ?_)
              refine mj_auto9 [53, 63, 138] 80 rfl ?_
              refine fn_gR fm_s0 rfl rfl rfl ?_
              refine mj_auto9 [53, 63, 138] 80 rfl ?_
              refine fn_stkl (k := 0) rfl (by decide) rfl fm_s62 rfl ?_
              replace h := h _ rfl
              refine mj_auto9 [53, 63, 138] 80 rfl ?_
              exact h
            · replace h := h.2 c
              refine mj_auto9 [53, 63, 138] 80 rfl ?_
              exact mj_rt rfl rfl rfl ⟨_, _, _, _, rfl, rfl, h⟩
set_option maxRecDepth 20000 in
theorem w118 {d : Nat} {a1 : Int32} {M : Nat → Nat → Int32} {ML : Nat → Nat → Int64} {R : Nat → Nat → Option Nat} {K : wK} (h : ((a1 < 0 → K (-1 : Int32) M ML R) ∧ (¬ a1 < 0 → ((a1 ≤ (200 : Int32) → (wV d 15 [.ref 44] M ML R (fun M1 L1 R1 => ((a1 = 0 → K (0 : Int32) M1 L1 R1) ∧ (¬ a1 = 0 → (((a1 - a1 / (2 : Int32) * (2 : Int32)) = 0 → (wV d 16 [.ref 44, .long (1 : Int64)] M1 L1 R1 (fun M2 L2 R2 => K (1 : Int32) M2 L2 R2))) ∧ (¬ (a1 - a1 / (2 : Int32) * (2 : Int32)) = 0 → K (0 : Int32) M1 L1 R1))))))) ∧ (¬ a1 ≤ (200 : Int32) → K (-1 : Int32) M ML R))))) : wI (d + 1) 118 [.ref 0, .int a1] M ML R K := by
  refine mj_of _ _ rfl rfl rfl ?_
  refine mj_auto2 [] 80 rfl ?_
  refine mj_if rfl rfl (fun c => ?_) (fun c => ?_)
  · replace h := h.1 c
    refine mj_auto2 [] 80 rfl ?_
    exact mj_rt rfl rfl rfl ⟨_, _, _, _, rfl, rfl, h⟩
  · replace h := h.2 c
    refine mj_auto2 [] 80 rfl ?_
    refine mj_if rfl rfl (fun c => ?_) (fun c => ?_)
    · replace h := h.1 c
      refine mj_auto2 [] 80 rfl ?_
      refine fn_gR fm_s0 rfl rfl rfl ?_
      refine mj_wVv h (fm_o fm_s44) rfl rfl rfl rfl rfl ⟨rfl, rfl⟩ (fun M1 L1 R1 h => ?_)
      refine mj_auto2 [] 80 rfl ?_
      refine mj_if rfl rfl (fun c => ?_) (fun c => ?_)
      · replace h := h.1 c
        refine mj_auto2 [] 80 rfl ?_
        exact mj_rt rfl rfl rfl ⟨_, _, _, _, rfl, rfl, h⟩
      · replace h := h.2 c
        refine mj_auto2 [] 80 rfl ?_
        refine mj_div rfl rfl (by decide) ?_
        refine mj_if rfl rfl (fun c => ?_) (fun c => ?_)
        · replace h := h.1 c
          refine mj_auto2 [] 80 rfl ?_
          refine fn_gR fm_s0 rfl rfl rfl ?_
          refine mj_auto2 [] 80 rfl ?_
          refine mj_wVv h (fm_o fm_s44) rfl rfl rfl rfl rfl ⟨rfl, rfl⟩ (fun M2 L2 R2 h => ?_)
          refine mj_auto2 [] 80 rfl ?_
          exact mj_rt rfl rfl rfl ⟨_, _, _, _, rfl, rfl, h⟩
        · replace h := h.2 c
          refine mj_auto2 [] 80 rfl ?_
          exact mj_rt rfl rfl rfl ⟨_, _, _, _, rfl, rfl, h⟩
    · replace h := h.2 c
      refine mj_auto2 [] 80 rfl ?_
      exact mj_rt rfl rfl rfl ⟨_, _, _, _, rfl, rfl, h⟩
def H119_23 (d : Nat) (x1 : Int32) (x2 : Int32) (x3 : Int32) (M : Nat → Nat → Int32) (ML : Nat → Nat → Int64) (R : Nat → Nat → Option Nat) (K : wK) : Prop := mj_Rn d (some .int) kX10_rests (wQ K) (fm_mk (M, ML, R)) 23 [some (.ref 0), some (.int x1), some (.int x2), some (.int x3), none] []
def H119_32 (d : Nat) (x1 : Int32) (x2 : Int32) (x3 : Int32) (x4 : Int32) (M : Nat → Nat → Int32) (ML : Nat → Nat → Int64) (R : Nat → Nat → Option Nat) (K : wK) : Prop := mj_Rn d (some .int) kX10_rests (wQ K) (fm_mk (M, ML, R)) 32 [some (.ref 0), some (.int x1), some (.int x2), some (.int x3), some (.int x4)] []
set_option maxRecDepth 20000 in
theorem h119_23 {d : Nat} {x1 : Int32} {x2 : Int32} {x3 : Int32} {M : Nat → Nat → Int32} {ML : Nat → Nat → Int64} {R : Nat → Nat → Option Nat} {K : wK} (h : (((10 : Int32) ≤ x3 → K x2 M ML R) ∧ (¬ (10 : Int32) ≤ x3 → H119_32 d x1 x2 x3 (0 : Int32) M ML R K))) : H119_23 d x1 x2 x3 M ML R K := by
  unfold H119_23
  refine mj_begin5 [23, 32] 80 rfl ?_
  refine mj_if rfl rfl (fun c => ?_) (fun c => ?_)
  · replace h := h.1 c
    refine mj_auto5 [23, 32] 80 rfl ?_
    exact mj_rt rfl rfl rfl ⟨_, _, _, _, rfl, rfl, h⟩
  · replace h := h.2 c
    refine mj_auto5 [23, 32] 80 rfl ?_
    exact h
set_option maxRecDepth 20000 in
theorem h119_32 {d : Nat} {x1 : Int32} {x2 : Int32} {x3 : Int32} {x4 : Int32} {M : Nat → Nat → Int32} {ML : Nat → Nat → Int64} {R : Nat → Nat → Option Nat} {K : wK} (h : (((10 : Int32) ≤ x4 → H119_23 d x1 x2 (x3 + (1 : Int32)) M ML R K) ∧ (¬ (10 : Int32) ≤ x4 → (wI d 120 [.int x1, .int x3, .int x4] M ML R (fun v1 M1 L1 R1 => ((v1 = 0 → H119_32 d x1 x2 x3 (x4 + (1 : Int32)) M1 L1 R1 K) ∧ (¬ v1 = 0 → (wI d 120 [.int x1, .int x4, .int x3] M1 L1 R1 (fun v2 M2 L2 R2 => ((v2 = 0 → H119_32 d x1 x2 x3 (x4 + (1 : Int32)) M2 L2 R2 K) ∧ (¬ v2 = 0 → ((¬ x2 = 0 → H119_32 d x1 (x2 + (1 : Int32)) x3 (x4 + (1 : Int32)) M2 L2 R2 K) ∧ (x2 = 0 → (wV d 16 [.ref 44, .long ((x3).toInt64)] M2 L2 R2 (fun M3 L3 R3 => (wV d 16 [.ref 44, .long ((x4).toInt64)] M3 L3 R3 (fun M4 L4 R4 => H119_32 d x1 (x2 + (1 : Int32)) x3 (x4 + (1 : Int32)) M4 L4 R4 K))))))))))))))))) : H119_32 d x1 x2 x3 x4 M ML R K := by
  unfold H119_32
  refine mj_begin5 [23, 32] 80 rfl ?_
  refine mj_if rfl rfl (fun c => ?_) (fun c => ?_)
  · replace h := h.1 c
    refine mj_auto5 [23, 32] 80 rfl ?_
    exact mj_less h (leS (leS (leS (leS (leN le0)))))
  · replace h := h.2 c
    refine mj_auto5 [23, 32] 80 rfl ?_
    refine mj_wIs h rfl rfl rfl rfl rfl rfl (fun v1 M1 L1 R1 h => ?_)
    refine mj_if rfl rfl (fun c => ?_) (fun c => ?_)
    · replace h := h.1 c
      refine mj_auto5 [23, 32] 80 rfl ?_
      exact h
    · replace h := h.2 c
      refine mj_auto5 [23, 32] 80 rfl ?_
      refine mj_wIs h rfl rfl rfl rfl rfl rfl (fun v2 M2 L2 R2 h => ?_)
      refine mj_if rfl rfl (fun c => ?_) (fun c => ?_)
      · replace h := h.1 c
        refine mj_auto5 [23, 32] 80 rfl ?_
        exact h
      · replace h := h.2 c
        refine mj_auto5 [23, 32] 80 rfl ?_
        refine mj_if rfl rfl (fun c => ?_) (fun c => ?_)
        · replace h := h.1 c
          refine mj_auto5 [23, 32] 80 rfl ?_
          exact h
        · replace h := h.2 (Classical.not_not.mp c)
          refine mj_auto5 [23, 32] 80 rfl ?_
          refine fn_gR fm_s0 rfl rfl rfl ?_
          refine mj_auto5 [23, 32] 80 rfl ?_
          refine mj_wVv h (fm_o fm_s44) rfl rfl rfl rfl rfl ⟨rfl, rfl⟩ (fun M3 L3 R3 h => ?_)
          refine mj_auto5 [23, 32] 80 rfl ?_
          refine fn_gR fm_s0 rfl rfl rfl ?_
          refine mj_auto5 [23, 32] 80 rfl ?_
          refine mj_wVv h (fm_o fm_s44) rfl rfl rfl rfl rfl ⟨rfl, rfl⟩ (fun M4 L4 R4 h => ?_)
          refine mj_auto5 [23, 32] 80 rfl ?_
          exact h
set_option maxRecDepth 20000 in
theorem w119 {d : Nat} {a1 : Int32} {M : Nat → Nat → Int32} {ML : Nat → Nat → Int64} {R : Nat → Nat → Option Nat} {K : wK} (h : ((a1 < 0 → K (-1 : Int32) M ML R) ∧ (¬ a1 < 0 → ((a1 ≤ (18 : Int32) → (wV d 15 [.ref 44] M ML R (fun M1 L1 R1 => H119_23 d a1 (0 : Int32) (0 : Int32) M1 L1 R1 K))) ∧ (¬ a1 ≤ (18 : Int32) → K (-1 : Int32) M ML R))))) : wI (d + 1) 119 [.ref 0, .int a1] M ML R K := by
  refine mj_of _ _ rfl rfl rfl ?_
  refine mj_auto5 [23, 32] 80 rfl ?_
  refine mj_if rfl rfl (fun c => ?_) (fun c => ?_)
  · replace h := h.1 c
    refine mj_auto5 [23, 32] 80 rfl ?_
    exact mj_rt rfl rfl rfl ⟨_, _, _, _, rfl, rfl, h⟩
  · replace h := h.2 c
    refine mj_auto5 [23, 32] 80 rfl ?_
    refine mj_if rfl rfl (fun c => ?_) (fun c => ?_)
    · replace h := h.1 c
      refine mj_auto5 [23, 32] 80 rfl ?_
      refine fn_gR fm_s0 rfl rfl rfl ?_
      refine mj_wVv h (fm_o fm_s44) rfl rfl rfl rfl rfl ⟨rfl, rfl⟩ (fun M1 L1 R1 h => ?_)
      refine mj_auto5 [23, 32] 80 rfl ?_
      exact h
    · replace h := h.2 c
      refine mj_auto5 [23, 32] 80 rfl ?_
      exact mj_rt rfl rfl rfl ⟨_, _, _, _, rfl, rfl, h⟩
set_option maxRecDepth 20000 in
theorem w122 {d : Nat} {M : Nat → Nat → Int32} {ML : Nat → Nat → Int64} {R : Nat → Nat → Option Nat} {K : wK} (h : (wI d 24 [.ref 38, .ref 42] M ML R (fun v1 M1 L1 R1 => (wV d 21 [.ref 38] M1 L1 R1 (fun M2 L2 R2 => ((v1 = (-1 : Int32) → (wI d 123 [.ref 0, .ref 42] M2 L2 R2 (fun v3 M3 L3 R3 => (wI d 123 [.ref 0, .ref 40] M3 L3 R3 (fun v4 M4 L4 R4 => (wV d 15 [.ref 44] M4 L4 R4 (fun M5 L5 R5 => (wV d 16 [.ref 44, .long ((((M3 23 12) - (M3 1 12))).toInt64)] M5 L5 R5 (fun M6 L6 R6 => (wV d 16 [.ref 44, .long ((((M4 23 12) - (M4 1 12))).toInt64)] M6 L6 R6 (fun M7 L7 R7 => (wV d 16 [.ref 44, .long ((v3).toInt64)] M7 L7 R7 (fun M8 L8 R8 => (wV d 16 [.ref 44, .long ((v4).toInt64)] M8 L8 R8 (fun M9 L9 R9 => K (((M3 23 12) - (M3 1 12)) - ((M4 23 12) - (M4 1 12))) M9 L9 R9))))))))))))))) ∧ (¬ v1 = (-1 : Int32) → K ((-10000 : Int32) - v1) M2 L2 R2))))))) : wI (d + 1) 122 [.ref 0] M ML R K := by
  refine mj_of _ _ rfl rfl rfl ?_
  refine mj_auto6 [] 80 rfl ?_
  refine fn_gR fm_s0 rfl rfl rfl ?_
  refine mj_auto6 [] 80 rfl ?_
  refine fn_gR fm_s0 rfl rfl rfl ?_
  refine mj_wIv h (fm_o fm_s38) rfl rfl rfl rfl rfl ⟨rfl, rfl⟩ (fun v1 M1 L1 R1 h => ?_)
  refine mj_auto6 [] 80 rfl ?_
  refine fn_gR fm_s0 rfl rfl rfl ?_
  refine mj_wVv h (fm_o fm_s38) rfl rfl rfl rfl rfl ⟨rfl, rfl⟩ (fun M2 L2 R2 h => ?_)
  refine mj_auto6 [] 80 rfl ?_
  refine mj_if rfl rfl (fun c => ?_) (fun c => ?_)
  · replace h := h.1 c
    refine mj_auto6 [] 80 rfl ?_
    refine fn_gR fm_s0 rfl rfl rfl ?_
    refine mj_wIv h (fm_o fm_s0) rfl rfl rfl rfl rfl ⟨rfl, rfl⟩ (fun v3 M3 L3 R3 h => ?_)
    refine mj_auto6 [] 80 rfl ?_
    refine fn_gR fm_s0 rfl rfl rfl ?_
    refine fn_gI fm_w23 rfl rfl rfl ?_
    refine mj_auto6 [] 80 rfl ?_
    refine fn_gR fm_s0 rfl rfl rfl ?_
    refine fn_gI fm_w1 rfl rfl rfl ?_
    refine mj_auto6 [] 80 rfl ?_
    refine fn_gR fm_s0 rfl rfl rfl ?_
    refine mj_wIv h (fm_o fm_s0) rfl rfl rfl rfl rfl ⟨rfl, rfl⟩ (fun v4 M4 L4 R4 h => ?_)
    refine mj_auto6 [] 80 rfl ?_
    refine fn_gR fm_s0 rfl rfl rfl ?_
    refine fn_gI fm_w23 rfl rfl rfl ?_
    refine mj_auto6 [] 80 rfl ?_
    refine fn_gR fm_s0 rfl rfl rfl ?_
    refine fn_gI fm_w1 rfl rfl rfl ?_
    refine mj_auto6 [] 80 rfl ?_
    refine fn_gR fm_s0 rfl rfl rfl ?_
    refine mj_wVv h (fm_o fm_s44) rfl rfl rfl rfl rfl ⟨rfl, rfl⟩ (fun M5 L5 R5 h => ?_)
    refine mj_auto6 [] 80 rfl ?_
    refine fn_gR fm_s0 rfl rfl rfl ?_
    refine mj_auto6 [] 80 rfl ?_
    refine mj_wVv h (fm_o fm_s44) rfl rfl rfl rfl rfl ⟨rfl, rfl⟩ (fun M6 L6 R6 h => ?_)
    refine mj_auto6 [] 80 rfl ?_
    refine fn_gR fm_s0 rfl rfl rfl ?_
    refine mj_auto6 [] 80 rfl ?_
    refine mj_wVv h (fm_o fm_s44) rfl rfl rfl rfl rfl ⟨rfl, rfl⟩ (fun M7 L7 R7 h => ?_)
    refine mj_auto6 [] 80 rfl ?_
    refine fn_gR fm_s0 rfl rfl rfl ?_
    refine mj_auto6 [] 80 rfl ?_
    refine mj_wVv h (fm_o fm_s44) rfl rfl rfl rfl rfl ⟨rfl, rfl⟩ (fun M8 L8 R8 h => ?_)
    refine mj_auto6 [] 80 rfl ?_
    refine fn_gR fm_s0 rfl rfl rfl ?_
    refine mj_auto6 [] 80 rfl ?_
    refine mj_wVv h (fm_o fm_s44) rfl rfl rfl rfl rfl ⟨rfl, rfl⟩ (fun M9 L9 R9 h => ?_)
    refine mj_auto6 [] 80 rfl ?_
    exact mj_rt rfl rfl rfl ⟨_, _, _, _, rfl, rfl, h⟩
  · replace h := h.2 c
    refine mj_auto6 [] 80 rfl ?_
    exact mj_rt rfl rfl rfl ⟨_, _, _, _, rfl, rfl, h⟩
def H123_15 (d : Nat) (t : Nat) (x2 : Int32) (x3 : Int32) (M : Nat → Nat → Int32) (ML : Nat → Nat → Int64) (R : Nat → Nat → Option Nat) (K : wK) : Prop := mj_Rn d (some .int) kX10_firstMissBy (wQ K) (fm_mk (M, ML, R)) 15 [some (.ref 0), some (.ref t), some (.int x2), some (.int x3), none] []
set_option maxRecDepth 20000 in
theorem h123_15 {d : Nat} {t : Nat} (ht : fm_sh t = .inr (8, [(2, t + 1), (0, 1)])) {x2 : Int32} {x3 : Int32} {M : Nat → Nat → Int32} {ML : Nat → Nat → Int64} {R : Nat → Nat → Option Nat} {K : wK} (h : (((60 : Int32) ≤ x3 → K x2 M ML R) ∧ (¬ (60 : Int32) ≤ x3 → (wV d 63 [.ref 23, .ref t, .int (-1 : Int32)] M ML R (fun M1 L1 R1 => ((¬ x2 = (-1 : Int32) → H123_15 d t x2 (x3 + (1 : Int32)) M1 L1 R1 K) ∧ (x2 = (-1 : Int32) → (((M1 23 15) = 0 → H123_15 d t x2 (x3 + (1 : Int32)) M1 L1 R1 K) ∧ (¬ (M1 23 15) = 0 → H123_15 d t (M 23 11) (x3 + (1 : Int32)) M1 L1 R1 K))))))))) : H123_15 d t x2 x3 M ML R K := by
  unfold H123_15
  refine mj_begin5 [15] 80 rfl ?_
  refine mj_if rfl rfl (fun c => ?_) (fun c => ?_)
  · replace h := h.1 c
    refine mj_auto5 [15] 80 rfl ?_
    exact mj_rt rfl rfl rfl ⟨_, _, _, _, rfl, rfl, h⟩
  · replace h := h.2 c
    refine mj_auto5 [15] 80 rfl ?_
    refine fn_gR fm_s0 rfl rfl rfl ?_
    refine fn_gI fm_w23 rfl rfl rfl ?_
    refine mj_auto5 [15] 80 rfl ?_
    refine fn_gR fm_s0 rfl rfl rfl ?_
    refine mj_auto5 [15] 80 rfl ?_
    refine mj_wVv h (fm_o fm_w23) rfl rfl rfl rfl rfl ⟨rfl, rfl⟩ (fun M1 L1 R1 h => ?_)
    refine mj_auto5 [15] 80 rfl ?_
    refine mj_if rfl rfl (fun c => ?_) (fun c => ?_)
    · replace h := h.1 c
      refine mj_auto5 [15] 80 rfl ?_
      exact mj_less h (leS (leS (leS (leS (leN le0)))))
    · replace h := h.2 (Classical.not_not.mp c)
      refine mj_auto5 [15] 80 rfl ?_
      refine fn_gR fm_s0 rfl rfl rfl ?_
      refine fn_gI fm_w23 rfl rfl rfl ?_
      refine mj_if rfl rfl (fun c => ?_) (fun c => ?_)
      · replace h := h.1 c
        refine mj_auto5 [15] 80 rfl ?_
        exact mj_less h (leS (leS (leS (leS (leN le0)))))
      · replace h := h.2 c
        refine mj_auto5 [15] 80 rfl ?_
        exact mj_less h (leS (leS (leS (leS (leN le0)))))
set_option maxRecDepth 20000 in
theorem w123 {d : Nat} {t : Nat} (ht : fm_sh t = .inr (8, [(2, t + 1), (0, 1)])) {M : Nat → Nat → Int32} {ML : Nat → Nat → Int64} {R : Nat → Nat → Option Nat} {K : wK} (h : (wV d 48 [.ref 23, .ref 1] M ML R (fun M1 L1 R1 => H123_15 d t (-1 : Int32) (0 : Int32) M1 L1 R1 K))) : wI (d + 1) 123 [.ref 0, .ref t] M ML R K := by
  refine mj_of _ _ rfl rfl rfl ?_
  refine mj_auto5 [15] 80 rfl ?_
  refine fn_gR fm_s0 rfl rfl rfl ?_
  refine mj_auto5 [15] 80 rfl ?_
  refine fn_gR fm_s0 rfl rfl rfl ?_
  refine mj_wVv h (fm_o fm_w23) rfl rfl rfl rfl rfl ⟨rfl, rfl⟩ (fun M1 L1 R1 h => ?_)
  refine mj_auto5 [15] 80 rfl ?_
  exact h
def H124_29 (d : Nat) (x1 : Int32) (x2 : Int32) (x3 : Int32) (x4 : Int32) (M : Nat → Nat → Int32) (ML : Nat → Nat → Int64) (R : Nat → Nat → Option Nat) (K : wK) : Prop := mj_Rn d (some .int) kX10_years (wQ K) (fm_mk (M, ML, R)) 29 [some (.ref 0), some (.int x1), some (.int x2), some (.int x3), some (.int x4), none, none] []
set_option maxRecDepth 20000 in
theorem h124_29 {d : Nat} {x1 : Int32} {x2 : Int32} {x3 : Int32} {x4 : Int32} {M : Nat → Nat → Int32} {ML : Nat → Nat → Int64} {R : Nat → Nat → Option Nat} {K : wK} (h : ((x2 ≤ x4 → (wV d 15 [.ref 44] M ML R (fun M1 L1 R1 => (wI d 50 [.ref 23] M1 L1 R1 (fun v2 M2 L2 R2 => (wV d 16 [.ref 44, .long ((v2).toInt64)] M2 L2 R2 (fun M3 L3 R3 => (wI d 52 [.ref 23] M3 L3 R3 (fun v4 M4 L4 R4 => (wV d 16 [.ref 44, .long ((v4).toInt64)] M4 L4 R4 (fun M5 L5 R5 => K ((M5 23 12) - (M5 1 12)) M5 L5 R5))))))))))) ∧ (¬ x2 ≤ x4 → (wI d 125 [.int x3] M ML R (fun v6 M6 L6 R6 => (wI d 126 [.int v6, .int (6 : Int32)] M6 L6 R6 (fun v7 M7 L7 R7 => (((4 : Int32) ≤ v7 → (wI d 125 [.int v6] M7 L7 R7 (fun v8 M8 L8 R8 => (wI d 126 [.int v8, .int (8 : Int32)] M8 L8 R8 (fun v9 M9 L9 R9 => ((¬ v7 = (4 : Int32) → (wI d 66 [.ref 23, .int v9] M9 L9 R9 (fun v10 M10 L10 R10 => H124_29 d x1 x2 v8 (x4 + (1 : Int32)) M10 L10 R10 K))) ∧ (v7 = (4 : Int32) → (wI d 68 [.ref 23, .int v9] M9 L9 R9 (fun v11 M11 L11 R11 => H124_29 d x1 x2 v8 (x4 + (1 : Int32)) M11 L11 R11 K))))))))) ∧ (¬ (4 : Int32) ≤ v7 → (wV d 63 [.ref 23, .ref 40, .int (-1 : Int32)] M7 L7 R7 (fun M12 L12 R12 => H124_29 d x1 x2 v6 (x4 + (1 : Int32)) M12 L12 R12 K))))))))))) : H124_29 d x1 x2 x3 x4 M ML R K := by
  unfold H124_29
  refine mj_begin7 [29] 80 rfl ?_
  refine mj_if rfl rfl (fun c => ?_) (fun c => ?_)
  · replace h := h.1 c
    refine mj_auto7 [29] 80 rfl ?_
    refine fn_gR fm_s0 rfl rfl rfl ?_
    refine mj_wVv h (fm_o fm_s44) rfl rfl rfl rfl rfl ⟨rfl, rfl⟩ (fun M1 L1 R1 h => ?_)
    refine mj_auto7 [29] 80 rfl ?_
    refine fn_gR fm_s0 rfl rfl rfl ?_
    refine mj_auto7 [29] 80 rfl ?_
    refine fn_gR fm_s0 rfl rfl rfl ?_
    refine mj_wIv h (fm_o fm_w23) rfl rfl rfl rfl rfl ⟨rfl, rfl⟩ (fun v2 M2 L2 R2 h => ?_)
    refine mj_auto7 [29] 80 rfl ?_
    refine mj_wVv h (fm_o fm_s44) rfl rfl rfl rfl rfl ⟨rfl, rfl⟩ (fun M3 L3 R3 h => ?_)
    refine mj_auto7 [29] 80 rfl ?_
    refine fn_gR fm_s0 rfl rfl rfl ?_
    refine mj_auto7 [29] 80 rfl ?_
    refine fn_gR fm_s0 rfl rfl rfl ?_
    refine mj_wIv h (fm_o fm_w23) rfl rfl rfl rfl rfl ⟨rfl, rfl⟩ (fun v4 M4 L4 R4 h => ?_)
    refine mj_auto7 [29] 80 rfl ?_
    refine mj_wVv h (fm_o fm_s44) rfl rfl rfl rfl rfl ⟨rfl, rfl⟩ (fun M5 L5 R5 h => ?_)
    refine mj_auto7 [29] 80 rfl ?_
    refine fn_gR fm_s0 rfl rfl rfl ?_
    refine fn_gI fm_w23 rfl rfl rfl ?_
    refine mj_auto7 [29] 80 rfl ?_
    refine fn_gR fm_s0 rfl rfl rfl ?_
    refine fn_gI fm_w1 rfl rfl rfl ?_
    refine mj_auto7 [29] 80 rfl ?_
    exact mj_rt rfl rfl rfl ⟨_, _, _, _, rfl, rfl, h⟩
  · replace h := h.2 c
    refine mj_auto7 [29] 80 rfl ?_
    refine mj_wIs h rfl rfl rfl rfl rfl rfl (fun v6 M6 L6 R6 h => ?_)
    refine mj_auto7 [29] 80 rfl ?_
    refine mj_wIs h rfl rfl rfl rfl rfl rfl (fun v7 M7 L7 R7 h => ?_)
    refine mj_auto7 [29] 80 rfl ?_
    refine mj_if rfl rfl (fun c => ?_) (fun c => ?_)
    · replace h := h.1 c
      refine mj_auto7 [29] 80 rfl ?_
      refine mj_wIs h rfl rfl rfl rfl rfl rfl (fun v8 M8 L8 R8 h => ?_)
      refine mj_auto7 [29] 80 rfl ?_
      refine mj_wIs h rfl rfl rfl rfl rfl rfl (fun v9 M9 L9 R9 h => ?_)
      refine mj_auto7 [29] 80 rfl ?_
      refine mj_if rfl rfl (fun c => ?_) (fun c => ?_)
      · replace h := h.1 c
        refine mj_auto7 [29] 80 rfl ?_
        refine fn_gR fm_s0 rfl rfl rfl ?_
        refine mj_auto7 [29] 80 rfl ?_
        refine mj_wIv h (fm_o fm_w23) rfl rfl rfl rfl rfl ⟨rfl, rfl⟩ (fun v10 M10 L10 R10 h => ?_)
        refine mj_auto7 [29] 80 rfl ?_
        exact mj_less h (leS (leS (leS (leS (leS (leN (leN le0)))))))
      · replace h := h.2 (Classical.not_not.mp c)
        refine mj_auto7 [29] 80 rfl ?_
        refine fn_gR fm_s0 rfl rfl rfl ?_
        refine mj_auto7 [29] 80 rfl ?_
        refine mj_wIv h (fm_o fm_w23) rfl rfl rfl rfl rfl ⟨rfl, rfl⟩ (fun v11 M11 L11 R11 h => ?_)
        refine mj_auto7 [29] 80 rfl ?_
        exact mj_less h (leS (leS (leS (leS (leS (leN (leN le0)))))))
    · replace h := h.2 c
      refine mj_auto7 [29] 80 rfl ?_
      refine fn_gR fm_s0 rfl rfl rfl ?_
      refine mj_auto7 [29] 80 rfl ?_
      refine fn_gR fm_s0 rfl rfl rfl ?_
      refine mj_auto7 [29] 80 rfl ?_
      refine mj_wVv h (fm_o fm_w23) rfl rfl rfl rfl rfl ⟨rfl, rfl⟩ (fun M12 L12 R12 h => ?_)
      refine mj_auto7 [29] 80 rfl ?_
      exact mj_less h (leS (leS (leS (leS (leS (leN (leS le0)))))))
set_option maxRecDepth 20000 in
theorem w124 {d : Nat} {a1 : Int32} {a2 : Int32} {M : Nat → Nat → Int32} {ML : Nat → Nat → Int64} {R : Nat → Nat → Option Nat} {K : wK} (h : ((a2 < (1 : Int32) → K (-1 : Int32) M ML R) ∧ (¬ a2 < (1 : Int32) → ((a2 ≤ (60 : Int32) → (wV d 48 [.ref 23, .ref 1] M ML R (fun M1 L1 R1 => H124_29 d a1 a2 a1 (0 : Int32) M1 L1 R1 K))) ∧ (¬ a2 ≤ (60 : Int32) → K (-1 : Int32) M ML R))))) : wI (d + 1) 124 [.ref 0, .int a1, .int a2] M ML R K := by
  refine mj_of _ _ rfl rfl rfl ?_
  refine mj_auto7 [29] 80 rfl ?_
  refine mj_if rfl rfl (fun c => ?_) (fun c => ?_)
  · replace h := h.1 c
    refine mj_auto7 [29] 80 rfl ?_
    exact mj_rt rfl rfl rfl ⟨_, _, _, _, rfl, rfl, h⟩
  · replace h := h.2 c
    refine mj_auto7 [29] 80 rfl ?_
    refine mj_if rfl rfl (fun c => ?_) (fun c => ?_)
    · replace h := h.1 c
      refine mj_auto7 [29] 80 rfl ?_
      refine fn_gR fm_s0 rfl rfl rfl ?_
      refine mj_auto7 [29] 80 rfl ?_
      refine fn_gR fm_s0 rfl rfl rfl ?_
      refine mj_wVv h (fm_o fm_w23) rfl rfl rfl rfl rfl ⟨rfl, rfl⟩ (fun M1 L1 R1 h => ?_)
      refine mj_auto7 [29] 80 rfl ?_
      exact h
    · replace h := h.2 c
      refine mj_auto7 [29] 80 rfl ?_
      exact mj_rt rfl rfl rfl ⟨_, _, _, _, rfl, rfl, h⟩
set_option maxRecDepth 20000 in
theorem w129 {d : Nat} {a1 : Int32} {M : Nat → Nat → Int32} {ML : Nat → Nat → Int64} {R : Nat → Nat → Option Nat} {K : wK} (h : ((a1 = 0 → (wI d 50 [.ref 1] M ML R (fun v1 M1 L1 R1 => K v1 M1 L1 R1))) ∧ (a1 = 1 → K (M 1 10) M ML R) ∧ (a1 = 2 → K (M 1 11) M ML R) ∧ (a1 = 3 → K (M 1 12) M ML R) ∧ (a1 = 4 → K (M 40 1) M ML R) ∧ (a1 = 5 → (wI d 52 [.ref 1] M ML R (fun v2 M2 L2 R2 => K v2 M2 L2 R2))) ∧ (a1 = 6 → K (M 46 2) M ML R) ∧ (a1 = 7 → K (M 49 3) M ML R) ∧ (a1 = 8 → K (M 34 2) M ML R) ∧ (a1 = 9 → K (M 44 1) M ML R) ∧ (a1 = 10 → K (M 38 1) M ML R) ∧ (¬ a1 = 0 → ¬ a1 = 1 → ¬ a1 = 2 → ¬ a1 = 3 → ¬ a1 = 4 → ¬ a1 = 5 → ¬ a1 = 6 → ¬ a1 = 7 → ¬ a1 = 8 → ¬ a1 = 9 → ¬ a1 = 10 → K (-1 : Int32) M ML R))) : wI (d + 1) 129 [.ref 0, .int a1] M ML R K := by
  refine mj_of _ _ rfl rfl rfl ?_
  refine mj_auto2 [] 80 rfl ?_
  by_cases e0 : a1 = 0
  · replace h := h.1 e0
    refine mj_swi 60 rfl rfl (by rw [e0]; decide +kernel) ?_
    refine mj_auto2 [] 80 rfl ?_
    refine fn_gR fm_s0 rfl rfl rfl ?_
    refine mj_wIv h (fm_o fm_w1) rfl rfl rfl rfl rfl ⟨rfl, rfl⟩ (fun v1 M1 L1 R1 h => ?_)
    exact mj_rt rfl rfl rfl ⟨_, _, _, _, rfl, rfl, h⟩
  by_cases e1 : a1 = 1
  · replace h := h.2.1 e1
    refine mj_swi 68 rfl rfl (by rw [e1]; decide +kernel) ?_
    refine mj_auto2 [] 80 rfl ?_
    refine fn_gR fm_s0 rfl rfl rfl ?_
    refine fn_gI fm_w1 rfl rfl rfl ?_
    exact mj_rt rfl rfl rfl ⟨_, _, _, _, rfl, rfl, h⟩
  by_cases e2 : a1 = 2
  · replace h := h.2.2.1 e2
    refine mj_swi 76 rfl rfl (by rw [e2]; decide +kernel) ?_
    refine mj_auto2 [] 80 rfl ?_
    refine fn_gR fm_s0 rfl rfl rfl ?_
    refine fn_gI fm_w1 rfl rfl rfl ?_
    exact mj_rt rfl rfl rfl ⟨_, _, _, _, rfl, rfl, h⟩
  by_cases e3 : a1 = 3
  · replace h := h.2.2.2.1 e3
    refine mj_swi 84 rfl rfl (by rw [e3]; decide +kernel) ?_
    refine mj_auto2 [] 80 rfl ?_
    refine fn_gR fm_s0 rfl rfl rfl ?_
    refine fn_gI fm_w1 rfl rfl rfl ?_
    exact mj_rt rfl rfl rfl ⟨_, _, _, _, rfl, rfl, h⟩
  by_cases e4 : a1 = 4
  · replace h := h.2.2.2.2.1 e4
    refine mj_swi 92 rfl rfl (by rw [e4]; decide +kernel) ?_
    refine mj_auto2 [] 80 rfl ?_
    refine fn_gR fm_s0 rfl rfl rfl ?_
    refine fn_gI fm_s40 rfl rfl rfl ?_
    exact mj_rt rfl rfl rfl ⟨_, _, _, _, rfl, rfl, h⟩
  by_cases e5 : a1 = 5
  · replace h := h.2.2.2.2.2.1 e5
    refine mj_swi 100 rfl rfl (by rw [e5]; decide +kernel) ?_
    refine mj_auto2 [] 80 rfl ?_
    refine fn_gR fm_s0 rfl rfl rfl ?_
    refine mj_wIv h (fm_o fm_w1) rfl rfl rfl rfl rfl ⟨rfl, rfl⟩ (fun v2 M2 L2 R2 h => ?_)
    exact mj_rt rfl rfl rfl ⟨_, _, _, _, rfl, rfl, h⟩
  by_cases e6 : a1 = 6
  · replace h := h.2.2.2.2.2.2.1 e6
    refine mj_swi 108 rfl rfl (by rw [e6]; decide +kernel) ?_
    refine mj_auto2 [] 80 rfl ?_
    refine fn_gR fm_s0 rfl rfl rfl ?_
    refine fn_gI fm_s46 rfl rfl rfl ?_
    exact mj_rt rfl rfl rfl ⟨_, _, _, _, rfl, rfl, h⟩
  by_cases e7 : a1 = 7
  · replace h := h.2.2.2.2.2.2.2.1 e7
    refine mj_swi 116 rfl rfl (by rw [e7]; decide +kernel) ?_
    refine mj_auto2 [] 80 rfl ?_
    refine fn_gR fm_s0 rfl rfl rfl ?_
    refine fn_gI fm_s49 rfl rfl rfl ?_
    exact mj_rt rfl rfl rfl ⟨_, _, _, _, rfl, rfl, h⟩
  by_cases e8 : a1 = 8
  · replace h := h.2.2.2.2.2.2.2.2.1 e8
    refine mj_swi 124 rfl rfl (by rw [e8]; decide +kernel) ?_
    refine mj_auto2 [] 80 rfl ?_
    refine fn_gR fm_s0 rfl rfl rfl ?_
    refine fn_gI fm_s34 rfl rfl rfl ?_
    exact mj_rt rfl rfl rfl ⟨_, _, _, _, rfl, rfl, h⟩
  by_cases e9 : a1 = 9
  · replace h := h.2.2.2.2.2.2.2.2.2.1 e9
    refine mj_swi 132 rfl rfl (by rw [e9]; decide +kernel) ?_
    refine mj_auto2 [] 80 rfl ?_
    refine fn_gR fm_s0 rfl rfl rfl ?_
    refine fn_gI fm_s44 rfl rfl rfl ?_
    exact mj_rt rfl rfl rfl ⟨_, _, _, _, rfl, rfl, h⟩
  by_cases e10 : a1 = 10
  · replace h := h.2.2.2.2.2.2.2.2.2.2.1 e10
    refine mj_swi 140 rfl rfl (by rw [e10]; decide +kernel) ?_
    refine mj_auto2 [] 80 rfl ?_
    refine fn_gR fm_s0 rfl rfl rfl ?_
    refine fn_gI fm_s38 rfl rfl rfl ?_
    exact mj_rt rfl rfl rfl ⟨_, _, _, _, rfl, rfl, h⟩
  replace h := h.2.2.2.2.2.2.2.2.2.2.2 e0 e1 e2 e3 e4 e5 e6 e7 e8 e9 e10
  refine mj_swi 148 rfl rfl (by show (1 : Int) + (if (a1).toInt < 0 ∨ 10 < (a1).toInt then 147 else _) = 148; rw [if_pos (sw_out10 e0 e1 e2 e3 e4 e5 e6 e7 e8 e9 e10)]; rfl) ?_
  refine mj_auto2 [] 80 rfl ?_
  exact mj_rt rfl rfl rfl ⟨_, _, _, _, rfl, rfl, h⟩
set_option maxRecDepth 20000 in
theorem w130 {d : Nat} {a1 : Int32} {M : Nat → Nat → Int32} {ML : Nat → Nat → Int64} {R : Nat → Nat → Option Nat} {K : wKl} (h : ((a1 < 0 → False) ∧ (¬ a1 < 0 → ((a1 < (M 44 1) → (∃ k1, a1 = nI k1 ∧ k1 < 8 ∧ K (ML 45 k1) M ML R)) ∧ (¬ a1 < (M 44 1) → False))))) : wL (d + 1) 130 [.ref 0, .int a1] M ML R K := by
  refine mj_of _ _ rfl rfl rfl ?_
  refine mj_auto2 [] 80 rfl ?_
  refine mj_if rfl rfl (fun c => ?_) (fun c => ?_)
  · replace h := h.1 c
    exact False.elim h
  · replace h := h.2 c
    refine mj_auto2 [] 80 rfl ?_
    refine fn_gR fm_s0 rfl rfl rfl ?_
    refine fn_gI fm_s44 rfl rfl rfl ?_
    refine mj_if rfl rfl (fun c => ?_) (fun c => ?_)
    · replace h := h.1 c
      refine mj_auto2 [] 80 rfl ?_
      refine fn_gR fm_s0 rfl rfl rfl ?_
      refine fn_gR fm_s44 rfl rfl rfl ?_
      refine mj_auto2 [] 80 rfl ?_
      obtain ⟨k1, c, c2, h⟩ := h
      refine fn_ldkl c c2 rfl fm_s45 rfl ?_
      exact mj_rtl rfl rfl ⟨_, _, _, _, rfl, rfl, h⟩
    · replace h := h.2 c
      exact False.elim h
def H34_13 (d : Nat) (x2 : Int32) (x3 : Int32) (x4 : Int32) (M : Nat → Nat → Int32) (ML : Nat → Nat → Int64) (R : Nat → Nat → Option Nat) (K : wK) : Prop := mj_Rn d (some .int) kX7_gather (wQ K) (fm_mk (M, ML, R)) 13 [some (.ref 54), some (.ref 1), some (.int x2), some (.int x3), some (.int x4)] []
set_option maxRecDepth 20000 in
theorem h34_13 {d : Nat} {x2 : Int32} {x3 : Int32} {x4 : Int32} {M : Nat → Nat → Int32} {ML : Nat → Nat → Int64} {R : Nat → Nat → Option Nat} {K : wK} (h : (((8 : Int32) ≤ x4 → K x3 M ML R) ∧ (¬ (8 : Int32) ≤ x4 → (wI d 49 [.ref 1, .int x4] M ML R (fun v1 M1 L1 R1 => ((v1 = 0 → H34_13 d x2 x3 (x4 + (1 : Int32)) M1 L1 R1 K) ∧ (¬ v1 = 0 → (wI d 35 [.ref 54, .ref 1, .int x4, .int x2] M1 L1 R1 (fun v2 M2 L2 R2 => H34_13 d x2 (x3 + v2) (x4 + (1 : Int32)) M2 L2 R2 K))))))))) : H34_13 d x2 x3 x4 M ML R K := by
  unfold H34_13
  refine mj_begin5 [13] 80 rfl ?_
  refine mj_if rfl rfl (fun c => ?_) (fun c => ?_)
  · replace h := h.1 c
    refine mj_auto5 [13] 80 rfl ?_
    exact mj_rt rfl rfl rfl ⟨_, _, _, _, rfl, rfl, h⟩
  · replace h := h.2 c
    refine mj_auto5 [13] 80 rfl ?_
    refine mj_wIv h (fm_o fm_w1) rfl rfl rfl rfl rfl ⟨rfl, rfl⟩ (fun v1 M1 L1 R1 h => ?_)
    refine mj_if rfl rfl (fun c => ?_) (fun c => ?_)
    · replace h := h.1 c
      refine mj_auto5 [13] 80 rfl ?_
      exact h
    · replace h := h.2 c
      refine mj_auto5 [13] 80 rfl ?_
      refine mj_wIv h (fm_o fm_s54) rfl rfl rfl rfl rfl ⟨rfl, rfl⟩ (fun v2 M2 L2 R2 h => ?_)
      refine mj_auto5 [13] 80 rfl ?_
      exact h
set_option maxRecDepth 20000 in
theorem w34 {d : Nat} {a2 : Int32} {M : Nat → Nat → Int32} {ML : Nat → Nat → Int64} {R : Nat → Nat → Option Nat} {K : wK} (h : (wV d 242 [.ref 56, .int (0 : Int32)] M ML R (fun M1 L1 R1 => H34_13 d a2 (0 : Int32) (0 : Int32) M1 L1 R1 K))) : wI (d + 1) 34 [.ref 54, .ref 1, .int a2] M ML R K := by
  refine mj_of _ _ rfl rfl rfl ?_
  refine mj_auto5 [13] 80 rfl ?_
  refine fn_gR fm_s54 rfl rfl rfl ?_
  refine mj_auto5 [13] 80 rfl ?_
  refine mj_wVs h rfl rfl rfl rfl rfl rfl (fun M1 L1 R1 h => ?_)
  refine mj_auto5 [13] 80 rfl ?_
  exact h
def H35_64 (d : Nat) (x2 : Int32) (x3 : Int32) (x4 : Int32) (x5 : Int32) (x6 : Int32) (x7 : Int32) (x8 : Int32) (M : Nat → Nat → Int32) (ML : Nat → Nat → Int64) (R : Nat → Nat → Option Nat) (K : wK) : Prop := mj_Rn d (some .int) kX7_gatherOf (wQ K) (fm_mk (M, ML, R)) 64 [some (.ref 54), some (.ref 1), some (.int x2), some (.int x3), some (.int x4), some (.int x5), some (.int x6), some (.int x7), some (.int x8), none, none] []
set_option maxRecDepth 20000 in
theorem h35_64 {d : Nat} {x2 : Int32} {x3 : Int32} {x4 : Int32} {x5 : Int32} {x6 : Int32} {x7 : Int32} {x8 : Int32} {M : Nat → Nat → Int32} {ML : Nat → Nat → Int64} {R : Nat → Nat → Option Nat} {K : wK} (h : (((8 : Int32) ≤ x8 → K (8 : Int32) M ML R) ∧ (¬ (8 : Int32) ≤ x8 → (wI d 56 [.ref 1, .int x2, .int (x7 + x8)] M ML R (fun v1 M1 L1 R1 => (((v1 - (M1 1 11)) ≤ x3 → (wI d 55 [.ref 1, .int x2, .int (x7 + x8)] M1 L1 R1 (fun v2 M2 L2 R2 => (∃ k3, x2 = nI k3 ∧ k3 < 8 ∧ (((M2 6 k3) = 0 → (wI d 239 [.int (v2 - (M2 1 11)), .int (0 : Int32)] M2 L2 R2 (fun v4 M4 L4 R4 => (∃ k5, ((x2 * (8 : Int32)) + x8) = nI k5 ∧ k5 < 64 ∧ (∀ M5, M5 = fm_u M4 55 k5 v4 → (∃ k6, ((x2 * (8 : Int32)) + x8) = nI k6 ∧ k6 < 64 ∧ (∀ M6, M6 = fm_u M5 56 k6 (v1 - (M1 1 11)) → H35_64 d x2 x3 x4 x5 x6 x7 (x8 + (1 : Int32)) M6 L4 R4 K))))))) ∧ (¬ (M2 6 k3) = 0 → (∃ k7, ((x2 * (8 : Int32)) + x8) = nI k7 ∧ k7 < 64 ∧ (∀ M7, M7 = fm_u M2 55 k7 (0 : Int32) → (∃ k8, ((x2 * (8 : Int32)) + x8) = nI k8 ∧ k8 < 64 ∧ (∀ M8, M8 = fm_u M7 56 k8 (v1 - (M1 1 11)) → H35_64 d x2 x3 x4 x5 x6 x7 (x8 + (1 : Int32)) M8 L2 R2 K)))))))))) ∧ (¬ (v1 - (M1 1 11)) ≤ x3 → K x8 M1 L1 R1))))))) : H35_64 d x2 x3 x4 x5 x6 x7 x8 M ML R K := by
  unfold H35_64
  refine mj_begin11 [64] 80 rfl ?_
  refine mj_if rfl rfl (fun c => ?_) (fun c => ?_)
  · replace h := h.1 c
    refine mj_auto11 [64] 80 rfl ?_
    exact mj_rt rfl rfl rfl ⟨_, _, _, _, rfl, rfl, h⟩
  · replace h := h.2 c
    refine mj_auto11 [64] 80 rfl ?_
    refine mj_wIv h (fm_o fm_w1) rfl rfl rfl rfl rfl ⟨rfl, rfl⟩ (fun v1 M1 L1 R1 h => ?_)
    refine mj_auto11 [64] 80 rfl ?_
    refine fn_gI fm_w1 rfl rfl rfl ?_
    refine mj_auto11 [64] 80 rfl ?_
    refine mj_if rfl rfl (fun c => ?_) (fun c => ?_)
    · replace h := h.1 c
      refine mj_auto11 [64] 80 rfl ?_
      refine mj_wIv h (fm_o fm_w1) rfl rfl rfl rfl rfl ⟨rfl, rfl⟩ (fun v2 M2 L2 R2 h => ?_)
      refine mj_auto11 [64] 80 rfl ?_
      refine fn_gI fm_w1 rfl rfl rfl ?_
      refine mj_auto11 [64] 80 rfl ?_
      refine fn_gR fm_s54 rfl rfl rfl ?_
      refine mj_auto11 [64] 80 rfl ?_
      refine fn_gR fm_w1 rfl rfl rfl ?_
      refine mj_auto11 [64] 80 rfl ?_
      obtain ⟨k3, c, c2, h⟩ := h
      refine fn_ldk c c2 rfl fm_v6 rfl ?_
      refine mj_if rfl rfl (fun c => ?_) (fun c => ?_)
      · replace h := h.1 c
        refine mj_auto11 [64] 80 rfl ?_
        refine mj_wIs h rfl rfl rfl rfl rfl rfl (fun v4 M4 L4 R4 h => ?_)
        obtain ⟨k5, c, c2, h⟩ := h
        refine fn_stk c c2 rfl fm_s55 rfl ?_
        replace h := h _ rfl
        refine mj_auto11 [64] 80 rfl ?_
        refine fn_gR fm_s54 rfl rfl rfl ?_
        refine mj_auto11 [64] 80 rfl ?_
        obtain ⟨k6, c, c2, h⟩ := h
        refine fn_stk c c2 rfl fm_s56 rfl ?_
        replace h := h _ rfl
        refine mj_auto11 [64] 80 rfl ?_
        exact mj_less h (leS (leS (leS (leS (leS (leS (leS (leS (leS (leN (leN le0)))))))))))
      · replace h := h.2 c
        refine mj_auto11 [64] 80 rfl ?_
        obtain ⟨k7, c, c2, h⟩ := h
        refine fn_stk c c2 rfl fm_s55 rfl ?_
        replace h := h _ rfl
        refine mj_auto11 [64] 80 rfl ?_
        refine fn_gR fm_s54 rfl rfl rfl ?_
        refine mj_auto11 [64] 80 rfl ?_
        obtain ⟨k8, c, c2, h⟩ := h
        refine fn_stk c c2 rfl fm_s56 rfl ?_
        replace h := h _ rfl
        refine mj_auto11 [64] 80 rfl ?_
        exact mj_less h (leS (leS (leS (leS (leS (leS (leS (leS (leS (leN (leN le0)))))))))))
    · replace h := h.2 c
      refine mj_auto11 [64] 80 rfl ?_
      exact mj_rt rfl rfl rfl ⟨_, _, _, _, rfl, rfl, h⟩
set_option maxRecDepth 20000 in
theorem w35 {d : Nat} {a2 : Int32} {a3 : Int32} {M : Nat → Nat → Int32} {ML : Nat → Nat → Int64} {R : Nat → Nat → Option Nat} {K : wK} (h : (∃ k1, a2 = nI k1 ∧ k1 < 8 ∧ (∃ k2, a2 = nI k2 ∧ k2 < 8 ∧ (∃ k3, a2 = nI k3 ∧ k3 < 8 ∧ (((M 3 k1) ≤ 0 → (∃ k4, a2 = nI k4 ∧ k4 < 8 ∧ (wI d 239 [.int ((M 7 k4) + (1 : Int32)), .int (1 : Int32)] M ML R (fun v5 M5 L5 R5 => H35_64 d a2 a3 (M 3 k1) (((M 1 11) - (M 5 k2)) * (M 2 k3)) (1 : Int32) v5 (0 : Int32) M5 L5 R5 K)))) ∧ (¬ (M 3 k1) ≤ 0 → (¬ (M 3 k1) = 0 ∧ (∃ k6, a2 = nI k6 ∧ k6 < 8 ∧ (wI d 239 [.int ((M 7 k6) + (1 : Int32)), .int (((((M 1 11) - (M 5 k2)) * (M 2 k3)) / (M 3 k1)) + (1 : Int32))] M ML R (fun v7 M7 L7 R7 => H35_64 d a2 a3 (M 3 k1) (((M 1 11) - (M 5 k2)) * (M 2 k3)) (((((M 1 11) - (M 5 k2)) * (M 2 k3)) / (M 3 k1)) + (1 : Int32)) v7 (0 : Int32) M7 L7 R7 K)))))))))) : wI (d + 1) 35 [.ref 54, .ref 1, .int a2, .int a3] M ML R K := by
  refine mj_of _ _ rfl rfl rfl ?_
  refine mj_auto11 [64] 80 rfl ?_
  refine fn_gR fm_w1 rfl rfl rfl ?_
  refine mj_auto11 [64] 80 rfl ?_
  obtain ⟨k1, c, c2, h⟩ := h
  refine fn_ldk c c2 rfl fm_v3 rfl ?_
  refine mj_auto11 [64] 80 rfl ?_
  refine fn_gI fm_w1 rfl rfl rfl ?_
  refine mj_auto11 [64] 80 rfl ?_
  refine fn_gR fm_w1 rfl rfl rfl ?_
  refine mj_auto11 [64] 80 rfl ?_
  obtain ⟨k2, c, c2, h⟩ := h
  refine fn_ldk c c2 rfl fm_v5 rfl ?_
  refine mj_auto11 [64] 80 rfl ?_
  refine fn_gR fm_w1 rfl rfl rfl ?_
  refine mj_auto11 [64] 80 rfl ?_
  obtain ⟨k3, c, c2, h⟩ := h
  refine fn_ldk c c2 rfl fm_v2 rfl ?_
  refine mj_auto11 [64] 80 rfl ?_
  refine mj_if rfl rfl (fun c => ?_) (fun c => ?_)
  · replace h := h.1 c
    refine mj_auto11 [64] 80 rfl ?_
    refine fn_gR fm_w1 rfl rfl rfl ?_
    refine mj_auto11 [64] 80 rfl ?_
    obtain ⟨k4, c, c2, h⟩ := h
    refine fn_ldk c c2 rfl fm_v7 rfl ?_
    refine mj_auto11 [64] 80 rfl ?_
    refine mj_wIs h rfl rfl rfl rfl rfl rfl (fun v5 M5 L5 R5 h => ?_)
    refine mj_auto11 [64] 80 rfl ?_
    exact h
  · replace h := h.2 c
    refine mj_auto11 [64] 80 rfl ?_
    obtain ⟨c, h⟩ := h
    refine mj_div rfl rfl c ?_
    refine mj_auto11 [64] 80 rfl ?_
    refine fn_gR fm_w1 rfl rfl rfl ?_
    refine mj_auto11 [64] 80 rfl ?_
    obtain ⟨k6, c, c2, h⟩ := h
    refine fn_ldk c c2 rfl fm_v7 rfl ?_
    refine mj_auto11 [64] 80 rfl ?_
    refine mj_wIs h rfl rfl rfl rfl rfl rfl (fun v7 M7 L7 R7 h => ?_)
    refine mj_auto11 [64] 80 rfl ?_
    exact h
def H36_20 (d : Nat) (x1 : Int32) (x2 : Int32) (x3 : Int32) (M : Nat → Nat → Int32) (ML : Nat → Nat → Int64) (R : Nat → Nat → Option Nat) (K : wK) : Prop := mj_Rn d (some .int) kX7_greatest (wQ K) (fm_mk (M, ML, R)) 20 [some (.ref 54), some (.int x1), some (.int x2), some (.int x3)] []
set_option maxRecDepth 20000 in
theorem h36_20 {d : Nat} {x1 : Int32} {x2 : Int32} {x3 : Int32} {M : Nat → Nat → Int32} {ML : Nat → Nat → Int64} {R : Nat → Nat → Option Nat} {K : wK} (h : (((64 : Int32) ≤ x3 → K x2 M ML R) ∧ (¬ (64 : Int32) ≤ x3 → (∃ k1, x3 = nI k1 ∧ k1 < 64 ∧ (((M 56 k1) ≤ 0 → H36_20 d x1 x2 (x3 + (1 : Int32)) M ML R K) ∧ (¬ (M 56 k1) ≤ 0 → (wI d 37 [.ref 54, .int x3, .int x1] M ML R (fun v2 M2 L2 R2 => ((v2 = 0 → H36_20 d x1 x2 (x3 + (1 : Int32)) M2 L2 R2 K) ∧ (¬ v2 = 0 → H36_20 d x1 (x2 + (1 : Int32)) (x3 + (1 : Int32)) M2 L2 R2 K)))))))))) : H36_20 d x1 x2 x3 M ML R K := by
  unfold H36_20
  refine mj_begin4 [20] 80 rfl ?_
  refine mj_if rfl rfl (fun c => ?_) (fun c => ?_)
  · replace h := h.1 c
    refine mj_auto4 [20] 80 rfl ?_
    exact mj_rt rfl rfl rfl ⟨_, _, _, _, rfl, rfl, h⟩
  · replace h := h.2 c
    refine mj_auto4 [20] 80 rfl ?_
    refine fn_gR fm_s54 rfl rfl rfl ?_
    refine mj_auto4 [20] 80 rfl ?_
    obtain ⟨k1, c, c2, h⟩ := h
    refine fn_ldk c c2 rfl fm_s56 rfl ?_
    refine mj_if rfl rfl (fun c => ?_) (fun c => ?_)
    · replace h := h.1 c
      refine mj_auto4 [20] 80 rfl ?_
      exact h
    · replace h := h.2 c
      refine mj_auto4 [20] 80 rfl ?_
      refine mj_wIv h (fm_o fm_s54) rfl rfl rfl rfl rfl ⟨rfl, rfl⟩ (fun v2 M2 L2 R2 h => ?_)
      refine mj_if rfl rfl (fun c => ?_) (fun c => ?_)
      · replace h := h.1 c
        refine mj_auto4 [20] 80 rfl ?_
        exact h
      · replace h := h.2 c
        refine mj_auto4 [20] 80 rfl ?_
        exact h
set_option maxRecDepth 20000 in
theorem w36 {d : Nat} {a1 : Int32} {M : Nat → Nat → Int32} {ML : Nat → Nat → Int64} {R : Nat → Nat → Option Nat} {K : wK} (h : (wV d 242 [.ref 57, .int (-1 : Int32)] M ML R (fun M1 L1 R1 => (wV d 242 [.ref 58, .int (0 : Int32)] M1 L1 R1 (fun M2 L2 R2 => H36_20 d a1 (0 : Int32) (0 : Int32) M2 L2 R2 K))))) : wI (d + 1) 36 [.ref 54, .int a1] M ML R K := by
  refine mj_of _ _ rfl rfl rfl ?_
  refine mj_auto4 [20] 80 rfl ?_
  refine fn_gR fm_s54 rfl rfl rfl ?_
  refine mj_auto4 [20] 80 rfl ?_
  refine mj_wVs h rfl rfl rfl rfl rfl rfl (fun M1 L1 R1 h => ?_)
  refine mj_auto4 [20] 80 rfl ?_
  refine fn_gR fm_s54 rfl rfl rfl ?_
  refine mj_auto4 [20] 80 rfl ?_
  refine mj_wVs h rfl rfl rfl rfl rfl rfl (fun M2 L2 R2 h => ?_)
  refine mj_auto4 [20] 80 rfl ?_
  exact h
def H37_22 (d : Nat) (x1 : Int32) (x2 : Int32) (x3 : Int32) (M : Nat → Nat → Int32) (ML : Nat → Nat → Int64) (R : Nat → Nat → Option Nat) (K : wK) : Prop := mj_Rn d (some .boolean) kX7_findPlace (wQ K) (fm_mk (M, ML, R)) 22 [some (.ref 54), some (.int x1), some (.int x2), some (.int x3), none] []
set_option maxRecDepth 20000 in
theorem h37_22 {d : Nat} {x1 : Int32} {x2 : Int32} {x3 : Int32} {M : Nat → Nat → Int32} {ML : Nat → Nat → Int64} {R : Nat → Nat → Option Nat} {K : wK} (h : (((M 54 6) ≤ x3 → K (0 : Int32) M ML R) ∧ (¬ (M 54 6) ≤ x3 → (((136 : Int32) ≤ x3 → K (0 : Int32) M ML R) ∧ (¬ (136 : Int32) ≤ x3 → (∃ k1, x3 = nI k1 ∧ k1 < 136 ∧ (((64 : Int32) ≤ (M 60 k1) → (((128 : Int32) ≤ (M 60 k1) → (∃ k2, ((M 60 k1) - (128 : Int32)) = nI k2 ∧ k2 < 8 ∧ ((x2 ≤ (M 58 k2) → (wV d 41 [.ref 54, .int ((M 60 k1) - (128 : Int32))] M ML R (fun M3 L3 R3 => H37_22 d x1 x2 (x3 + (1 : Int32)) M3 L3 R3 K))) ∧ (¬ x2 ≤ (M 58 k2) → (∃ k4, ((M 60 k1) - (128 : Int32)) = nI k4 ∧ k4 < 8 ∧ (∃ k5, ((M 60 k1) - (128 : Int32)) = nI k5 ∧ k5 < 8 ∧ (∀ M5, M5 = fm_u M 58 k5 ((M 58 k4) + (1 : Int32)) → (wV d 42 [.ref 54, .int (M 60 k1)] M5 ML R (fun M6 L6 R6 => K (1 : Int32) M6 L6 R6))))))))) ∧ (¬ (128 : Int32) ≤ (M 60 k1) → (wV d 40 [.ref 54, .int ((M 60 k1) - (64 : Int32))] M ML R (fun M7 L7 R7 => H37_22 d x1 x2 (x3 + (1 : Int32)) M7 L7 R7 K))))) ∧ (¬ (64 : Int32) ≤ (M 60 k1) → (wV d 39 [.ref 54, .int (M 60 k1)] M ML R (fun M8 L8 R8 => H37_22 d x1 x2 (x3 + (1 : Int32)) M8 L8 R8 K)))))))))) : H37_22 d x1 x2 x3 M ML R K := by
  unfold H37_22
  refine mj_begin5 [22] 80 rfl ?_
  refine fn_gI fm_s54 rfl rfl rfl ?_
  refine mj_if rfl rfl (fun c => ?_) (fun c => ?_)
  · replace h := h.1 c
    refine mj_auto5 [22] 80 rfl ?_
    exact mj_rt rfl rfl rfl ⟨_, _, _, _, rfl, rfl, h⟩
  · replace h := h.2 c
    refine mj_auto5 [22] 80 rfl ?_
    refine mj_if rfl rfl (fun c => ?_) (fun c => ?_)
    · replace h := h.1 c
      refine mj_auto5 [22] 80 rfl ?_
      exact mj_rt rfl rfl rfl ⟨_, _, _, _, rfl, rfl, h⟩
    · replace h := h.2 c
      refine mj_auto5 [22] 80 rfl ?_
      refine fn_gR fm_s54 rfl rfl rfl ?_
      refine mj_auto5 [22] 80 rfl ?_
      obtain ⟨k1, c, c2, h⟩ := h
      refine fn_ldk c c2 rfl fm_s60 rfl ?_
      refine mj_auto5 [22] 80 rfl ?_
      refine mj_if rfl rfl (fun c => ?_) (fun c => ?_)
      · replace h := h.1 c
        refine mj_auto5 [22] 80 rfl ?_
        refine mj_if rfl rfl (fun c => ?_) (fun c => ?_)
        · replace h := h.1 c
          refine mj_auto5 [22] 80 rfl ?_
          refine fn_gR fm_s54 rfl rfl rfl ?_
          refine mj_auto5 [22] 80 rfl ?_
          obtain ⟨k2, c, c2, h⟩ := h
          refine fn_ldk c c2 rfl fm_s58 rfl ?_
          refine mj_auto5 [22] 80 rfl ?_
          refine mj_if rfl rfl (fun c => ?_) (fun c => ?_)
          · replace h := h.1 c
            refine mj_auto5 [22] 80 rfl ?_
            refine mj_wVv h (fm_o fm_s54) rfl rfl rfl rfl rfl ⟨rfl, rfl⟩ (fun M3 L3 R3 h => ?_)
            refine mj_auto5 [22] 80 rfl ?_
            exact mj_less h (leS (leS (leS (leS (leN le0)))))
          · replace h := h.2 c
            refine mj_auto5 [22] 80 rfl ?_
            refine fn_gR fm_s54 rfl rfl rfl ?_
            refine mj_auto5 [22] 80 rfl ?_
            obtain ⟨k4, c, c2, h⟩ := h
            refine fn_ldk c c2 rfl fm_s58 rfl ?_
            refine mj_auto5 [22] 80 rfl ?_
            obtain ⟨k5, c, c2, h⟩ := h
            refine fn_stk c c2 rfl fm_s58 rfl ?_
            replace h := h _ rfl
            refine mj_auto5 [22] 80 rfl ?_
            refine mj_wVv h (fm_o fm_s54) rfl rfl rfl rfl rfl ⟨rfl, rfl⟩ (fun M6 L6 R6 h => ?_)
            refine mj_auto5 [22] 80 rfl ?_
            exact mj_rt rfl rfl rfl ⟨_, _, _, _, rfl, rfl, h⟩
        · replace h := h.2 c
          refine mj_auto5 [22] 80 rfl ?_
          refine mj_wVv h (fm_o fm_s54) rfl rfl rfl rfl rfl ⟨rfl, rfl⟩ (fun M7 L7 R7 h => ?_)
          refine mj_auto5 [22] 80 rfl ?_
          exact mj_less h (leS (leS (leS (leS (leN le0)))))
      · replace h := h.2 c
        refine mj_auto5 [22] 80 rfl ?_
        refine mj_wVv h (fm_o fm_s54) rfl rfl rfl rfl rfl ⟨rfl, rfl⟩ (fun M8 L8 R8 h => ?_)
        refine mj_auto5 [22] 80 rfl ?_
        exact mj_less h (leS (leS (leS (leS (leN le0)))))
set_option maxRecDepth 20000 in
theorem w37 {d : Nat} {a1 : Int32} {a2 : Int32} {M : Nat → Nat → Int32} {ML : Nat → Nat → Int64} {R : Nat → Nat → Option Nat} {K : wK} (h : (wV d 242 [.ref 59, .int (-2 : Int32)] M ML R (fun M1 L1 R1 => (∀ M2, M2 = fm_u M1 54 6 (0 : Int32) → (wV d 38 [.ref 54, .int a1, .int (-1 : Int32)] M2 L1 R1 (fun M3 L3 R3 => H37_22 d a1 a2 (0 : Int32) M3 L3 R3 K)))))) : wI (d + 1) 37 [.ref 54, .int a1, .int a2] M ML R K := by
  refine mj_of _ _ rfl rfl rfl ?_
  refine mj_auto5 [22] 80 rfl ?_
  refine fn_gR fm_s54 rfl rfl rfl ?_
  refine mj_auto5 [22] 80 rfl ?_
  refine mj_wVs h rfl rfl rfl rfl rfl rfl (fun M1 L1 R1 h => ?_)
  refine mj_auto5 [22] 80 rfl ?_
  refine fn_pI fm_s54 rfl rfl rfl rfl ?_
  replace h := h _ rfl
  refine mj_auto5 [22] 80 rfl ?_
  refine mj_wVv h (fm_o fm_s54) rfl rfl rfl rfl rfl ⟨rfl, rfl⟩ (fun M3 L3 R3 h => ?_)
  refine mj_auto5 [22] 80 rfl ?_
  exact h
set_option maxRecDepth 20000 in
theorem w38 {d : Nat} {a1 : Int32} {a2 : Int32} {M : Nat → Nat → Int32} {ML : Nat → Nat → Int64} {R : Nat → Nat → Option Nat} {K : wKv} (h : (∃ k1, a1 = nI k1 ∧ k1 < 136 ∧ ((¬ (M 59 k1) = (-2 : Int32) → K M ML R) ∧ ((M 59 k1) = (-2 : Int32) → (((136 : Int32) ≤ (M 54 6) → K M ML R) ∧ (¬ (136 : Int32) ≤ (M 54 6) → (∃ k2, a1 = nI k2 ∧ k2 < 136 ∧ (∀ M2, M2 = fm_u M 59 k2 a2 → (∃ k3, (M2 54 6) = nI k3 ∧ k3 < 136 ∧ (∀ M3, M3 = fm_u M2 60 k3 a1 → (∀ M4, M4 = fm_u M3 54 6 ((M3 54 6) + (1 : Int32)) → K M4 ML R))))))))))) : wV (d + 1) 38 [.ref 54, .int a1, .int a2] M ML R K := by
  refine mj_of _ _ rfl rfl rfl ?_
  refine mj_auto3 [] 80 rfl ?_
  refine fn_gR fm_s54 rfl rfl rfl ?_
  refine mj_auto3 [] 80 rfl ?_
  obtain ⟨k1, c, c2, h⟩ := h
  refine fn_ldk c c2 rfl fm_s59 rfl ?_
  refine mj_auto3 [] 80 rfl ?_
  refine mj_if rfl rfl (fun c => ?_) (fun c => ?_)
  · replace h := h.1 c
    exact mj_rtv rfl rfl ⟨_, _, _, rfl, rfl, h⟩
  · replace h := h.2 (Classical.not_not.mp c)
    refine mj_auto3 [] 80 rfl ?_
    refine fn_gI fm_s54 rfl rfl rfl ?_
    refine mj_auto3 [] 80 rfl ?_
    refine mj_if rfl rfl (fun c => ?_) (fun c => ?_)
    · replace h := h.1 c
      exact mj_rtv rfl rfl ⟨_, _, _, rfl, rfl, h⟩
    · replace h := h.2 c
      refine mj_auto3 [] 80 rfl ?_
      refine fn_gR fm_s54 rfl rfl rfl ?_
      refine mj_auto3 [] 80 rfl ?_
      obtain ⟨k2, c, c2, h⟩ := h
      refine fn_stk c c2 rfl fm_s59 rfl ?_
      replace h := h _ rfl
      refine mj_auto3 [] 80 rfl ?_
      refine fn_gR fm_s54 rfl rfl rfl ?_
      refine mj_auto3 [] 80 rfl ?_
      refine fn_gI fm_s54 rfl rfl rfl ?_
      refine mj_auto3 [] 80 rfl ?_
      obtain ⟨k3, c, c2, h⟩ := h
      refine fn_stk c c2 rfl fm_s60 rfl ?_
      replace h := h _ rfl
      refine mj_auto3 [] 80 rfl ?_
      refine fn_gI fm_s54 rfl rfl rfl ?_
      refine mj_auto3 [] 80 rfl ?_
      refine fn_pI fm_s54 rfl rfl rfl rfl ?_
      replace h := h _ rfl
      exact mj_rtv rfl rfl ⟨_, _, _, rfl, rfl, h⟩
def H39_14 (d : Nat) (x1 : Int32) (x2 : Int32) (x3 : Int32) (M : Nat → Nat → Int32) (ML : Nat → Nat → Int64) (R : Nat → Nat → Option Nat) (K : wKv) : Prop := mj_Rn d none kX7_goOnFromPart (wQv K) (fm_mk (M, ML, R)) 14 [some (.ref 54), some (.int x1), some (.int x2), some (.int x3)] []
set_option maxRecDepth 20000 in
theorem h39_14 {d : Nat} {x1 : Int32} {x2 : Int32} {x3 : Int32} {M : Nat → Nat → Int32} {ML : Nat → Nat → Int64} {R : Nat → Nat → Option Nat} {K : wKv} (h : (∃ k1, x1 = nI k1 ∧ k1 < 64 ∧ (((M 56 k1) ≤ x3 → K M ML R) ∧ (¬ (M 56 k1) ≤ x3 → (((8 : Int32) ≤ x3 → K M ML R) ∧ (¬ (8 : Int32) ≤ x3 → (wV d 38 [.ref 54, .int (((64 : Int32) + x2) + x3), .int x1] M ML R (fun M2 L2 R2 => H39_14 d x1 x2 (x3 + (1 : Int32)) M2 L2 R2 K)))))))) : H39_14 d x1 x2 x3 M ML R K := by
  unfold H39_14
  refine mj_begin4 [14] 80 rfl ?_
  refine fn_gR fm_s54 rfl rfl rfl ?_
  refine mj_auto4 [14] 80 rfl ?_
  obtain ⟨k1, c, c2, h⟩ := h
  refine fn_ldk c c2 rfl fm_s56 rfl ?_
  refine mj_if rfl rfl (fun c => ?_) (fun c => ?_)
  · replace h := h.1 c
    exact mj_rtv rfl rfl ⟨_, _, _, rfl, rfl, h⟩
  · replace h := h.2 c
    refine mj_auto4 [14] 80 rfl ?_
    refine mj_if rfl rfl (fun c => ?_) (fun c => ?_)
    · replace h := h.1 c
      exact mj_rtv rfl rfl ⟨_, _, _, rfl, rfl, h⟩
    · replace h := h.2 c
      refine mj_auto4 [14] 80 rfl ?_
      refine mj_wVv h (fm_o fm_s54) rfl rfl rfl rfl rfl ⟨rfl, rfl⟩ (fun M2 L2 R2 h => ?_)
      refine mj_auto4 [14] 80 rfl ?_
      exact h
set_option maxRecDepth 20000 in
theorem w39 {d : Nat} {a1 : Int32} {M : Nat → Nat → Int32} {ML : Nat → Nat → Int64} {R : Nat → Nat → Option Nat} {K : wKv} (h : (∃ k1, a1 = nI k1 ∧ k1 < 64 ∧ H39_14 d a1 (a1 - (a1 - a1 / (8 : Int32) * (8 : Int32))) (M 55 k1) M ML R K)) : wV (d + 1) 39 [.ref 54, .int a1] M ML R K := by
  refine mj_of _ _ rfl rfl rfl ?_
  refine mj_auto4 [14] 80 rfl ?_
  refine mj_div rfl rfl (by decide) ?_
  refine mj_auto4 [14] 80 rfl ?_
  refine fn_gR fm_s54 rfl rfl rfl ?_
  refine mj_auto4 [14] 80 rfl ?_
  obtain ⟨k1, c, c2, h⟩ := h
  refine fn_ldk c c2 rfl fm_s55 rfl ?_
  refine mj_auto4 [14] 80 rfl ?_
  exact h
set_option maxRecDepth 20000 in
theorem w40 {d : Nat} {a1 : Int32} {M : Nat → Nat → Int32} {ML : Nat → Nat → Int64} {R : Nat → Nat → Option Nat} {K : wKv} (h : (∃ k1, a1 = nI k1 ∧ k1 < 64 ∧ ((¬ (M 57 k1) = (-1 : Int32) → (∃ k2, a1 = nI k2 ∧ k2 < 64 ∧ (wV d 38 [.ref 54, .int (M 57 k2), .int ((64 : Int32) + a1)] M ML R (fun M3 L3 R3 => K M3 L3 R3)))) ∧ ((M 57 k1) = (-1 : Int32) → (wV d 38 [.ref 54, .int ((128 : Int32) + (a1 - a1 / (8 : Int32) * (8 : Int32))), .int ((64 : Int32) + a1)] M ML R (fun M4 L4 R4 => K M4 L4 R4)))))) : wV (d + 1) 40 [.ref 54, .int a1] M ML R K := by
  refine mj_of _ _ rfl rfl rfl ?_
  refine mj_auto2 [] 80 rfl ?_
  refine fn_gR fm_s54 rfl rfl rfl ?_
  refine mj_auto2 [] 80 rfl ?_
  obtain ⟨k1, c, c2, h⟩ := h
  refine fn_ldk c c2 rfl fm_s57 rfl ?_
  refine mj_auto2 [] 80 rfl ?_
  refine mj_if rfl rfl (fun c => ?_) (fun c => ?_)
  · replace h := h.1 c
    refine mj_auto2 [] 80 rfl ?_
    refine fn_gR fm_s54 rfl rfl rfl ?_
    refine mj_auto2 [] 80 rfl ?_
    obtain ⟨k2, c, c2, h⟩ := h
    refine fn_ldk c c2 rfl fm_s57 rfl ?_
    refine mj_auto2 [] 80 rfl ?_
    refine mj_wVv h (fm_o fm_s54) rfl rfl rfl rfl rfl ⟨rfl, rfl⟩ (fun M3 L3 R3 h => ?_)
    exact mj_rtv rfl rfl ⟨_, _, _, rfl, rfl, h⟩
  · replace h := h.2 (Classical.not_not.mp c)
    refine mj_auto2 [] 80 rfl ?_
    refine mj_div rfl rfl (by decide) ?_
    refine mj_auto2 [] 80 rfl ?_
    refine mj_wVv h (fm_o fm_s54) rfl rfl rfl rfl rfl ⟨rfl, rfl⟩ (fun M4 L4 R4 h => ?_)
    refine mj_auto2 [] 80 rfl ?_
    exact mj_rtv rfl rfl ⟨_, _, _, rfl, rfl, h⟩
