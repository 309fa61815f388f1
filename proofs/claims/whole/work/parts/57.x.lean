set_option maxRecDepth 20000 in
theorem w82 {d : Nat} {M : Nat → Nat → Int32} {ML : Nat → Nat → Int64} {R : Nat → Nat → Option Nat} {K : wK} (h : (wV d 11 [.ref 34, .ref 1] M ML R (fun M1 L1 R1 => (wV d 63 [.ref 1, .ref 40, .int (-1 : Int32)] M1 L1 R1 (fun M2 L2 R2 => (wV d 15 [.ref 44] M2 L2 R2 (fun M3 L3 R3 => (wV d 16 [.ref 44, .long ((((M3 1 12) - (M 1 12))).toInt64)] M3 L3 R3 (fun M4 L4 R4 => (wV d 16 [.ref 44, .long (((M4 1 14)).toInt64)] M4 L4 R4 (fun M5 L5 R5 => K (M5 1 13) M5 L5 R5))))))))))) : wI (d + 1) 82 [.ref 0] M ML R K := by
  refine mj_of _ _ rfl rfl rfl ?_
  refine mj_auto2 [] 80 rfl ?_
  refine fn_gR fm_s0 rfl rfl rfl ?_
  refine fn_gI fm_w1 rfl rfl rfl ?_
  refine mj_auto2 [] 80 rfl ?_
  refine fn_gR fm_s0 rfl rfl rfl ?_
  refine mj_auto2 [] 80 rfl ?_
  refine fn_gR fm_s0 rfl rfl rfl ?_
  refine mj_wVv h (fm_o fm_s34) rfl rfl rfl rfl rfl ⟨rfl, rfl⟩ (fun M1 L1 R1 h => ?_)
  refine mj_auto2 [] 80 rfl ?_
  refine fn_gR fm_s0 rfl rfl rfl ?_
  refine mj_auto2 [] 80 rfl ?_
  refine fn_gR fm_s0 rfl rfl rfl ?_
  refine mj_auto2 [] 80 rfl ?_
  refine mj_wVv h (fm_o fm_w1) rfl rfl rfl rfl rfl ⟨rfl, rfl⟩ (fun M2 L2 R2 h => ?_)
  refine mj_auto2 [] 80 rfl ?_
  refine fn_gR fm_s0 rfl rfl rfl ?_
  refine mj_wVv h (fm_o fm_s44) rfl rfl rfl rfl rfl ⟨rfl, rfl⟩ (fun M3 L3 R3 h => ?_)
  refine mj_auto2 [] 80 rfl ?_
  refine fn_gR fm_s0 rfl rfl rfl ?_
  refine mj_auto2 [] 80 rfl ?_
  refine fn_gR fm_s0 rfl rfl rfl ?_
  refine fn_gI fm_w1 rfl rfl rfl ?_
  refine mj_auto2 [] 80 rfl ?_
  refine mj_wVv h (fm_o fm_s44) rfl rfl rfl rfl rfl ⟨rfl, rfl⟩ (fun M4 L4 R4 h => ?_)
  refine mj_auto2 [] 80 rfl ?_
  refine fn_gR fm_s0 rfl rfl rfl ?_
  refine mj_auto2 [] 80 rfl ?_
  refine fn_gR fm_s0 rfl rfl rfl ?_
  refine fn_gI fm_w1 rfl rfl rfl ?_
  refine mj_auto2 [] 80 rfl ?_
  refine mj_wVv h (fm_o fm_s44) rfl rfl rfl rfl rfl ⟨rfl, rfl⟩ (fun M5 L5 R5 h => ?_)
  refine mj_auto2 [] 80 rfl ?_
  refine fn_gR fm_s0 rfl rfl rfl ?_
  refine fn_gI fm_w1 rfl rfl rfl ?_
  exact mj_rt rfl rfl rfl ⟨_, _, _, _, rfl, rfl, h⟩
set_option maxRecDepth 20000 in
theorem w84 {d : Nat} {a1 : Int32} {M : Nat → Nat → Int32} {ML : Nat → Nat → Int64} {R : Nat → Nat → Option Nat} {K : wK} (h : (wV d 48 [.ref 12, .ref 1] M ML R (fun M1 L1 R1 => (wI d 65 [.ref 1, .int a1] M1 L1 R1 (fun v2 M2 L2 R2 => (wI d 87 [.ref 0, .int v2] M2 L2 R2 (fun v3 M3 L3 R3 => K v3 M3 L3 R3))))))) : wI (d + 1) 84 [.ref 0, .int a1] M ML R K := by
  refine mj_of _ _ rfl rfl rfl ?_
  refine mj_auto2 [] 80 rfl ?_
  refine fn_gR fm_s0 rfl rfl rfl ?_
  refine mj_auto2 [] 80 rfl ?_
  refine fn_gR fm_s0 rfl rfl rfl ?_
  refine mj_wVv h (fm_o fm_w12) rfl rfl rfl rfl rfl ⟨rfl, rfl⟩ (fun M1 L1 R1 h => ?_)
  refine mj_auto2 [] 80 rfl ?_
  refine fn_gR fm_s0 rfl rfl rfl ?_
  refine mj_auto2 [] 80 rfl ?_
  refine mj_wIv h (fm_o fm_w1) rfl rfl rfl rfl rfl ⟨rfl, rfl⟩ (fun v2 M2 L2 R2 h => ?_)
  refine mj_wIv h (fm_o fm_s0) rfl rfl rfl rfl rfl ⟨rfl, rfl⟩ (fun v3 M3 L3 R3 h => ?_)
  exact mj_rt rfl rfl rfl ⟨_, _, _, _, rfl, rfl, h⟩
set_option maxRecDepth 20000 in
theorem w85 {d : Nat} {a1 : Int32} {M : Nat → Nat → Int32} {ML : Nat → Nat → Int64} {R : Nat → Nat → Option Nat} {K : wK} (h : (wV d 48 [.ref 12, .ref 1] M ML R (fun M1 L1 R1 => (wI d 66 [.ref 1, .int a1] M1 L1 R1 (fun v2 M2 L2 R2 => (wI d 87 [.ref 0, .int v2] M2 L2 R2 (fun v3 M3 L3 R3 => K v3 M3 L3 R3))))))) : wI (d + 1) 85 [.ref 0, .int a1] M ML R K := by
  refine mj_of _ _ rfl rfl rfl ?_
  refine mj_auto2 [] 80 rfl ?_
  refine fn_gR fm_s0 rfl rfl rfl ?_
  refine mj_auto2 [] 80 rfl ?_
  refine fn_gR fm_s0 rfl rfl rfl ?_
  refine mj_wVv h (fm_o fm_w12) rfl rfl rfl rfl rfl ⟨rfl, rfl⟩ (fun M1 L1 R1 h => ?_)
  refine mj_auto2 [] 80 rfl ?_
  refine fn_gR fm_s0 rfl rfl rfl ?_
  refine mj_auto2 [] 80 rfl ?_
  refine mj_wIv h (fm_o fm_w1) rfl rfl rfl rfl rfl ⟨rfl, rfl⟩ (fun v2 M2 L2 R2 h => ?_)
  refine mj_wIv h (fm_o fm_s0) rfl rfl rfl rfl rfl ⟨rfl, rfl⟩ (fun v3 M3 L3 R3 h => ?_)
  exact mj_rt rfl rfl rfl ⟨_, _, _, _, rfl, rfl, h⟩
set_option maxRecDepth 20000 in
theorem w86 {d : Nat} {a1 : Int32} {M : Nat → Nat → Int32} {ML : Nat → Nat → Int64} {R : Nat → Nat → Option Nat} {K : wK} (h : (wV d 48 [.ref 12, .ref 1] M ML R (fun M1 L1 R1 => (wI d 68 [.ref 1, .int a1] M1 L1 R1 (fun v2 M2 L2 R2 => (wI d 87 [.ref 0, .int v2] M2 L2 R2 (fun v3 M3 L3 R3 => K v3 M3 L3 R3))))))) : wI (d + 1) 86 [.ref 0, .int a1] M ML R K := by
  refine mj_of _ _ rfl rfl rfl ?_
  refine mj_auto2 [] 80 rfl ?_
  refine fn_gR fm_s0 rfl rfl rfl ?_
  refine mj_auto2 [] 80 rfl ?_
  refine fn_gR fm_s0 rfl rfl rfl ?_
  refine mj_wVv h (fm_o fm_w12) rfl rfl rfl rfl rfl ⟨rfl, rfl⟩ (fun M1 L1 R1 h => ?_)
  refine mj_auto2 [] 80 rfl ?_
  refine fn_gR fm_s0 rfl rfl rfl ?_
  refine mj_auto2 [] 80 rfl ?_
  refine mj_wIv h (fm_o fm_w1) rfl rfl rfl rfl rfl ⟨rfl, rfl⟩ (fun v2 M2 L2 R2 h => ?_)
  refine mj_wIv h (fm_o fm_s0) rfl rfl rfl rfl rfl ⟨rfl, rfl⟩ (fun v3 M3 L3 R3 h => ?_)
  exact mj_rt rfl rfl rfl ⟨_, _, _, _, rfl, rfl, h⟩
set_option maxRecDepth 20000 in
theorem w87 {d : Nat} {a1 : Int32} {M : Nat → Nat → Int32} {ML : Nat → Nat → Int64} {R : Nat → Nat → Option Nat} {K : wK} (h : ((a1 < 0 → K a1 M ML R) ∧ (¬ a1 < 0 → (wV d 11 [.ref 34, .ref 12] M ML R (fun M1 L1 R1 => K a1 M1 L1 R1))))) : wI (d + 1) 87 [.ref 0, .int a1] M ML R K := by
  refine mj_of _ _ rfl rfl rfl ?_
  refine mj_auto2 [] 80 rfl ?_
  refine mj_if rfl rfl (fun c => ?_) (fun c => ?_)
  · replace h := h.1 c
    refine mj_auto2 [] 80 rfl ?_
    exact mj_rt rfl rfl rfl ⟨_, _, _, _, rfl, rfl, h⟩
  · replace h := h.2 c
    refine mj_auto2 [] 80 rfl ?_
    refine fn_gR fm_s0 rfl rfl rfl ?_
    refine mj_auto2 [] 80 rfl ?_
    refine fn_gR fm_s0 rfl rfl rfl ?_
    refine mj_wVv h (fm_o fm_s34) rfl rfl rfl rfl rfl ⟨rfl, rfl⟩ (fun M1 L1 R1 h => ?_)
    refine mj_auto2 [] 80 rfl ?_
    exact mj_rt rfl rfl rfl ⟨_, _, _, _, rfl, rfl, h⟩
set_option maxRecDepth 20000 in
theorem w91 {d : Nat} {a1 : Int32} {M : Nat → Nat → Int32} {ML : Nat → Nat → Int64} {R : Nat → Nat → Option Nat} {K : wK} (h : (wI d 49 [.ref 1, .int a1] M ML R (fun v1 M1 L1 R1 => ((¬ v1 = 0 → (wV d 15 [.ref 44] M1 L1 R1 (fun M2 L2 R2 => (wI d 71 [.ref 1, .int a1] M2 L2 R2 (fun v3 M3 L3 R3 => (∃ k4, a1 = nI k4 ∧ k4 < 8 ∧ (wV d 17 [.ref 44, .long ((v3).toInt64), .long (((M3 3 k4)).toInt64)] M3 L3 R3 (fun M5 L5 R5 => K (0 : Int32) M5 L5 R5)))))))) ∧ (v1 = 0 → K (-1 : Int32) M1 L1 R1))))) : wI (d + 1) 91 [.ref 0, .int a1] M ML R K := by
  refine mj_of _ _ rfl rfl rfl ?_
  refine mj_auto2 [] 80 rfl ?_
  refine fn_gR fm_s0 rfl rfl rfl ?_
  refine mj_auto2 [] 80 rfl ?_
  refine mj_wIv h (fm_o fm_w1) rfl rfl rfl rfl rfl ⟨rfl, rfl⟩ (fun v1 M1 L1 R1 h => ?_)
  refine mj_if rfl rfl (fun c => ?_) (fun c => ?_)
  · replace h := h.1 c
    refine mj_auto2 [] 80 rfl ?_
    refine fn_gR fm_s0 rfl rfl rfl ?_
    refine mj_wVv h (fm_o fm_s44) rfl rfl rfl rfl rfl ⟨rfl, rfl⟩ (fun M2 L2 R2 h => ?_)
    refine mj_auto2 [] 80 rfl ?_
    refine fn_gR fm_s0 rfl rfl rfl ?_
    refine mj_auto2 [] 80 rfl ?_
    refine fn_gR fm_s0 rfl rfl rfl ?_
    refine mj_auto2 [] 80 rfl ?_
    refine mj_wIv h (fm_o fm_w1) rfl rfl rfl rfl rfl ⟨rfl, rfl⟩ (fun v3 M3 L3 R3 h => ?_)
    refine mj_auto2 [] 80 rfl ?_
    refine fn_gR fm_s0 rfl rfl rfl ?_
    refine fn_gR fm_w1 rfl rfl rfl ?_
    refine mj_auto2 [] 80 rfl ?_
    obtain ⟨k4, c, c2, h⟩ := h
    refine fn_ldk c c2 rfl fm_v3 rfl ?_
    refine mj_auto2 [] 80 rfl ?_
    refine mj_wVv h (fm_o fm_s44) rfl rfl rfl rfl rfl ⟨rfl, rfl⟩ (fun M5 L5 R5 h => ?_)
    refine mj_auto2 [] 80 rfl ?_
    exact mj_rt rfl rfl rfl ⟨_, _, _, _, rfl, rfl, h⟩
  · replace h := h.2 (Classical.not_not.mp c)
    refine mj_auto2 [] 80 rfl ?_
    exact mj_rt rfl rfl rfl ⟨_, _, _, _, rfl, rfl, h⟩
def H96_25 (d : Nat) (x1 : Int32) (x2 : Int32) (M : Nat → Nat → Int32) (ML : Nat → Nat → Int64) (R : Nat → Nat → Option Nat) (K : wK) : Prop := mj_Rn d (some .int) kX10_runs (wQ K) (fm_mk (M, ML, R)) 25 [some (.ref 0), some (.int x1), some (.int x2)] []
set_option maxRecDepth 20000 in
theorem h96_25 {d : Nat} {x1 : Int32} {x2 : Int32} {M : Nat → Nat → Int32} {ML : Nat → Nat → Int64} {R : Nat → Nat → Option Nat} {K : wK} (h : ((x1 < x2 → (wV d 15 [.ref 44] M ML R (fun M1 L1 R1 => (wV d 16 [.ref 44, .long ((((M1 23 12) - (M1 1 12))).toInt64)] M1 L1 R1 (fun M2 L2 R2 => K (M2 23 13) M2 L2 R2))))) ∧ (¬ x1 < x2 → (wV d 63 [.ref 23, .ref 40, .int (-1 : Int32)] M ML R (fun M3 L3 R3 => H96_25 d x1 (x2 + (1 : Int32)) M3 L3 R3 K))))) : H96_25 d x1 x2 M ML R K := by
  unfold H96_25
  refine mj_begin3 [25] 80 rfl ?_
  refine mj_if rfl rfl (fun c => ?_) (fun c => ?_)
  · replace h := h.1 c
    refine mj_auto3 [25] 80 rfl ?_
    refine fn_gR fm_s0 rfl rfl rfl ?_
    refine mj_wVv h (fm_o fm_s44) rfl rfl rfl rfl rfl ⟨rfl, rfl⟩ (fun M1 L1 R1 h => ?_)
    refine mj_auto3 [25] 80 rfl ?_
    refine fn_gR fm_s0 rfl rfl rfl ?_
    refine mj_auto3 [25] 80 rfl ?_
    refine fn_gR fm_s0 rfl rfl rfl ?_
    refine fn_gI fm_w23 rfl rfl rfl ?_
    refine mj_auto3 [25] 80 rfl ?_
    refine fn_gR fm_s0 rfl rfl rfl ?_
    refine fn_gI fm_w1 rfl rfl rfl ?_
    refine mj_auto3 [25] 80 rfl ?_
    refine mj_wVv h (fm_o fm_s44) rfl rfl rfl rfl rfl ⟨rfl, rfl⟩ (fun M2 L2 R2 h => ?_)
    refine mj_auto3 [25] 80 rfl ?_
    refine fn_gR fm_s0 rfl rfl rfl ?_
    refine fn_gI fm_w23 rfl rfl rfl ?_
    exact mj_rt rfl rfl rfl ⟨_, _, _, _, rfl, rfl, h⟩
  · replace h := h.2 c
    refine mj_auto3 [25] 80 rfl ?_
    refine fn_gR fm_s0 rfl rfl rfl ?_
    refine mj_auto3 [25] 80 rfl ?_
    refine fn_gR fm_s0 rfl rfl rfl ?_
    refine mj_auto3 [25] 80 rfl ?_
    refine mj_wVv h (fm_o fm_w23) rfl rfl rfl rfl rfl ⟨rfl, rfl⟩ (fun M3 L3 R3 h => ?_)
    refine mj_auto3 [25] 80 rfl ?_
    exact h
set_option maxRecDepth 20000 in
theorem w96 {d : Nat} {a1 : Int32} {M : Nat → Nat → Int32} {ML : Nat → Nat → Int64} {R : Nat → Nat → Option Nat} {K : wK} (h : ((a1 < 0 → K (-1 : Int32) M ML R) ∧ (¬ a1 < 0 → ((a1 ≤ (99 : Int32) → (wV d 48 [.ref 23, .ref 1] M ML R (fun M1 L1 R1 => H96_25 d a1 (0 : Int32) M1 L1 R1 K))) ∧ (¬ a1 ≤ (99 : Int32) → K (-1 : Int32) M ML R))))) : wI (d + 1) 96 [.ref 0, .int a1] M ML R K := by
  refine mj_of _ _ rfl rfl rfl ?_
  refine mj_auto3 [25] 80 rfl ?_
  refine mj_if rfl rfl (fun c => ?_) (fun c => ?_)
  · replace h := h.1 c
    refine mj_auto3 [25] 80 rfl ?_
    exact mj_rt rfl rfl rfl ⟨_, _, _, _, rfl, rfl, h⟩
  · replace h := h.2 c
    refine mj_auto3 [25] 80 rfl ?_
    refine mj_if rfl rfl (fun c => ?_) (fun c => ?_)
    · replace h := h.1 c
      refine mj_auto3 [25] 80 rfl ?_
      refine fn_gR fm_s0 rfl rfl rfl ?_
      refine mj_auto3 [25] 80 rfl ?_
      refine fn_gR fm_s0 rfl rfl rfl ?_
      refine mj_wVv h (fm_o fm_w23) rfl rfl rfl rfl rfl ⟨rfl, rfl⟩ (fun M1 L1 R1 h => ?_)
      refine mj_auto3 [25] 80 rfl ?_
      exact h
    · replace h := h.2 c
      refine mj_auto3 [25] 80 rfl ?_
      exact mj_rt rfl rfl rfl ⟨_, _, _, _, rfl, rfl, h⟩
def H98_13 (d : Nat) (x1 : Int32) (M : Nat → Nat → Int32) (ML : Nat → Nat → Int64) (R : Nat → Nat → Option Nat) (K : wK) : Prop := mj_Rn d (some .int) kX10_misses (wQ K) (fm_mk (M, ML, R)) 13 [some (.ref 0), some (.int x1), none] []
set_option maxRecDepth 20000 in
theorem h98_13 {d : Nat} {x1 : Int32} {M : Nat → Nat → Int32} {ML : Nat → Nat → Int64} {R : Nat → Nat → Option Nat} {K : wK} (h : (((99 : Int32) ≤ x1 → K (-2 : Int32) M ML R) ∧ (¬ (99 : Int32) ≤ x1 → (wV d 63 [.ref 23, .ref 40, .int (-1 : Int32)] M ML R (fun M1 L1 R1 => (((M1 23 15) = 0 → H98_13 d (x1 + (1 : Int32)) M1 L1 R1 K) ∧ (¬ (M1 23 15) = 0 → (wV d 15 [.ref 44] M1 L1 R1 (fun M2 L2 R2 => (wV d 16 [.ref 44, .long (((M2 23 15)).toInt64)] M2 L2 R2 (fun M3 L3 R3 => K (M 23 11) M3 L3 R3))))))))))) : H98_13 d x1 M ML R K := by
  unfold H98_13
  refine mj_begin3 [13] 80 rfl ?_
  refine mj_if rfl rfl (fun c => ?_) (fun c => ?_)
  · replace h := h.1 c
    refine mj_auto3 [13] 80 rfl ?_
    exact mj_rt rfl rfl rfl ⟨_, _, _, _, rfl, rfl, h⟩
  · replace h := h.2 c
    refine mj_auto3 [13] 80 rfl ?_
    refine fn_gR fm_s0 rfl rfl rfl ?_
    refine fn_gI fm_w23 rfl rfl rfl ?_
    refine mj_auto3 [13] 80 rfl ?_
    refine fn_gR fm_s0 rfl rfl rfl ?_
    refine mj_auto3 [13] 80 rfl ?_
    refine fn_gR fm_s0 rfl rfl rfl ?_
    refine mj_auto3 [13] 80 rfl ?_
    refine mj_wVv h (fm_o fm_w23) rfl rfl rfl rfl rfl ⟨rfl, rfl⟩ (fun M1 L1 R1 h => ?_)
    refine mj_auto3 [13] 80 rfl ?_
    refine fn_gR fm_s0 rfl rfl rfl ?_
    refine fn_gI fm_w23 rfl rfl rfl ?_
    refine mj_if rfl rfl (fun c => ?_) (fun c => ?_)
    · replace h := h.1 c
      refine mj_auto3 [13] 80 rfl ?_
      exact mj_less h (leS (leS (leN le0)))
    · replace h := h.2 c
      refine mj_auto3 [13] 80 rfl ?_
      refine fn_gR fm_s0 rfl rfl rfl ?_
      refine mj_wVv h (fm_o fm_s44) rfl rfl rfl rfl rfl ⟨rfl, rfl⟩ (fun M2 L2 R2 h => ?_)
      refine mj_auto3 [13] 80 rfl ?_
      refine fn_gR fm_s0 rfl rfl rfl ?_
      refine mj_auto3 [13] 80 rfl ?_
      refine fn_gR fm_s0 rfl rfl rfl ?_
      refine fn_gI fm_w23 rfl rfl rfl ?_
      refine mj_auto3 [13] 80 rfl ?_
      refine mj_wVv h (fm_o fm_s44) rfl rfl rfl rfl rfl ⟨rfl, rfl⟩ (fun M3 L3 R3 h => ?_)
      refine mj_auto3 [13] 80 rfl ?_
      exact mj_rt rfl rfl rfl ⟨_, _, _, _, rfl, rfl, h⟩
set_option maxRecDepth 20000 in
theorem w98 {d : Nat} {M : Nat → Nat → Int32} {ML : Nat → Nat → Int64} {R : Nat → Nat → Option Nat} {K : wK} (h : (wV d 48 [.ref 23, .ref 1] M ML R (fun M1 L1 R1 => H98_13 d (0 : Int32) M1 L1 R1 K))) : wI (d + 1) 98 [.ref 0] M ML R K := by
  refine mj_of _ _ rfl rfl rfl ?_
  refine mj_auto3 [13] 80 rfl ?_
  refine fn_gR fm_s0 rfl rfl rfl ?_
  refine mj_auto3 [13] 80 rfl ?_
  refine fn_gR fm_s0 rfl rfl rfl ?_
  refine mj_wVv h (fm_o fm_w23) rfl rfl rfl rfl rfl ⟨rfl, rfl⟩ (fun M1 L1 R1 h => ?_)
  refine mj_auto3 [13] 80 rfl ?_
  exact h
def H106_13 (d : Nat) (x1 : Int32) (x2 : Int32) (x3 : Int32) (M : Nat → Nat → Int32) (ML : Nat → Nat → Int64) (R : Nat → Nat → Option Nat) (K : wK) : Prop := mj_Rn d (some .boolean) kX10_missesWhenKept (wQ K) (fm_mk (M, ML, R)) 13 [some (.ref 0), some (.int x1), some (.int x2), some (.int x3)] []
set_option maxRecDepth 20000 in
theorem h106_13 {d : Nat} {x1 : Int32} {x2 : Int32} {x3 : Int32} {M : Nat → Nat → Int32} {ML : Nat → Nat → Int64} {R : Nat → Nat → Option Nat} {K : wK} (h : (((60 : Int32) ≤ x3 → K (0 : Int32) M ML R) ∧ (¬ (60 : Int32) ≤ x3 → ((x2 ≤ x3 → (wV d 63 [.ref 23, .ref 40, .int (-1 : Int32)] M ML R (fun M1 L1 R1 => (((M1 23 15) = 0 → H106_13 d x1 x2 (x3 + (1 : Int32)) M1 L1 R1 K) ∧ (¬ (M1 23 15) = 0 → K (1 : Int32) M1 L1 R1))))) ∧ (¬ x2 ≤ x3 → (wV d 63 [.ref 23, .ref 40, .int x1] M ML R (fun M2 L2 R2 => (((M2 23 15) = 0 → H106_13 d x1 x2 (x3 + (1 : Int32)) M2 L2 R2 K) ∧ (¬ (M2 23 15) = 0 → K (1 : Int32) M2 L2 R2))))))))) : H106_13 d x1 x2 x3 M ML R K := by
  unfold H106_13
  refine mj_begin4 [13] 80 rfl ?_
  refine mj_if rfl rfl (fun c => ?_) (fun c => ?_)
  · replace h := h.1 c
    refine mj_auto4 [13] 80 rfl ?_
    exact mj_rt rfl rfl rfl ⟨_, _, _, _, rfl, rfl, h⟩
  · replace h := h.2 c
    refine mj_auto4 [13] 80 rfl ?_
    refine fn_gR fm_s0 rfl rfl rfl ?_
    refine mj_auto4 [13] 80 rfl ?_
    refine fn_gR fm_s0 rfl rfl rfl ?_
    refine mj_auto4 [13] 80 rfl ?_
    refine mj_if rfl rfl (fun c => ?_) (fun c => ?_)
    · replace h := h.1 c
      refine mj_auto4 [13] 80 rfl ?_
      refine mj_wVv h (fm_o fm_w23) rfl rfl rfl rfl rfl ⟨rfl, rfl⟩ (fun M1 L1 R1 h => ?_)
      refine mj_auto4 [13] 80 rfl ?_
      refine fn_gR fm_s0 rfl rfl rfl ?_
      refine fn_gI fm_w23 rfl rfl rfl ?_
      refine mj_if rfl rfl (fun c => ?_) (fun c => ?_)
      · replace h := h.1 c
        refine mj_auto4 [13] 80 rfl ?_
        exact h
      · replace h := h.2 c
        refine mj_auto4 [13] 80 rfl ?_
        exact mj_rt rfl rfl rfl ⟨_, _, _, _, rfl, rfl, h⟩
    · replace h := h.2 c
      refine mj_auto4 [13] 80 rfl ?_
      refine mj_wVv h (fm_o fm_w23) rfl rfl rfl rfl rfl ⟨rfl, rfl⟩ (fun M2 L2 R2 h => ?_)
      refine mj_auto4 [13] 80 rfl ?_
      refine fn_gR fm_s0 rfl rfl rfl ?_
      refine fn_gI fm_w23 rfl rfl rfl ?_
      refine mj_if rfl rfl (fun c => ?_) (fun c => ?_)
      · replace h := h.1 c
        refine mj_auto4 [13] 80 rfl ?_
        exact h
      · replace h := h.2 c
        refine mj_auto4 [13] 80 rfl ?_
        exact mj_rt rfl rfl rfl ⟨_, _, _, _, rfl, rfl, h⟩
set_option maxRecDepth 20000 in
theorem w106 {d : Nat} {a1 : Int32} {a2 : Int32} {M : Nat → Nat → Int32} {ML : Nat → Nat → Int64} {R : Nat → Nat → Option Nat} {K : wK} (h : (wV d 48 [.ref 23, .ref 1] M ML R (fun M1 L1 R1 => H106_13 d a1 a2 (0 : Int32) M1 L1 R1 K))) : wI (d + 1) 106 [.ref 0, .int a1, .int a2] M ML R K := by
  refine mj_of _ _ rfl rfl rfl ?_
  refine mj_auto4 [13] 80 rfl ?_
  refine fn_gR fm_s0 rfl rfl rfl ?_
  refine mj_auto4 [13] 80 rfl ?_
  refine fn_gR fm_s0 rfl rfl rfl ?_
  refine mj_wVv h (fm_o fm_w23) rfl rfl rfl rfl rfl ⟨rfl, rfl⟩ (fun M1 L1 R1 h => ?_)
  refine mj_auto4 [13] 80 rfl ?_
  exact h
set_option maxRecDepth 20000 in
theorem w77 {d : Nat} {M : Nat → Nat → Int32} {ML : Nat → Nat → Int64} {R : Nat → Nat → Option Nat} {K : wK} (h : (wI d 24 [.ref 38, .ref 42] M ML R (fun v1 M1 L1 R1 => (wV d 21 [.ref 38] M1 L1 R1 (fun M2 L2 R2 => ((v1 = (-1 : Int32) → (wV d 43 [.ref 40, .ref 42] M2 L2 R2 (fun M3 L3 R3 => K (M3 40 1) M3 L3 R3))) ∧ (¬ v1 = (-1 : Int32) → K ((-1 : Int32) - v1) M2 L2 R2))))))) : wI (d + 1) 77 [.ref 0] M ML R K := by
  refine mj_of _ _ rfl rfl rfl ?_
  refine mj_auto2 [] 80 rfl ?_
  refine fn_gR fm_s0 rfl rfl rfl ?_
  refine mj_auto2 [] 80 rfl ?_
  refine fn_gR fm_s0 rfl rfl rfl ?_
  refine mj_wIv h (fm_o fm_s38) rfl rfl rfl rfl rfl ⟨rfl, rfl⟩ (fun v1 M1 L1 R1 h => ?_)
  refine mj_auto2 [] 80 rfl ?_
  refine fn_gR fm_s0 rfl rfl rfl ?_
  refine mj_wVv h (fm_o fm_s38) rfl rfl rfl rfl rfl ⟨rfl, rfl⟩ (fun M2 L2 R2 h => ?_)
  refine mj_auto2 [] 80 rfl ?_
  refine mj_if rfl rfl (fun c => ?_) (fun c => ?_)
  · replace h := h.1 c
    refine mj_auto2 [] 80 rfl ?_
    refine fn_gR fm_s0 rfl rfl rfl ?_
    refine mj_auto2 [] 80 rfl ?_
    refine fn_gR fm_s0 rfl rfl rfl ?_
    refine mj_wVv h (fm_o fm_s40) rfl rfl rfl rfl rfl ⟨rfl, rfl⟩ (fun M3 L3 R3 h => ?_)
    refine mj_auto2 [] 80 rfl ?_
    refine fn_gR fm_s0 rfl rfl rfl ?_
    refine fn_gI fm_s40 rfl rfl rfl ?_
    exact mj_rt rfl rfl rfl ⟨_, _, _, _, rfl, rfl, h⟩
  · replace h := h.2 c
    refine mj_auto2 [] 80 rfl ?_
    exact mj_rt rfl rfl rfl ⟨_, _, _, _, rfl, rfl, h⟩
