set_option maxRecDepth 20000 in
theorem w2 {d : Nat} {a1 : Int32} {a2 : Int32} {M : Nat → Nat → Int32} {ML : Nat → Nat → Int64} {R : Nat → Nat → Option Nat} {K : wK} (h : ((a1 < 0 → K (-1 : Int32) M ML R) ∧ (¬ a1 < 0 → (((5 : Int32) ≤ a1 → K (-1 : Int32) M ML R) ∧ (¬ (5 : Int32) ≤ a1 → (∃ k1, a1 = nI k1 ∧ k1 < 5 ∧ ((a2 < (M 247 k1) → K (-1 : Int32) M ML R) ∧ (¬ a2 < (M 247 k1) → (∃ k2, a1 = nI k2 ∧ k2 < 5 ∧ ((a2 ≤ (M 248 k2) → (((M 46 2) < (12 : Int32) → (∃ k3, (M 46 2) = nI k3 ∧ k3 < 12 ∧ (∀ M3, M3 = fm_u M 47 k3 a1 → (∃ k4, (M3 46 2) = nI k4 ∧ k4 < 12 ∧ (∀ M4, M4 = fm_u M3 48 k4 a2 → (∀ M5, M5 = fm_u M4 46 2 ((M4 46 2) + (1 : Int32)) → K (M5 46 2) M5 ML R)))))) ∧ (¬ (M 46 2) < (12 : Int32) → K (-1 : Int32) M ML R))) ∧ (¬ a2 ≤ (M 248 k2) → K (-1 : Int32) M ML R))))))))))) : wI (d + 1) 2 [.ref 46, .int a1, .int a2] M ML R K := by
  refine mj_of _ _ rfl rfl rfl ?_
  refine mj_auto3 [] 80 rfl ?_
  refine mj_if rfl rfl (fun c => ?_) (fun c => ?_)
  · replace h := h.1 c
    refine mj_auto3 [] 80 rfl ?_
    exact mj_rt rfl rfl rfl ⟨_, _, _, _, rfl, rfl, h⟩
  · replace h := h.2 c
    refine mj_auto3 [] 80 rfl ?_
    refine mj_if rfl rfl (fun c => ?_) (fun c => ?_)
    · replace h := h.1 c
      refine mj_auto3 [] 80 rfl ?_
      exact mj_rt rfl rfl rfl ⟨_, _, _, _, rfl, rfl, h⟩
    · replace h := h.2 c
      refine mj_auto3 [] 80 rfl ?_
      refine mj_gs1 rfl ?_
      refine mj_auto3 [] 80 rfl ?_
      obtain ⟨k1, c, c2, h⟩ := h
      refine fn_ldk6 c c2 rfl fm_s247 rfl ?_
      refine mj_if rfl rfl (fun c => ?_) (fun c => ?_)
      · replace h := h.1 c
        refine mj_auto3 [] 80 rfl ?_
        exact mj_rt rfl rfl rfl ⟨_, _, _, _, rfl, rfl, h⟩
      · replace h := h.2 c
        refine mj_auto3 [] 80 rfl ?_
        refine mj_gs2 rfl ?_
        refine mj_auto3 [] 80 rfl ?_
        obtain ⟨k2, c, c2, h⟩ := h
        refine fn_ldk6 c c2 rfl fm_s248 rfl ?_
        refine mj_if rfl rfl (fun c => ?_) (fun c => ?_)
        · replace h := h.1 c
          refine mj_auto3 [] 80 rfl ?_
          refine fn_gI fm_s46 rfl rfl rfl ?_
          refine mj_auto3 [] 80 rfl ?_
          refine mj_if rfl rfl (fun c => ?_) (fun c => ?_)
          · replace h := h.1 c
            refine mj_auto3 [] 80 rfl ?_
            refine fn_gR fm_s46 rfl rfl rfl ?_
            refine mj_auto3 [] 80 rfl ?_
            refine fn_gI fm_s46 rfl rfl rfl ?_
            refine mj_auto3 [] 80 rfl ?_
            obtain ⟨k3, c, c2, h⟩ := h
            refine fn_stk c c2 rfl fm_s47 rfl ?_
            replace h := h _ rfl
            refine mj_auto3 [] 80 rfl ?_
            refine fn_gR fm_s46 rfl rfl rfl ?_
            refine mj_auto3 [] 80 rfl ?_
            refine fn_gI fm_s46 rfl rfl rfl ?_
            refine mj_auto3 [] 80 rfl ?_
            obtain ⟨k4, c, c2, h⟩ := h
            refine fn_stk c c2 rfl fm_s48 rfl ?_
            replace h := h _ rfl
            refine mj_auto3 [] 80 rfl ?_
            refine fn_gI fm_s46 rfl rfl rfl ?_
            refine mj_auto3 [] 80 rfl ?_
            refine fn_pI fm_s46 rfl rfl rfl rfl ?_
            replace h := h _ rfl
            refine mj_auto3 [] 80 rfl ?_
            refine fn_gI fm_s46 rfl rfl rfl ?_
            exact mj_rt rfl rfl rfl ⟨_, _, _, _, rfl, rfl, h⟩
          · replace h := h.2 c
            refine mj_auto3 [] 80 rfl ?_
            exact mj_rt rfl rfl rfl ⟨_, _, _, _, rfl, rfl, h⟩
        · replace h := h.2 c
          refine mj_auto3 [] 80 rfl ?_
          exact mj_rt rfl rfl rfl ⟨_, _, _, _, rfl, rfl, h⟩
set_option maxRecDepth 20000 in
theorem w109 {d : Nat} {a1 : Int32} {a2 : Int32} {M : Nat → Nat → Int32} {ML : Nat → Nat → Int64} {R : Nat → Nat → Option Nat} {K : wK} (h : (wI d 2 [.ref 46, .int a1, .int a2] M ML R (fun v1 M1 L1 R1 => K v1 M1 L1 R1))) : wI (d + 1) 109 [.ref 0, .int a1, .int a2] M ML R K := by
  refine mj_of _ _ rfl rfl rfl ?_
  refine mj_auto3 [] 80 rfl ?_
  refine fn_gR fm_s0 rfl rfl rfl ?_
  refine mj_auto3 [] 80 rfl ?_
  refine mj_wIv h (fm_o fm_s46) rfl rfl rfl rfl rfl ⟨rfl, rfl⟩ (fun v1 M1 L1 R1 h => ?_)
  exact mj_rt rfl rfl rfl ⟨_, _, _, _, rfl, rfl, h⟩
def H112_34 (d : Nat) (x1 : Int32) (x2 : Int32) (x3 : Int32) (x4 : Int32) (x5 : Int32) (M : Nat → Nat → Int32) (ML : Nat → Nat → Int64) (R : Nat → Nat → Option Nat) (K : wK) : Prop := mj_Rn d (some .int) kX10_asks (wQ K) (fm_mk (M, ML, R)) 34 [some (.ref 0), some (.int x1), some (.int x2), some (.int x3), some (.int x4), some (.int x5), none, none, none] []
def H112_48 (d : Nat) (x1 : Int32) (x2 : Int32) (x3 : Int32) (x4 : Int32) (x5 : Int32) (x6 : Int32) (M : Nat → Nat → Int32) (ML : Nat → Nat → Int64) (R : Nat → Nat → Option Nat) (K : wK) : Prop := mj_Rn d (some .int) kX10_asks (wQ K) (fm_mk (M, ML, R)) 48 [some (.ref 0), some (.int x1), some (.int x2), some (.int x3), some (.int x4), some (.int x5), some (.int x6), none, none] []
set_option maxRecDepth 20000 in
theorem h112_34 {d : Nat} {x1 : Int32} {x2 : Int32} {x3 : Int32} {x4 : Int32} {x5 : Int32} {M : Nat → Nat → Int32} {ML : Nat → Nat → Int64} {R : Nat → Nat → Option Nat} {K : wK} (h : (((5 : Int32) ≤ x5 → (wV d 15 [.ref 44] M ML R (fun M1 L1 R1 => (wV d 16 [.ref 44, .long ((x4).toInt64)] M1 L1 R1 (fun M2 L2 R2 => K x3 M2 L2 R2))))) ∧ (¬ (5 : Int32) ≤ x5 → (∃ k3, x5 = nI k3 ∧ k3 < 5 ∧ H112_48 d x1 x2 x3 x4 x5 (M 247 k3) M ML R K)))) : H112_34 d x1 x2 x3 x4 x5 M ML R K := by
  unfold H112_34
  refine mj_begin9 [34, 48] 80 rfl ?_
  refine mj_if rfl rfl (fun c => ?_) (fun c => ?_)
  · replace h := h.1 c
    refine mj_auto9 [34, 48] 80 rfl ?_
    refine fn_gR fm_s0 rfl rfl rfl ?_
    refine mj_wVv h (fm_o fm_s44) rfl rfl rfl rfl rfl ⟨rfl, rfl⟩ (fun M1 L1 R1 h => ?_)
    refine mj_auto9 [34, 48] 80 rfl ?_
    refine fn_gR fm_s0 rfl rfl rfl ?_
    refine mj_auto9 [34, 48] 80 rfl ?_
    refine mj_wVv h (fm_o fm_s44) rfl rfl rfl rfl rfl ⟨rfl, rfl⟩ (fun M2 L2 R2 h => ?_)
    refine mj_auto9 [34, 48] 80 rfl ?_
    exact mj_rt rfl rfl rfl ⟨_, _, _, _, rfl, rfl, h⟩
  · replace h := h.2 c
    refine mj_gs1 rfl ?_
    refine mj_auto9 [34, 48] 80 rfl ?_
    obtain ⟨k3, c, c2, h⟩ := h
    refine fn_ldk6 c c2 rfl fm_s247 rfl ?_
    refine mj_auto9 [34, 48] 80 rfl ?_
    exact h
set_option maxRecDepth 20000 in
theorem h112_48 {d : Nat} {x1 : Int32} {x2 : Int32} {x3 : Int32} {x4 : Int32} {x5 : Int32} {x6 : Int32} {M : Nat → Nat → Int32} {ML : Nat → Nat → Int64} {R : Nat → Nat → Option Nat} {K : wK} (h : (∃ k1, x5 = nI k1 ∧ k1 < 5 ∧ (((M 248 k1) < x6 → H112_34 d x1 x2 x3 x4 (x5 + (1 : Int32)) M ML R K) ∧ (¬ (M 248 k1) < x6 → (wI d 5 [.ref 1, .int x1, .int x5, .int x6] M ML R (fun v2 M2 L2 R2 => (wI d 236 [.int v2] M2 L2 R2 (fun v3 M3 L3 R3 => (wI d 239 [.int v3, .int (x2 - v3)] M3 L3 R3 (fun v4 M4 L4 R4 => ((x4 ≤ v4 → H112_48 d x1 x2 x3 x4 x5 (x6 + (1 : Int32)) M4 L4 R4 K) ∧ (¬ x4 ≤ v4 → H112_48 d x1 x2 (((100 : Int32) * x5) + x6) v4 x5 (x6 + (1 : Int32)) M4 L4 R4 K)))))))))))) : H112_48 d x1 x2 x3 x4 x5 x6 M ML R K := by
  unfold H112_48
  refine mj_begin9 [34, 48] 80 rfl ?_
  refine mj_gs2 rfl ?_
  refine mj_auto9 [34, 48] 80 rfl ?_
  obtain ⟨k1, c, c2, h⟩ := h
  refine fn_ldk6 c c2 rfl fm_s248 rfl ?_
  refine mj_if rfl rfl (fun c => ?_) (fun c => ?_)
  · replace h := h.1 c
    refine mj_auto9 [34, 48] 80 rfl ?_
    exact mj_less h (leS (leS (leS (leS (leS (leS (leN (leS (leS le0)))))))))
  · replace h := h.2 c
    refine mj_auto9 [34, 48] 80 rfl ?_
    refine fn_gR fm_s0 rfl rfl rfl ?_
    refine mj_auto9 [34, 48] 80 rfl ?_
    refine mj_wIs h rfl rfl rfl rfl rfl rfl (fun v2 M2 L2 R2 h => ?_)
    refine mj_wIs h rfl rfl rfl rfl rfl rfl (fun v3 M3 L3 R3 h => ?_)
    refine mj_auto9 [34, 48] 80 rfl ?_
    refine mj_wIs h rfl rfl rfl rfl rfl rfl (fun v4 M4 L4 R4 h => ?_)
    refine mj_auto9 [34, 48] 80 rfl ?_
    refine mj_if rfl rfl (fun c => ?_) (fun c => ?_)
    · replace h := h.1 c
      refine mj_auto9 [34, 48] 80 rfl ?_
      exact mj_less h (leS (leS (leS (leS (leS (leS (leS (leN (leN le0)))))))))
    · replace h := h.2 c
      refine mj_auto9 [34, 48] 80 rfl ?_
      exact mj_less h (leS (leS (leS (leS (leS (leS (leS (leN (leN le0)))))))))
set_option maxRecDepth 20000 in
theorem w112 {d : Nat} {M : Nat → Nat → Int32} {ML : Nat → Nat → Int64} {R : Nat → Nat → Option Nat} {K : wK} (h : (wI d 4 [.ref 46, .ref 1] M ML R (fun v1 M1 L1 R1 => ((¬ v1 = 0 → (wI d 236 [.int v1] M1 L1 R1 (fun v2 M2 L2 R2 => H112_34 d v1 v2 (-1 : Int32) (v2 + (1 : Int32)) (0 : Int32) M2 L2 R2 K))) ∧ (v1 = 0 → K (-2 : Int32) M1 L1 R1))))) : wI (d + 1) 112 [.ref 0] M ML R K := by
  refine mj_of _ _ rfl rfl rfl ?_
  refine mj_auto9 [34, 48] 80 rfl ?_
  refine fn_gR fm_s0 rfl rfl rfl ?_
  refine mj_auto9 [34, 48] 80 rfl ?_
  refine fn_gR fm_s0 rfl rfl rfl ?_
  refine mj_wIv h (fm_o fm_s46) rfl rfl rfl rfl rfl ⟨rfl, rfl⟩ (fun v1 M1 L1 R1 h => ?_)
  refine mj_auto9 [34, 48] 80 rfl ?_
  refine mj_if rfl rfl (fun c => ?_) (fun c => ?_)
  · replace h := h.1 c
    refine mj_auto9 [34, 48] 80 rfl ?_
    refine mj_wIs h rfl rfl rfl rfl rfl rfl (fun v2 M2 L2 R2 h => ?_)
    refine mj_auto9 [34, 48] 80 rfl ?_
    exact h
  · replace h := h.2 (Classical.not_not.mp c)
    refine mj_auto9 [34, 48] 80 rfl ?_
    exact mj_rt rfl rfl rfl ⟨_, _, _, _, rfl, rfl, h⟩
set_option maxRecDepth 20000 in
theorem w76 {d : Nat} {M : Nat → Nat → Int32} {ML : Nat → Nat → Int64} {R : Nat → Nat → Option Nat} {K : wK} (h : (wV d 48 [.ref 23, .ref 1] M ML R (fun M1 L1 R1 => (wI d 25 [.ref 38, .ref 23] M1 L1 R1 (fun v2 M2 L2 R2 => (wV d 21 [.ref 38] M2 L2 R2 (fun M3 L3 R3 => ((0 < v2 → (wI d 69 [.ref 23] M3 L3 R3 (fun v4 M4 L4 R4 => ((v4 ≤ ((M4 23 10) * (27720 : Int32)) → (wV d 11 [.ref 34, .ref 1] M4 L4 R4 (fun M5 L5 R5 => (wV d 48 [.ref 1, .ref 23] M5 L5 R5 (fun M6 L6 R6 => K v2 M6 L6 R6))))) ∧ (¬ v4 ≤ ((M4 23 10) * (27720 : Int32)) → K (-100 : Int32) M4 L4 R4))))) ∧ (¬ 0 < v2 → K v2 M3 L3 R3))))))))) : wI (d + 1) 76 [.ref 0] M ML R K := by
  refine mj_of _ _ rfl rfl rfl ?_
  refine mj_auto2 [] 80 rfl ?_
  refine fn_gR fm_s0 rfl rfl rfl ?_
  refine mj_auto2 [] 80 rfl ?_
  refine fn_gR fm_s0 rfl rfl rfl ?_
  refine mj_wVv h (fm_o fm_w23) rfl rfl rfl rfl rfl ⟨rfl, rfl⟩ (fun M1 L1 R1 h => ?_)
  refine mj_auto2 [] 80 rfl ?_
  refine fn_gR fm_s0 rfl rfl rfl ?_
  refine mj_auto2 [] 80 rfl ?_
  refine fn_gR fm_s0 rfl rfl rfl ?_
  refine mj_wIv h (fm_o fm_s38) rfl rfl rfl rfl rfl ⟨rfl, rfl⟩ (fun v2 M2 L2 R2 h => ?_)
  refine mj_auto2 [] 80 rfl ?_
  refine fn_gR fm_s0 rfl rfl rfl ?_
  refine mj_wVv h (fm_o fm_s38) rfl rfl rfl rfl rfl ⟨rfl, rfl⟩ (fun M3 L3 R3 h => ?_)
  refine mj_auto2 [] 80 rfl ?_
  refine mj_if rfl rfl (fun c => ?_) (fun c => ?_)
  · replace h := h.1 c
    refine mj_auto2 [] 80 rfl ?_
    refine fn_gR fm_s0 rfl rfl rfl ?_
    refine mj_wIv h (fm_o fm_w23) rfl rfl rfl rfl rfl ⟨rfl, rfl⟩ (fun v4 M4 L4 R4 h => ?_)
    refine mj_auto2 [] 80 rfl ?_
    refine fn_gR fm_s0 rfl rfl rfl ?_
    refine fn_gI fm_w23 rfl rfl rfl ?_
    refine mj_auto2 [] 80 rfl ?_
    refine mj_if rfl rfl (fun c => ?_) (fun c => ?_)
    · replace h := h.1 c
      refine mj_auto2 [] 80 rfl ?_
      refine fn_gR fm_s0 rfl rfl rfl ?_
      refine mj_auto2 [] 80 rfl ?_
      refine fn_gR fm_s0 rfl rfl rfl ?_
      refine mj_wVv h (fm_o fm_s34) rfl rfl rfl rfl rfl ⟨rfl, rfl⟩ (fun M5 L5 R5 h => ?_)
      refine mj_auto2 [] 80 rfl ?_
      refine fn_gR fm_s0 rfl rfl rfl ?_
      refine mj_auto2 [] 80 rfl ?_
      refine fn_gR fm_s0 rfl rfl rfl ?_
      refine mj_wVv h (fm_o fm_w1) rfl rfl rfl rfl rfl ⟨rfl, rfl⟩ (fun M6 L6 R6 h => ?_)
      refine mj_auto2 [] 80 rfl ?_
      exact mj_rt rfl rfl rfl ⟨_, _, _, _, rfl, rfl, h⟩
    · replace h := h.2 c
      refine mj_auto2 [] 80 rfl ?_
      exact mj_rt rfl rfl rfl ⟨_, _, _, _, rfl, rfl, h⟩
  · replace h := h.2 c
    refine mj_auto2 [] 80 rfl ?_
    exact mj_rt rfl rfl rfl ⟨_, _, _, _, rfl, rfl, h⟩
set_option maxRecDepth 20000 in
theorem w78 {d : Nat} {a1 : Int32} {a2 : Int32} {M : Nat → Nat → Int32} {ML : Nat → Nat → Int64} {R : Nat → Nat → Option Nat} {K : wK} (h : (wI d 49 [.ref 1, .int a1] M ML R (fun v1 M1 L1 R1 => ((¬ v1 = 0 → ((a2 = 0 → (∃ k2, a1 = nI k2 ∧ k2 < 8 ∧ K (M1 2 k2) M1 L1 R1)) ∧ (a2 = 1 → (∃ k3, a1 = nI k3 ∧ k3 < 8 ∧ K (M1 3 k3) M1 L1 R1)) ∧ (a2 = 2 → (∃ k4, a1 = nI k4 ∧ k4 < 8 ∧ K (M1 5 k4) M1 L1 R1)) ∧ (a2 = 3 → (∃ k5, a1 = nI k5 ∧ k5 < 8 ∧ K (M1 6 k5) M1 L1 R1)) ∧ (a2 = 4 → (∃ k6, a1 = nI k6 ∧ k6 < 8 ∧ K (M1 7 k6) M1 L1 R1)) ∧ (¬ a2 = 0 → ¬ a2 = 1 → ¬ a2 = 2 → ¬ a2 = 3 → ¬ a2 = 4 → False))) ∧ (v1 = 0 → False))))) : wI (d + 1) 78 [.ref 0, .int a1, .int a2] M ML R K := by
  refine mj_of _ _ rfl rfl rfl ?_
  refine mj_auto3 [] 80 rfl ?_
  refine fn_gR fm_s0 rfl rfl rfl ?_
  refine mj_auto3 [] 80 rfl ?_
  refine mj_wIv h (fm_o fm_w1) rfl rfl rfl rfl rfl ⟨rfl, rfl⟩ (fun v1 M1 L1 R1 h => ?_)
  refine mj_if rfl rfl (fun c => ?_) (fun c => ?_)
  · replace h := h.1 c
    refine mj_auto3 [] 80 rfl ?_
    by_cases e0 : a2 = 0
    · replace h := h.1 e0
      refine mj_swi 56 rfl rfl (by rw [e0]; decide +kernel) ?_
      refine mj_auto3 [] 80 rfl ?_
      refine fn_gR fm_s0 rfl rfl rfl ?_
      refine fn_gR fm_w1 rfl rfl rfl ?_
      refine mj_auto3 [] 80 rfl ?_
      obtain ⟨k2, c, c2, h⟩ := h
      refine fn_ldk c c2 rfl fm_v2 rfl ?_
      exact mj_rt rfl rfl rfl ⟨_, _, _, _, rfl, rfl, h⟩
    by_cases e1 : a2 = 1
    · replace h := h.2.1 e1
      refine mj_swi 66 rfl rfl (by rw [e1]; decide +kernel) ?_
      refine mj_auto3 [] 80 rfl ?_
      refine fn_gR fm_s0 rfl rfl rfl ?_
      refine fn_gR fm_w1 rfl rfl rfl ?_
      refine mj_auto3 [] 80 rfl ?_
      obtain ⟨k3, c, c2, h⟩ := h
      refine fn_ldk c c2 rfl fm_v3 rfl ?_
      exact mj_rt rfl rfl rfl ⟨_, _, _, _, rfl, rfl, h⟩
    by_cases e2 : a2 = 2
    · replace h := h.2.2.1 e2
      refine mj_swi 76 rfl rfl (by rw [e2]; decide +kernel) ?_
      refine mj_auto3 [] 80 rfl ?_
      refine fn_gR fm_s0 rfl rfl rfl ?_
      refine fn_gR fm_w1 rfl rfl rfl ?_
      refine mj_auto3 [] 80 rfl ?_
      obtain ⟨k4, c, c2, h⟩ := h
      refine fn_ldk c c2 rfl fm_v5 rfl ?_
      exact mj_rt rfl rfl rfl ⟨_, _, _, _, rfl, rfl, h⟩
    by_cases e3 : a2 = 3
    · replace h := h.2.2.2.1 e3
      refine mj_swi 86 rfl rfl (by rw [e3]; decide +kernel) ?_
      refine mj_auto3 [] 80 rfl ?_
      refine fn_gR fm_s0 rfl rfl rfl ?_
      refine fn_gR fm_w1 rfl rfl rfl ?_
      refine mj_auto3 [] 80 rfl ?_
      obtain ⟨k5, c, c2, h⟩ := h
      refine fn_ldk c c2 rfl fm_v6 rfl ?_
      exact mj_rt rfl rfl rfl ⟨_, _, _, _, rfl, rfl, h⟩
    by_cases e4 : a2 = 4
    · replace h := h.2.2.2.2.1 e4
      refine mj_swi 96 rfl rfl (by rw [e4]; decide +kernel) ?_
      refine mj_auto3 [] 80 rfl ?_
      refine fn_gR fm_s0 rfl rfl rfl ?_
      refine fn_gR fm_w1 rfl rfl rfl ?_
      refine mj_auto3 [] 80 rfl ?_
      obtain ⟨k6, c, c2, h⟩ := h
      refine fn_ldk c c2 rfl fm_v7 rfl ?_
      exact mj_rt rfl rfl rfl ⟨_, _, _, _, rfl, rfl, h⟩
    replace h := h.2.2.2.2.2 e0 e1 e2 e3 e4
    refine mj_swi 106 rfl rfl (by show (20 : Int) + (if (a2).toInt < 0 ∨ 4 < (a2).toInt then 86 else _) = 106; rw [if_pos (sw_out4 e0 e1 e2 e3 e4)]; rfl) ?_
    exact False.elim h
  · replace h := h.2 (Classical.not_not.mp c)
    exact False.elim h
set_option maxRecDepth 20000 in
theorem w79 {d : Nat} {a1 : Int32} {a2 : Int32} {a3 : Int32} {M : Nat → Nat → Int32} {ML : Nat → Nat → Int64} {R : Nat → Nat → Option Nat} {K : wK} (h : (wI d 49 [.ref 1, .int a1] M ML R (fun v1 M1 L1 R1 => ((v1 = 0 → False) ∧ (¬ v1 = 0 → ((a2 < (1 : Int32) → False) ∧ (¬ a2 < (1 : Int32) → ((a2 ≤ (200 : Int32) → ((a3 = 0 → (wI d 55 [.ref 1, .int a1, .int a2] M1 L1 R1 (fun v2 M2 L2 R2 => K v2 M2 L2 R2))) ∧ (a3 = 1 → (wI d 56 [.ref 1, .int a1, .int a2] M1 L1 R1 (fun v3 M3 L3 R3 => K v3 M3 L3 R3))) ∧ (a3 = 2 → (wI d 57 [.ref 1, .int a1, .int a2] M1 L1 R1 (fun v4 M4 L4 R4 => K v4 M4 L4 R4))) ∧ (a3 = 3 → (wI d 58 [.ref 1, .int a1, .int a2] M1 L1 R1 (fun v5 M5 L5 R5 => K v5 M5 L5 R5))) ∧ (a3 = 4 → (wI d 56 [.ref 1, .int a1, .int a2] M1 L1 R1 (fun v6 M6 L6 R6 => (wI d 55 [.ref 1, .int a1, .int a2] M6 L6 R6 (fun v7 M7 L7 R7 => K (v6 - v7) M7 L7 R7))))) ∧ (¬ a3 = 0 → ¬ a3 = 1 → ¬ a3 = 2 → ¬ a3 = 3 → ¬ a3 = 4 → False))) ∧ (¬ a2 ≤ (200 : Int32) → False))))))))) : wI (d + 1) 79 [.ref 0, .int a1, .int a2, .int a3] M ML R K := by
  refine mj_of _ _ rfl rfl rfl ?_
  refine mj_auto4 [] 80 rfl ?_
  refine fn_gR fm_s0 rfl rfl rfl ?_
  refine mj_auto4 [] 80 rfl ?_
  refine mj_wIv h (fm_o fm_w1) rfl rfl rfl rfl rfl ⟨rfl, rfl⟩ (fun v1 M1 L1 R1 h => ?_)
  refine mj_if rfl rfl (fun c => ?_) (fun c => ?_)
  · replace h := h.1 c
    exact False.elim h
  · replace h := h.2 c
    refine mj_auto4 [] 80 rfl ?_
    refine mj_if rfl rfl (fun c => ?_) (fun c => ?_)
    · replace h := h.1 c
      exact False.elim h
    · replace h := h.2 c
      refine mj_auto4 [] 80 rfl ?_
      refine mj_if rfl rfl (fun c => ?_) (fun c => ?_)
      · replace h := h.1 c
        refine mj_auto4 [] 80 rfl ?_
        by_cases e0 : a3 = 0
        · replace h := h.1 e0
          refine mj_swi 68 rfl rfl (by rw [e0]; decide +kernel) ?_
          refine mj_auto4 [] 80 rfl ?_
          refine fn_gR fm_s0 rfl rfl rfl ?_
          refine mj_auto4 [] 80 rfl ?_
          refine mj_wIv h (fm_o fm_w1) rfl rfl rfl rfl rfl ⟨rfl, rfl⟩ (fun v2 M2 L2 R2 h => ?_)
          exact mj_rt rfl rfl rfl ⟨_, _, _, _, rfl, rfl, h⟩
        by_cases e1 : a3 = 1
        · replace h := h.2.1 e1
          refine mj_swi 78 rfl rfl (by rw [e1]; decide +kernel) ?_
          refine mj_auto4 [] 80 rfl ?_
          refine fn_gR fm_s0 rfl rfl rfl ?_
          refine mj_auto4 [] 80 rfl ?_
          refine mj_wIv h (fm_o fm_w1) rfl rfl rfl rfl rfl ⟨rfl, rfl⟩ (fun v3 M3 L3 R3 h => ?_)
          exact mj_rt rfl rfl rfl ⟨_, _, _, _, rfl, rfl, h⟩
        by_cases e2 : a3 = 2
        · replace h := h.2.2.1 e2
          refine mj_swi 88 rfl rfl (by rw [e2]; decide +kernel) ?_
          refine mj_auto4 [] 80 rfl ?_
          refine fn_gR fm_s0 rfl rfl rfl ?_
          refine mj_auto4 [] 80 rfl ?_
          refine mj_wIv h (fm_o fm_w1) rfl rfl rfl rfl rfl ⟨rfl, rfl⟩ (fun v4 M4 L4 R4 h => ?_)
          exact mj_rt rfl rfl rfl ⟨_, _, _, _, rfl, rfl, h⟩
        by_cases e3 : a3 = 3
        · replace h := h.2.2.2.1 e3
          refine mj_swi 98 rfl rfl (by rw [e3]; decide +kernel) ?_
          refine mj_auto4 [] 80 rfl ?_
          refine fn_gR fm_s0 rfl rfl rfl ?_
          refine mj_auto4 [] 80 rfl ?_
          refine mj_wIv h (fm_o fm_w1) rfl rfl rfl rfl rfl ⟨rfl, rfl⟩ (fun v5 M5 L5 R5 h => ?_)
          exact mj_rt rfl rfl rfl ⟨_, _, _, _, rfl, rfl, h⟩
        by_cases e4 : a3 = 4
        · replace h := h.2.2.2.2.1 e4
          refine mj_swi 108 rfl rfl (by rw [e4]; decide +kernel) ?_
          refine mj_auto4 [] 80 rfl ?_
          refine fn_gR fm_s0 rfl rfl rfl ?_
          refine mj_auto4 [] 80 rfl ?_
          refine mj_wIv h (fm_o fm_w1) rfl rfl rfl rfl rfl ⟨rfl, rfl⟩ (fun v6 M6 L6 R6 h => ?_)
          refine mj_auto4 [] 80 rfl ?_
          refine fn_gR fm_s0 rfl rfl rfl ?_
          refine mj_auto4 [] 80 rfl ?_
          refine mj_wIv h (fm_o fm_w1) rfl rfl rfl rfl rfl ⟨rfl, rfl⟩ (fun v7 M7 L7 R7 h => ?_)
          refine mj_auto4 [] 80 rfl ?_
          exact mj_rt rfl rfl rfl ⟨_, _, _, _, rfl, rfl, h⟩
        replace h := h.2.2.2.2.2 e0 e1 e2 e3 e4
        refine mj_swi 128 rfl rfl (by show (32 : Int) + (if (a3).toInt < 0 ∨ 4 < (a3).toInt then 96 else _) = 128; rw [if_pos (sw_out4 e0 e1 e2 e3 e4)]; rfl) ?_
        exact False.elim h
      · replace h := h.2 c
        exact False.elim h
def H80_50 (d : Nat) (x1 : Int32) (x2 : Int32) (x3 : Int32) (x4 : Int32) (x5 : Int32) (x6 : Int32) (x7 : Int32) (x8 : Int32) (M : Nat → Nat → Int32) (ML : Nat → Nat → Int64) (R : Nat → Nat → Option Nat) (K : wK) : Prop := mj_Rn d (some .int) kX10_sheet (wQ K) (fm_mk (M, ML, R)) 50 [some (.ref 0), some (.int x1), some (.int x2), some (.int x3), some (.int x4), some (.int x5), some (.int x6), some (.int x7), some (.int x8), none] []
set_option maxRecDepth 20000 in
theorem h80_50 {d : Nat} {x1 : Int32} {x2 : Int32} {x3 : Int32} {x4 : Int32} {x5 : Int32} {x6 : Int32} {x7 : Int32} {x8 : Int32} {M : Nat → Nat → Int32} {ML : Nat → Nat → Int64} {R : Nat → Nat → Option Nat} {K : wK} (h : (((8 : Int32) ≤ x8 → ((¬ x1 = (3 : Int32) → K x7 M ML R) ∧ (x1 = (3 : Int32) → K (-3 : Int32) M ML R))) ∧ (¬ (8 : Int32) ≤ x8 → (wI d 49 [.ref 1, .int x8] M ML R (fun v1 M1 L1 R1 => ((v1 = 0 → H80_50 d x1 x2 x3 x4 x5 x6 x7 (x8 + (1 : Int32)) M1 L1 R1 K) ∧ (¬ v1 = 0 → ((x5 ≤ x6 → (((0 : Int32) = 0 → (∃ k2, x8 = nI k2 ∧ k2 < 8 ∧ (∀ M2, M2 = fm_u M1 6 k2 (0 : Int32) → (∃ k3, x8 = nI k3 ∧ k3 < 8 ∧ H80_50 d x1 x2 x3 x4 x5 (x6 + (1 : Int32)) (x7 + (M2 6 k3)) (x8 + (1 : Int32)) M2 L1 R1 K)))) ∧ (¬ (0 : Int32) = 0 → (∃ k4, x8 = nI k4 ∧ k4 < 8 ∧ (∀ M4, M4 = fm_u M1 6 k4 (1 : Int32) → (∃ k5, x8 = nI k5 ∧ k5 < 8 ∧ H80_50 d x1 x2 x3 x4 x5 (x6 + (1 : Int32)) (x7 + (M4 6 k5)) (x8 + (1 : Int32)) M4 L1 R1 K)))))) ∧ (¬ x5 ≤ x6 → (wI d 81 [.int x1, .int (x3 + (x6 * x4))] M1 L1 R1 (fun v6 M6 L6 R6 => ((v6 ≤ 0 → (((0 : Int32) = 0 → (∃ k7, x8 = nI k7 ∧ k7 < 8 ∧ (∀ M7, M7 = fm_u M6 6 k7 (0 : Int32) → (∃ k8, x8 = nI k8 ∧ k8 < 8 ∧ H80_50 d x1 x2 x3 x4 x5 (x6 + (1 : Int32)) (x7 + (M7 6 k8)) (x8 + (1 : Int32)) M7 L6 R6 K)))) ∧ (¬ (0 : Int32) = 0 → (∃ k9, x8 = nI k9 ∧ k9 < 8 ∧ (∀ M9, M9 = fm_u M6 6 k9 (1 : Int32) → (∃ k10, x8 = nI k10 ∧ k10 < 8 ∧ H80_50 d x1 x2 x3 x4 x5 (x6 + (1 : Int32)) (x7 + (M9 6 k10)) (x8 + (1 : Int32)) M9 L6 R6 K)))))) ∧ (¬ v6 ≤ 0 → (((1 : Int32) = 0 → (∃ k11, x8 = nI k11 ∧ k11 < 8 ∧ (∀ M11, M11 = fm_u M6 6 k11 (0 : Int32) → (∃ k12, x8 = nI k12 ∧ k12 < 8 ∧ H80_50 d x1 x2 x3 x4 x5 (x6 + (1 : Int32)) (x7 + (M11 6 k12)) (x8 + (1 : Int32)) M11 L6 R6 K)))) ∧ (¬ (1 : Int32) = 0 → (∃ k13, x8 = nI k13 ∧ k13 < 8 ∧ (∀ M13, M13 = fm_u M6 6 k13 (1 : Int32) → (∃ k14, x8 = nI k14 ∧ k14 < 8 ∧ H80_50 d x1 x2 x3 x4 x5 (x6 + (1 : Int32)) (x7 + (M13 6 k14)) (x8 + (1 : Int32)) M13 L6 R6 K)))))))))))))))))) : H80_50 d x1 x2 x3 x4 x5 x6 x7 x8 M ML R K := by
  unfold H80_50
  refine mj_begin10 [50] 80 rfl ?_
  refine mj_if rfl rfl (fun c => ?_) (fun c => ?_)
  · replace h := h.1 c
    refine mj_auto10 [50] 80 rfl ?_
    refine mj_if rfl rfl (fun c => ?_) (fun c => ?_)
    · replace h := h.1 c
      refine mj_auto10 [50] 80 rfl ?_
      exact mj_rt rfl rfl rfl ⟨_, _, _, _, rfl, rfl, h⟩
    · replace h := h.2 (Classical.not_not.mp c)
      refine mj_auto10 [50] 80 rfl ?_
      exact mj_rt rfl rfl rfl ⟨_, _, _, _, rfl, rfl, h⟩
  · replace h := h.2 c
    refine mj_auto10 [50] 80 rfl ?_
    refine fn_gR fm_s0 rfl rfl rfl ?_
    refine mj_auto10 [50] 80 rfl ?_
    refine mj_wIv h (fm_o fm_w1) rfl rfl rfl rfl rfl ⟨rfl, rfl⟩ (fun v1 M1 L1 R1 h => ?_)
    refine mj_if rfl rfl (fun c => ?_) (fun c => ?_)
    · replace h := h.1 c
      refine mj_auto10 [50] 80 rfl ?_
      exact h
    · replace h := h.2 c
      refine mj_auto10 [50] 80 rfl ?_
      refine mj_if rfl rfl (fun c => ?_) (fun c => ?_)
      · replace h := h.1 c
        refine mj_auto10 [50] 80 rfl ?_
        refine fn_gR fm_s0 rfl rfl rfl ?_
        refine fn_gR fm_w1 rfl rfl rfl ?_
        refine mj_auto10 [50] 80 rfl ?_
        refine mj_if rfl rfl (fun c => ?_) (fun c => ?_)
        · replace h := h.1 c
          refine mj_auto10 [50] 80 rfl ?_
          obtain ⟨k2, c, c2, h⟩ := h
          refine fn_stk c c2 rfl fm_v6 rfl ?_
          replace h := h _ rfl
          refine mj_auto10 [50] 80 rfl ?_
          refine fn_gR fm_s0 rfl rfl rfl ?_
          refine fn_gR fm_w1 rfl rfl rfl ?_
          refine mj_auto10 [50] 80 rfl ?_
          obtain ⟨k3, c, c2, h⟩ := h
          refine fn_ldk c c2 rfl fm_v6 rfl ?_
          refine mj_auto10 [50] 80 rfl ?_
          exact mj_less h (leS (leS (leS (leS (leS (leS (leS (leS (leS (leN le0))))))))))
        · replace h := h.2 c
          refine mj_auto10 [50] 80 rfl ?_
          obtain ⟨k4, c, c2, h⟩ := h
          refine fn_stk c c2 rfl fm_v6 rfl ?_
          replace h := h _ rfl
          refine mj_auto10 [50] 80 rfl ?_
          refine fn_gR fm_s0 rfl rfl rfl ?_
          refine fn_gR fm_w1 rfl rfl rfl ?_
          refine mj_auto10 [50] 80 rfl ?_
          obtain ⟨k5, c, c2, h⟩ := h
          refine fn_ldk c c2 rfl fm_v6 rfl ?_
          refine mj_auto10 [50] 80 rfl ?_
          exact mj_less h (leS (leS (leS (leS (leS (leS (leS (leS (leS (leN le0))))))))))
      · replace h := h.2 c
        refine mj_auto10 [50] 80 rfl ?_
        refine mj_wIs h rfl rfl rfl rfl rfl rfl (fun v6 M6 L6 R6 h => ?_)
        refine mj_if rfl rfl (fun c => ?_) (fun c => ?_)
        · replace h := h.1 c
          refine mj_auto10 [50] 80 rfl ?_
          refine fn_gR fm_s0 rfl rfl rfl ?_
          refine fn_gR fm_w1 rfl rfl rfl ?_
          refine mj_auto10 [50] 80 rfl ?_
          refine mj_if rfl rfl (fun c => ?_) (fun c => ?_)
          · replace h := h.1 c
            refine mj_auto10 [50] 80 rfl ?_
            obtain ⟨k7, c, c2, h⟩ := h
            refine fn_stk c c2 rfl fm_v6 rfl ?_
            replace h := h _ rfl
            refine mj_auto10 [50] 80 rfl ?_
            refine fn_gR fm_s0 rfl rfl rfl ?_
            refine fn_gR fm_w1 rfl rfl rfl ?_
            refine mj_auto10 [50] 80 rfl ?_
            obtain ⟨k8, c, c2, h⟩ := h
            refine fn_ldk c c2 rfl fm_v6 rfl ?_
            refine mj_auto10 [50] 80 rfl ?_
            exact mj_less h (leS (leS (leS (leS (leS (leS (leS (leS (leS (leN le0))))))))))
          · replace h := h.2 c
            refine mj_auto10 [50] 80 rfl ?_
            obtain ⟨k9, c, c2, h⟩ := h
            refine fn_stk c c2 rfl fm_v6 rfl ?_
            replace h := h _ rfl
            refine mj_auto10 [50] 80 rfl ?_
            refine fn_gR fm_s0 rfl rfl rfl ?_
            refine fn_gR fm_w1 rfl rfl rfl ?_
            refine mj_auto10 [50] 80 rfl ?_
            obtain ⟨k10, c, c2, h⟩ := h
            refine fn_ldk c c2 rfl fm_v6 rfl ?_
            refine mj_auto10 [50] 80 rfl ?_
            exact mj_less h (leS (leS (leS (leS (leS (leS (leS (leS (leS (leN le0))))))))))
        · replace h := h.2 c
          refine mj_auto10 [50] 80 rfl ?_
          refine fn_gR fm_s0 rfl rfl rfl ?_
          refine fn_gR fm_w1 rfl rfl rfl ?_
          refine mj_auto10 [50] 80 rfl ?_
          refine mj_if rfl rfl (fun c => ?_) (fun c => ?_)
          · replace h := h.1 c
            refine mj_auto10 [50] 80 rfl ?_
            obtain ⟨k11, c, c2, h⟩ := h
            refine fn_stk c c2 rfl fm_v6 rfl ?_
            replace h := h _ rfl
            refine mj_auto10 [50] 80 rfl ?_
            refine fn_gR fm_s0 rfl rfl rfl ?_
            refine fn_gR fm_w1 rfl rfl rfl ?_
            refine mj_auto10 [50] 80 rfl ?_
            obtain ⟨k12, c, c2, h⟩ := h
            refine fn_ldk c c2 rfl fm_v6 rfl ?_
            refine mj_auto10 [50] 80 rfl ?_
            exact mj_less h (leS (leS (leS (leS (leS (leS (leS (leS (leS (leN le0))))))))))
          · replace h := h.2 c
            refine mj_auto10 [50] 80 rfl ?_
            obtain ⟨k13, c, c2, h⟩ := h
            refine fn_stk c c2 rfl fm_v6 rfl ?_
            replace h := h _ rfl
            refine mj_auto10 [50] 80 rfl ?_
            refine fn_gR fm_s0 rfl rfl rfl ?_
            refine fn_gR fm_w1 rfl rfl rfl ?_
            refine mj_auto10 [50] 80 rfl ?_
            obtain ⟨k14, c, c2, h⟩ := h
            refine fn_ldk c c2 rfl fm_v6 rfl ?_
            refine mj_auto10 [50] 80 rfl ?_
            exact mj_less h (leS (leS (leS (leS (leS (leS (leS (leS (leS (leN le0))))))))))
set_option maxRecDepth 20000 in
theorem w80 {d : Nat} {a1 : Int32} {a2 : Int32} {a3 : Int32} {a4 : Int32} {M : Nat → Nat → Int32} {ML : Nat → Nat → Int64} {R : Nat → Nat → Option Nat} {K : wK} (h : ((a1 < 0 → K (-1 : Int32) M ML R) ∧ (¬ a1 < 0 → (((3 : Int32) < a1 → K (-1 : Int32) M ML R) ∧ (¬ (3 : Int32) < a1 → ((a2 ≤ (8 : Int32) → ((a1 = (3 : Int32) → ((¬ a1 = (3 : Int32) → H80_50 d a1 a2 a3 a4 a2 (0 : Int32) (0 : Int32) (0 : Int32) M ML R K) ∧ (a1 = (3 : Int32) → H80_50 d a1 a2 a3 a4 (0 : Int32) (0 : Int32) (0 : Int32) (0 : Int32) M ML R K))) ∧ (¬ a1 = (3 : Int32) → ((0 ≤ a2 → ((¬ a1 = (3 : Int32) → H80_50 d a1 a2 a3 a4 a2 (0 : Int32) (0 : Int32) (0 : Int32) M ML R K) ∧ (a1 = (3 : Int32) → H80_50 d a1 a2 a3 a4 (0 : Int32) (0 : Int32) (0 : Int32) (0 : Int32) M ML R K))) ∧ (¬ 0 ≤ a2 → K (-2 : Int32) M ML R))))) ∧ (¬ a2 ≤ (8 : Int32) → K (-1 : Int32) M ML R))))))) : wI (d + 1) 80 [.ref 0, .int a1, .int a2, .int a3, .int a4] M ML R K := by
  refine mj_of _ _ rfl rfl rfl ?_
  refine mj_auto10 [50] 80 rfl ?_
  refine mj_if rfl rfl (fun c => ?_) (fun c => ?_)
  · replace h := h.1 c
    refine mj_auto10 [50] 80 rfl ?_
    exact mj_rt rfl rfl rfl ⟨_, _, _, _, rfl, rfl, h⟩
  · replace h := h.2 c
    refine mj_auto10 [50] 80 rfl ?_
    refine mj_if rfl rfl (fun c => ?_) (fun c => ?_)
    · replace h := h.1 c
      refine mj_auto10 [50] 80 rfl ?_
      exact mj_rt rfl rfl rfl ⟨_, _, _, _, rfl, rfl, h⟩
    · replace h := h.2 c
      refine mj_auto10 [50] 80 rfl ?_
      refine mj_if rfl rfl (fun c => ?_) (fun c => ?_)
      · replace h := h.1 c
        refine mj_auto10 [50] 80 rfl ?_
        refine mj_if rfl rfl (fun c => ?_) (fun c => ?_)
        · replace h := h.1 c
          refine mj_auto10 [50] 80 rfl ?_
          refine mj_if rfl rfl (fun c => ?_) (fun c => ?_)
          · replace h := h.1 c
            refine mj_auto10 [50] 80 rfl ?_
            exact h
          · replace h := h.2 (Classical.not_not.mp c)
            refine mj_auto10 [50] 5 rfl ?_
            refine mj_auto10 [50] 2 rfl ?_
            exact h
        · replace h := h.2 c
          refine mj_auto10 [50] 80 rfl ?_
          refine mj_if rfl rfl (fun c => ?_) (fun c => ?_)
          · replace h := h.1 c
            refine mj_auto10 [50] 80 rfl ?_
            refine mj_if rfl rfl (fun c => ?_) (fun c => ?_)
            · replace h := h.1 c
              refine mj_auto10 [50] 80 rfl ?_
              exact h
            · replace h := h.2 (Classical.not_not.mp c)
              refine mj_auto10 [50] 5 rfl ?_
              refine mj_auto10 [50] 2 rfl ?_
              exact h
          · replace h := h.2 c
            refine mj_auto10 [50] 80 rfl ?_
            exact mj_rt rfl rfl rfl ⟨_, _, _, _, rfl, rfl, h⟩
      · replace h := h.2 c
        refine mj_auto10 [50] 80 rfl ?_
        exact mj_rt rfl rfl rfl ⟨_, _, _, _, rfl, rfl, h⟩
set_option maxRecDepth 20000 in
theorem w83 {d : Nat} {a1 : Int32} {M : Nat → Nat → Int32} {ML : Nat → Nat → Int64} {R : Nat → Nat → Option Nat} {K : wK} (h : (wV d 48 [.ref 12, .ref 1] M ML R (fun M1 L1 R1 => (wI d 64 [.ref 1, .int a1, .ref 40] M1 L1 R1 (fun v2 M2 L2 R2 => ((0 ≤ v2 → (wV d 11 [.ref 34, .ref 12] M2 L2 R2 (fun M3 L3 R3 => (wV d 15 [.ref 44] M3 L3 R3 (fun M4 L4 R4 => (wV d 16 [.ref 44, .long ((((M4 1 12) - (M 1 12))).toInt64)] M4 L4 R4 (fun M5 L5 R5 => (wV d 16 [.ref 44, .long (((M5 1 16)).toInt64)] M5 L5 R5 (fun M6 L6 R6 => K v2 M6 L6 R6))))))))) ∧ (¬ 0 ≤ v2 → K v2 M2 L2 R2))))))) : wI (d + 1) 83 [.ref 0, .int a1] M ML R K := by
  refine mj_of _ _ rfl rfl rfl ?_
  refine mj_auto4 [] 80 rfl ?_
  refine fn_gR fm_s0 rfl rfl rfl ?_
  refine fn_gI fm_w1 rfl rfl rfl ?_
  refine mj_auto4 [] 80 rfl ?_
  refine fn_gR fm_s0 rfl rfl rfl ?_
  refine mj_auto4 [] 80 rfl ?_
  refine fn_gR fm_s0 rfl rfl rfl ?_
  refine mj_wVv h (fm_o fm_w12) rfl rfl rfl rfl rfl ⟨rfl, rfl⟩ (fun M1 L1 R1 h => ?_)
  refine mj_auto4 [] 80 rfl ?_
  refine fn_gR fm_s0 rfl rfl rfl ?_
  refine mj_auto4 [] 80 rfl ?_
  refine fn_gR fm_s0 rfl rfl rfl ?_
  refine mj_wIv h (fm_o fm_w1) rfl rfl rfl rfl rfl ⟨rfl, rfl⟩ (fun v2 M2 L2 R2 h => ?_)
  refine mj_auto4 [] 80 rfl ?_
  refine mj_if rfl rfl (fun c => ?_) (fun c => ?_)
  · replace h := h.1 c
    refine mj_auto4 [] 80 rfl ?_
    refine fn_gR fm_s0 rfl rfl rfl ?_
    refine mj_auto4 [] 80 rfl ?_
    refine fn_gR fm_s0 rfl rfl rfl ?_
    refine mj_wVv h (fm_o fm_s34) rfl rfl rfl rfl rfl ⟨rfl, rfl⟩ (fun M3 L3 R3 h => ?_)
    refine mj_auto4 [] 80 rfl ?_
    refine fn_gR fm_s0 rfl rfl rfl ?_
    refine mj_wVv h (fm_o fm_s44) rfl rfl rfl rfl rfl ⟨rfl, rfl⟩ (fun M4 L4 R4 h => ?_)
    refine mj_auto4 [] 80 rfl ?_
    refine fn_gR fm_s0 rfl rfl rfl ?_
    refine mj_auto4 [] 80 rfl ?_
    refine fn_gR fm_s0 rfl rfl rfl ?_
    refine fn_gI fm_w1 rfl rfl rfl ?_
    refine mj_auto4 [] 80 rfl ?_
    refine mj_wVv h (fm_o fm_s44) rfl rfl rfl rfl rfl ⟨rfl, rfl⟩ (fun M5 L5 R5 h => ?_)
    refine mj_auto4 [] 80 rfl ?_
    refine fn_gR fm_s0 rfl rfl rfl ?_
    refine mj_auto4 [] 80 rfl ?_
    refine fn_gR fm_s0 rfl rfl rfl ?_
    refine fn_gI fm_w1 rfl rfl rfl ?_
    refine mj_auto4 [] 80 rfl ?_
    refine mj_wVv h (fm_o fm_s44) rfl rfl rfl rfl rfl ⟨rfl, rfl⟩ (fun M6 L6 R6 h => ?_)
    refine mj_auto4 [] 80 rfl ?_
    exact mj_rt rfl rfl rfl ⟨_, _, _, _, rfl, rfl, h⟩
  · replace h := h.2 c
    refine mj_auto4 [] 80 rfl ?_
    exact mj_rt rfl rfl rfl ⟨_, _, _, _, rfl, rfl, h⟩
def H88_45 (d : Nat) (x1 : Int32) (x2 : Int32) (x3 : Int32) (x4 : Int32) (x5 : Int32) (M : Nat → Nat → Int32) (ML : Nat → Nat → Int64) (R : Nat → Nat → Option Nat) (K : wK) : Prop := mj_Rn d (some .int) kX10_shift (wQ K) (fm_mk (M, ML, R)) 45 [some (.ref 0), some (.int x1), some (.int x2), some (.int x3), some (.int x4), some (.int x5)] []
set_option maxRecDepth 20000 in
theorem h88_45 {d : Nat} {x1 : Int32} {x2 : Int32} {x3 : Int32} {x4 : Int32} {x5 : Int32} {M : Nat → Nat → Int32} {ML : Nat → Nat → Int64} {R : Nat → Nat → Option Nat} {K : wK} (h : (((60 : Int32) ≤ x5 → (wV d 21 [.ref 38] M ML R (fun M1 L1 R1 => ((x2 ≤ 0 → (wV d 15 [.ref 44] M1 L1 R1 (fun M2 L2 R2 => (wV d 16 [.ref 44, .long ((x3).toInt64)] M2 L2 R2 (fun M3 L3 R3 => (wV d 16 [.ref 44, .long (((M3 1 11)).toInt64)] M3 L3 R3 (fun M4 L4 R4 => K x2 M4 L4 R4))))))) ∧ (¬ x2 ≤ 0 → (wV d 11 [.ref 34, .ref 12] M1 L1 R1 (fun M5 L5 R5 => (wV d 15 [.ref 44] M5 L5 R5 (fun M6 L6 R6 => (wV d 16 [.ref 44, .long ((x3).toInt64)] M6 L6 R6 (fun M7 L7 R7 => (wV d 16 [.ref 44, .long (((M7 1 11)).toInt64)] M7 L7 R7 (fun M8 L8 R8 => K x2 M8 L8 R8))))))))))))) ∧ (¬ (60 : Int32) ≤ x5 → (((M 38 1) ≤ x4 → (wV d 21 [.ref 38] M ML R (fun M9 L9 R9 => ((x2 ≤ 0 → (wV d 15 [.ref 44] M9 L9 R9 (fun M10 L10 R10 => (wV d 16 [.ref 44, .long ((x3).toInt64)] M10 L10 R10 (fun M11 L11 R11 => (wV d 16 [.ref 44, .long (((M11 1 11)).toInt64)] M11 L11 R11 (fun M12 L12 R12 => K x2 M12 L12 R12))))))) ∧ (¬ x2 ≤ 0 → (wV d 11 [.ref 34, .ref 12] M9 L9 R9 (fun M13 L13 R13 => (wV d 15 [.ref 44] M13 L13 R13 (fun M14 L14 R14 => (wV d 16 [.ref 44, .long ((x3).toInt64)] M14 L14 R14 (fun M15 L15 R15 => (wV d 16 [.ref 44, .long (((M15 1 11)).toInt64)] M15 L15 R15 (fun M16 L16 R16 => K x2 M16 L16 R16))))))))))))) ∧ (¬ (M 38 1) ≤ x4 → ((¬ x3 = 0 → (wV d 21 [.ref 38] M ML R (fun M17 L17 R17 => ((x2 ≤ 0 → (wV d 15 [.ref 44] M17 L17 R17 (fun M18 L18 R18 => (wV d 16 [.ref 44, .long ((x3).toInt64)] M18 L18 R18 (fun M19 L19 R19 => (wV d 16 [.ref 44, .long (((M19 1 11)).toInt64)] M19 L19 R19 (fun M20 L20 R20 => K x2 M20 L20 R20))))))) ∧ (¬ x2 ≤ 0 → (wV d 11 [.ref 34, .ref 12] M17 L17 R17 (fun M21 L21 R21 => (wV d 15 [.ref 44] M21 L21 R21 (fun M22 L22 R22 => (wV d 16 [.ref 44, .long ((x3).toInt64)] M22 L22 R22 (fun M23 L23 R23 => (wV d 16 [.ref 44, .long (((M23 1 11)).toInt64)] M23 L23 R23 (fun M24 L24 R24 => K x2 M24 L24 R24))))))))))))) ∧ (x3 = 0 → (wI d 89 [.ref 0, .int x4] M ML R (fun v25 M25 L25 R25 => ((0 ≤ v25 → (wI d 28 [.ref 38, .int x4] M25 L25 R25 (fun v26 M26 L26 R26 => H88_45 d x1 (x2 + (1 : Int32)) x3 (x4 + v26) (x5 + (1 : Int32)) M26 L26 R26 K))) ∧ (¬ 0 ≤ v25 → H88_45 d x1 x2 (1 : Int32) x4 (x5 + (1 : Int32)) M25 L25 R25 K))))))))))) : H88_45 d x1 x2 x3 x4 x5 M ML R K := by
  unfold H88_45
  refine mj_begin6 [45] 80 rfl ?_
  refine mj_if rfl rfl (fun c => ?_) (fun c => ?_)
  · replace h := h.1 c
    refine mj_auto6 [45] 80 rfl ?_
    refine fn_gR fm_s0 rfl rfl rfl ?_
    refine mj_wVv h (fm_o fm_s38) rfl rfl rfl rfl rfl ⟨rfl, rfl⟩ (fun M1 L1 R1 h => ?_)
    refine mj_auto6 [45] 80 rfl ?_
    refine mj_if rfl rfl (fun c => ?_) (fun c => ?_)
    · replace h := h.1 c
      refine mj_auto6 [45] 80 rfl ?_
      refine fn_gR fm_s0 rfl rfl rfl ?_
      refine mj_wVv h (fm_o fm_s44) rfl rfl rfl rfl rfl ⟨rfl, rfl⟩ (fun M2 L2 R2 h => ?_)
      refine mj_auto6 [45] 80 rfl ?_
      refine fn_gR fm_s0 rfl rfl rfl ?_
      refine mj_auto6 [45] 80 rfl ?_
      refine mj_wVv h (fm_o fm_s44) rfl rfl rfl rfl rfl ⟨rfl, rfl⟩ (fun M3 L3 R3 h => ?_)
      refine mj_auto6 [45] 80 rfl ?_
      refine fn_gR fm_s0 rfl rfl rfl ?_
      refine mj_auto6 [45] 80 rfl ?_
      refine fn_gR fm_s0 rfl rfl rfl ?_
      refine fn_gI fm_w1 rfl rfl rfl ?_
      refine mj_auto6 [45] 80 rfl ?_
      refine mj_wVv h (fm_o fm_s44) rfl rfl rfl rfl rfl ⟨rfl, rfl⟩ (fun M4 L4 R4 h => ?_)
      refine mj_auto6 [45] 80 rfl ?_
      exact mj_rt rfl rfl rfl ⟨_, _, _, _, rfl, rfl, h⟩
    · replace h := h.2 c
      refine mj_auto6 [45] 80 rfl ?_
      refine fn_gR fm_s0 rfl rfl rfl ?_
      refine mj_auto6 [45] 80 rfl ?_
      refine fn_gR fm_s0 rfl rfl rfl ?_
      refine mj_wVv h (fm_o fm_s34) rfl rfl rfl rfl rfl ⟨rfl, rfl⟩ (fun M5 L5 R5 h => ?_)
      refine mj_auto6 [45] 80 rfl ?_
      refine fn_gR fm_s0 rfl rfl rfl ?_
      refine mj_wVv h (fm_o fm_s44) rfl rfl rfl rfl rfl ⟨rfl, rfl⟩ (fun M6 L6 R6 h => ?_)
      refine mj_auto6 [45] 80 rfl ?_
      refine fn_gR fm_s0 rfl rfl rfl ?_
      refine mj_auto6 [45] 80 rfl ?_
      refine mj_wVv h (fm_o fm_s44) rfl rfl rfl rfl rfl ⟨rfl, rfl⟩ (fun M7 L7 R7 h => ?_)
      refine mj_auto6 [45] 80 rfl ?_
      refine fn_gR fm_s0 rfl rfl rfl ?_
      refine mj_auto6 [45] 80 rfl ?_
      refine fn_gR fm_s0 rfl rfl rfl ?_
      refine fn_gI fm_w1 rfl rfl rfl ?_
      refine mj_auto6 [45] 80 rfl ?_
      refine mj_wVv h (fm_o fm_s44) rfl rfl rfl rfl rfl ⟨rfl, rfl⟩ (fun M8 L8 R8 h => ?_)
      refine mj_auto6 [45] 80 rfl ?_
      exact mj_rt rfl rfl rfl ⟨_, _, _, _, rfl, rfl, h⟩
  · replace h := h.2 c
    refine mj_auto6 [45] 80 rfl ?_
    refine fn_gR fm_s0 rfl rfl rfl ?_
    refine fn_gI fm_s38 rfl rfl rfl ?_
    refine mj_if rfl rfl (fun c => ?_) (fun c => ?_)
    · replace h := h.1 c
      refine mj_auto6 [45] 80 rfl ?_
      refine fn_gR fm_s0 rfl rfl rfl ?_
      refine mj_wVv h (fm_o fm_s38) rfl rfl rfl rfl rfl ⟨rfl, rfl⟩ (fun M9 L9 R9 h => ?_)
      refine mj_auto6 [45] 80 rfl ?_
      refine mj_if rfl rfl (fun c => ?_) (fun c => ?_)
      · replace h := h.1 c
        refine mj_auto6 [45] 80 rfl ?_
        refine fn_gR fm_s0 rfl rfl rfl ?_
        refine mj_wVv h (fm_o fm_s44) rfl rfl rfl rfl rfl ⟨rfl, rfl⟩ (fun M10 L10 R10 h => ?_)
        refine mj_auto6 [45] 80 rfl ?_
        refine fn_gR fm_s0 rfl rfl rfl ?_
        refine mj_auto6 [45] 80 rfl ?_
        refine mj_wVv h (fm_o fm_s44) rfl rfl rfl rfl rfl ⟨rfl, rfl⟩ (fun M11 L11 R11 h => ?_)
        refine mj_auto6 [45] 80 rfl ?_
        refine fn_gR fm_s0 rfl rfl rfl ?_
        refine mj_auto6 [45] 80 rfl ?_
        refine fn_gR fm_s0 rfl rfl rfl ?_
        refine fn_gI fm_w1 rfl rfl rfl ?_
        refine mj_auto6 [45] 80 rfl ?_
        refine mj_wVv h (fm_o fm_s44) rfl rfl rfl rfl rfl ⟨rfl, rfl⟩ (fun M12 L12 R12 h => ?_)
        refine mj_auto6 [45] 80 rfl ?_
        exact mj_rt rfl rfl rfl ⟨_, _, _, _, rfl, rfl, h⟩
      · replace h := h.2 c
        refine mj_auto6 [45] 80 rfl ?_
        refine fn_gR fm_s0 rfl rfl rfl ?_
        refine mj_auto6 [45] 80 rfl ?_
        refine fn_gR fm_s0 rfl rfl rfl ?_
        refine mj_wVv h (fm_o fm_s34) rfl rfl rfl rfl rfl ⟨rfl, rfl⟩ (fun M13 L13 R13 h => ?_)
        refine mj_auto6 [45] 80 rfl ?_
        refine fn_gR fm_s0 rfl rfl rfl ?_
        refine mj_wVv h (fm_o fm_s44) rfl rfl rfl rfl rfl ⟨rfl, rfl⟩ (fun M14 L14 R14 h => ?_)
        refine mj_auto6 [45] 80 rfl ?_
        refine fn_gR fm_s0 rfl rfl rfl ?_
        refine mj_auto6 [45] 80 rfl ?_
        refine mj_wVv h (fm_o fm_s44) rfl rfl rfl rfl rfl ⟨rfl, rfl⟩ (fun M15 L15 R15 h => ?_)
        refine mj_auto6 [45] 80 rfl ?_
        refine fn_gR fm_s0 rfl rfl rfl ?_
        refine mj_auto6 [45] 80 rfl ?_
        refine fn_gR fm_s0 rfl rfl rfl ?_
        refine fn_gI fm_w1 rfl rfl rfl ?_
        refine mj_auto6 [45] 80 rfl ?_
        refine mj_wVv h (fm_o fm_s44) rfl rfl rfl rfl rfl ⟨rfl, rfl⟩ (fun M16 L16 R16 h => ?_)
        refine mj_auto6 [45] 80 rfl ?_
        exact mj_rt rfl rfl rfl ⟨_, _, _, _, rfl, rfl, h⟩
    · replace h := h.2 c
      refine mj_auto6 [45] 80 rfl ?_
      refine mj_if rfl rfl (fun c => ?_) (fun c => ?_)
      · replace h := h.1 c
        refine mj_auto6 [45] 80 rfl ?_
        refine fn_gR fm_s0 rfl rfl rfl ?_
        refine mj_wVv h (fm_o fm_s38) rfl rfl rfl rfl rfl ⟨rfl, rfl⟩ (fun M17 L17 R17 h => ?_)
        refine mj_auto6 [45] 80 rfl ?_
        refine mj_if rfl rfl (fun c => ?_) (fun c => ?_)
        · replace h := h.1 c
          refine mj_auto6 [45] 80 rfl ?_
          refine fn_gR fm_s0 rfl rfl rfl ?_
          refine mj_wVv h (fm_o fm_s44) rfl rfl rfl rfl rfl ⟨rfl, rfl⟩ (fun M18 L18 R18 h => ?_)
          refine mj_auto6 [45] 80 rfl ?_
          refine fn_gR fm_s0 rfl rfl rfl ?_
          refine mj_auto6 [45] 80 rfl ?_
          refine mj_wVv h (fm_o fm_s44) rfl rfl rfl rfl rfl ⟨rfl, rfl⟩ (fun M19 L19 R19 h => ?_)
          refine mj_auto6 [45] 80 rfl ?_
          refine fn_gR fm_s0 rfl rfl rfl ?_
          refine mj_auto6 [45] 80 rfl ?_
          refine fn_gR fm_s0 rfl rfl rfl ?_
          refine fn_gI fm_w1 rfl rfl rfl ?_
          refine mj_auto6 [45] 80 rfl ?_
          refine mj_wVv h (fm_o fm_s44) rfl rfl rfl rfl rfl ⟨rfl, rfl⟩ (fun M20 L20 R20 h => ?_)
          refine mj_auto6 [45] 80 rfl ?_
          exact mj_rt rfl rfl rfl ⟨_, _, _, _, rfl, rfl, h⟩
        · replace h := h.2 c
          refine mj_auto6 [45] 80 rfl ?_
          refine fn_gR fm_s0 rfl rfl rfl ?_
          refine mj_auto6 [45] 80 rfl ?_
          refine fn_gR fm_s0 rfl rfl rfl ?_
          refine mj_wVv h (fm_o fm_s34) rfl rfl rfl rfl rfl ⟨rfl, rfl⟩ (fun M21 L21 R21 h => ?_)
          refine mj_auto6 [45] 80 rfl ?_
          refine fn_gR fm_s0 rfl rfl rfl ?_
          refine mj_wVv h (fm_o fm_s44) rfl rfl rfl rfl rfl ⟨rfl, rfl⟩ (fun M22 L22 R22 h => ?_)
          refine mj_auto6 [45] 80 rfl ?_
          refine fn_gR fm_s0 rfl rfl rfl ?_
          refine mj_auto6 [45] 80 rfl ?_
          refine mj_wVv h (fm_o fm_s44) rfl rfl rfl rfl rfl ⟨rfl, rfl⟩ (fun M23 L23 R23 h => ?_)
          refine mj_auto6 [45] 80 rfl ?_
          refine fn_gR fm_s0 rfl rfl rfl ?_
          refine mj_auto6 [45] 80 rfl ?_
          refine fn_gR fm_s0 rfl rfl rfl ?_
          refine fn_gI fm_w1 rfl rfl rfl ?_
          refine mj_auto6 [45] 80 rfl ?_
          refine mj_wVv h (fm_o fm_s44) rfl rfl rfl rfl rfl ⟨rfl, rfl⟩ (fun M24 L24 R24 h => ?_)
          refine mj_auto6 [45] 80 rfl ?_
          exact mj_rt rfl rfl rfl ⟨_, _, _, _, rfl, rfl, h⟩
      · replace h := h.2 (Classical.not_not.mp c)
        refine mj_auto6 [45] 80 rfl ?_
        refine mj_wIv h (fm_o fm_s0) rfl rfl rfl rfl rfl ⟨rfl, rfl⟩ (fun v25 M25 L25 R25 h => ?_)
        refine mj_if rfl rfl (fun c => ?_) (fun c => ?_)
        · replace h := h.1 c
          refine mj_auto6 [45] 80 rfl ?_
          refine fn_gR fm_s0 rfl rfl rfl ?_
          refine mj_auto6 [45] 80 rfl ?_
          refine mj_wIv h (fm_o fm_s38) rfl rfl rfl rfl rfl ⟨rfl, rfl⟩ (fun v26 M26 L26 R26 h => ?_)
          refine mj_auto6 [45] 80 rfl ?_
          exact h
        · replace h := h.2 c
          refine mj_auto6 [45] 80 rfl ?_
          exact h
set_option maxRecDepth 20000 in
theorem w88 {d : Nat} {M : Nat → Nat → Int32} {ML : Nat → Nat → Int64} {R : Nat → Nat → Option Nat} {K : wK} (h : (wI d 29 [.ref 38] M ML R (fun v1 M1 L1 R1 => ((v1 = (-1 : Int32) → (wV d 48 [.ref 12, .ref 1] M1 L1 R1 (fun M2 L2 R2 => H88_45 d v1 (0 : Int32) (0 : Int32) (0 : Int32) (0 : Int32) M2 L2 R2 K))) ∧ (¬ v1 = (-1 : Int32) → (wV d 21 [.ref 38] M1 L1 R1 (fun M3 L3 R3 => K ((-1 : Int32) - v1) M3 L3 R3))))))) : wI (d + 1) 88 [.ref 0] M ML R K := by
  refine mj_of _ _ rfl rfl rfl ?_
  refine mj_auto6 [45] 80 rfl ?_
  refine fn_gR fm_s0 rfl rfl rfl ?_
  refine mj_wIv h (fm_o fm_s38) rfl rfl rfl rfl rfl ⟨rfl, rfl⟩ (fun v1 M1 L1 R1 h => ?_)
  refine mj_auto6 [45] 80 rfl ?_
  refine mj_if rfl rfl (fun c => ?_) (fun c => ?_)
  · replace h := h.1 c
    refine mj_auto6 [45] 80 rfl ?_
    refine fn_gR fm_s0 rfl rfl rfl ?_
    refine mj_auto6 [45] 80 rfl ?_
    refine fn_gR fm_s0 rfl rfl rfl ?_
    refine mj_wVv h (fm_o fm_w12) rfl rfl rfl rfl rfl ⟨rfl, rfl⟩ (fun M2 L2 R2 h => ?_)
    refine mj_auto6 [45] 80 rfl ?_
    exact h
  · replace h := h.2 c
    refine mj_auto6 [45] 80 rfl ?_
    refine fn_gR fm_s0 rfl rfl rfl ?_
    refine mj_wVv h (fm_o fm_s38) rfl rfl rfl rfl rfl ⟨rfl, rfl⟩ (fun M3 L3 R3 h => ?_)
    refine mj_auto6 [45] 80 rfl ?_
    exact mj_rt rfl rfl rfl ⟨_, _, _, _, rfl, rfl, h⟩
set_option maxRecDepth 20000 in
theorem w89 {d : Nat} {a1 : Int32} {M : Nat → Nat → Int32} {ML : Nat → Nat → Int64} {R : Nat → Nat → Option Nat} {K : wK} (h : (wI d 23 [.ref 38, .int (a1 + (1 : Int32))] M ML R (fun v1 M1 L1 R1 => (wI d 22 [.ref 38, .int a1] M1 L1 R1 (fun v2 M2 L2 R2 => ((v2 = 42 → (wI d 64 [.ref 1, .int (1 : Int32), .ref 40] M2 L2 R2 (fun v3 M3 L3 R3 => K v3 M3 L3 R3))) ∧ (v2 = 104 → (wI d 68 [.ref 1, .int v1] M2 L2 R2 (fun v4 M4 L4 R4 => K v4 M4 L4 R4))) ∧ (v2 = 108 → (wI d 66 [.ref 1, .int v1] M2 L2 R2 (fun v5 M5 L5 R5 => K v5 M5 L5 R5))) ∧ (v2 = 110 → (wI d 23 [.ref 38, .int (a1 + (2 : Int32))] M2 L2 R2 (fun v6 M6 L6 R6 => (wI d 64 [.ref 1, .int (((10 : Int32) * v1) + v6), .ref 40] M6 L6 R6 (fun v7 M7 L7 R7 => K v7 M7 L7 R7))))) ∧ (v2 = 112 → (wI d 65 [.ref 1, .int v1] M2 L2 R2 (fun v8 M8 L8 R8 => K v8 M8 L8 R8))) ∧ (¬ v2 = 42 → ¬ v2 = 104 → ¬ v2 = 108 → ¬ v2 = 110 → ¬ v2 = 112 → K (-1 : Int32) M2 L2 R2))))))) : wI (d + 1) 89 [.ref 0, .int a1] M ML R K := by
  refine mj_of _ _ rfl rfl rfl ?_
  refine mj_auto3 [] 80 rfl ?_
  refine fn_gR fm_s0 rfl rfl rfl ?_
  refine mj_auto3 [] 80 rfl ?_
  refine mj_wIv h (fm_o fm_s38) rfl rfl rfl rfl rfl ⟨rfl, rfl⟩ (fun v1 M1 L1 R1 h => ?_)
  refine mj_auto3 [] 80 rfl ?_
  refine fn_gR fm_s0 rfl rfl rfl ?_
  refine mj_auto3 [] 80 rfl ?_
  refine mj_wIv h (fm_o fm_s38) rfl rfl rfl rfl rfl ⟨rfl, rfl⟩ (fun v2 M2 L2 R2 h => ?_)
  by_cases e0 : v2 = 42
  · replace h := h.1 e0
    refine mj_swi 68 rfl rfl (by rw [e0]; decide +kernel) ?_
    refine mj_auto3 [] 80 rfl ?_
    refine fn_gR fm_s0 rfl rfl rfl ?_
    refine mj_auto3 [] 80 rfl ?_
    refine fn_gR fm_s0 rfl rfl rfl ?_
    refine mj_wIv h (fm_o fm_w1) rfl rfl rfl rfl rfl ⟨rfl, rfl⟩ (fun v3 M3 L3 R3 h => ?_)
    exact mj_rt rfl rfl rfl ⟨_, _, _, _, rfl, rfl, h⟩
  by_cases e1 : v2 = 104
  · replace h := h.2.1 e1
    refine mj_swi 126 rfl rfl (by rw [e1]; decide +kernel) ?_
    refine mj_auto3 [] 80 rfl ?_
    refine fn_gR fm_s0 rfl rfl rfl ?_
    refine mj_auto3 [] 80 rfl ?_
    refine mj_wIv h (fm_o fm_w1) rfl rfl rfl rfl rfl ⟨rfl, rfl⟩ (fun v4 M4 L4 R4 h => ?_)
    exact mj_rt rfl rfl rfl ⟨_, _, _, _, rfl, rfl, h⟩
  by_cases e2 : v2 = 108
  · replace h := h.2.2.1 e2
    refine mj_swi 117 rfl rfl (by rw [e2]; decide +kernel) ?_
    refine mj_auto3 [] 80 rfl ?_
    refine fn_gR fm_s0 rfl rfl rfl ?_
    refine mj_auto3 [] 80 rfl ?_
    refine mj_wIv h (fm_o fm_w1) rfl rfl rfl rfl rfl ⟨rfl, rfl⟩ (fun v5 M5 L5 R5 h => ?_)
    exact mj_rt rfl rfl rfl ⟨_, _, _, _, rfl, rfl, h⟩
  by_cases e3 : v2 = 110
  · replace h := h.2.2.2.1 e3
    refine mj_swi 81 rfl rfl (by rw [e3]; decide +kernel) ?_
    refine mj_auto3 [] 80 rfl ?_
    refine fn_gR fm_s0 rfl rfl rfl ?_
    refine mj_auto3 [] 80 rfl ?_
    refine fn_gR fm_s0 rfl rfl rfl ?_
    refine mj_auto3 [] 80 rfl ?_
    refine mj_wIv h (fm_o fm_s38) rfl rfl rfl rfl rfl ⟨rfl, rfl⟩ (fun v6 M6 L6 R6 h => ?_)
    refine mj_auto3 [] 80 rfl ?_
    refine fn_gR fm_s0 rfl rfl rfl ?_
    refine mj_wIv h (fm_o fm_w1) rfl rfl rfl rfl rfl ⟨rfl, rfl⟩ (fun v7 M7 L7 R7 h => ?_)
    exact mj_rt rfl rfl rfl ⟨_, _, _, _, rfl, rfl, h⟩
  by_cases e4 : v2 = 112
  · replace h := h.2.2.2.2.1 e4
    refine mj_swi 108 rfl rfl (by rw [e4]; decide +kernel) ?_
    refine mj_auto3 [] 80 rfl ?_
    refine fn_gR fm_s0 rfl rfl rfl ?_
    refine mj_auto3 [] 80 rfl ?_
    refine mj_wIv h (fm_o fm_w1) rfl rfl rfl rfl rfl ⟨rfl, rfl⟩ (fun v8 M8 L8 R8 h => ?_)
    exact mj_rt rfl rfl rfl ⟨_, _, _, _, rfl, rfl, h⟩
  replace h := h.2.2.2.2.2 e0 e1 e2 e3 e4
  refine mj_swi 135 rfl rfl (by show (19 : Int) + Op.lookupswitch.offset [(42, 49), (104, 107), (108, 98), (110, 62), (112, 89)] 116 (v2).toInt = 135; rw [lv_osw (a := 42) e0 rfl, lv_osw (a := 104) e1 rfl, lv_osw (a := 108) e2 rfl, lv_osw (a := 110) e3 rfl, lv_osw (a := 112) e4 rfl]; rfl) ?_
  refine mj_auto3 [] 80 rfl ?_
  exact mj_rt rfl rfl rfl ⟨_, _, _, _, rfl, rfl, h⟩
set_option maxRecDepth 20000 in
theorem w92 {d : Nat} {M : Nat → Nat → Int32} {ML : Nat → Nat → Int64} {R : Nat → Nat → Option Nat} {K : wK} (h : (wI d 69 [.ref 1] M ML R (fun v1 M1 L1 R1 => (wV d 15 [.ref 44] M1 L1 R1 (fun M2 L2 R2 => (wV d 17 [.ref 44, .long ((v1).toInt64), .long (Int64.ofNat 27720)] M2 L2 R2 (fun M3 L3 R3 => (wV d 17 [.ref 44, .long (((((M3 1 10) * (27720 : Int32)) - v1)).toInt64), .long (Int64.ofNat 27720)] M3 L3 R3 (fun M4 L4 R4 => K (0 : Int32) M4 L4 R4))))))))) : wI (d + 1) 92 [.ref 0] M ML R K := by
  refine mj_of _ _ rfl rfl rfl ?_
  refine mj_auto2 [] 80 rfl ?_
  refine fn_gR fm_s0 rfl rfl rfl ?_
  refine mj_wIv h (fm_o fm_w1) rfl rfl rfl rfl rfl ⟨rfl, rfl⟩ (fun v1 M1 L1 R1 h => ?_)
  refine mj_auto2 [] 80 rfl ?_
  refine fn_gR fm_s0 rfl rfl rfl ?_
  refine mj_wVv h (fm_o fm_s44) rfl rfl rfl rfl rfl ⟨rfl, rfl⟩ (fun M2 L2 R2 h => ?_)
  refine mj_auto2 [] 80 rfl ?_
  refine fn_gR fm_s0 rfl rfl rfl ?_
  refine mj_auto2 [] 80 rfl ?_
  refine mj_wVv h (fm_o fm_s44) rfl rfl rfl rfl rfl ⟨rfl, rfl⟩ (fun M3 L3 R3 h => ?_)
  refine mj_auto2 [] 80 rfl ?_
  refine fn_gR fm_s0 rfl rfl rfl ?_
  refine mj_auto2 [] 80 rfl ?_
  refine fn_gR fm_s0 rfl rfl rfl ?_
  refine fn_gI fm_w1 rfl rfl rfl ?_
  refine mj_auto2 [] 80 rfl ?_
  refine mj_wVv h (fm_o fm_s44) rfl rfl rfl rfl rfl ⟨rfl, rfl⟩ (fun M4 L4 R4 h => ?_)
  refine mj_auto2 [] 80 rfl ?_
  exact mj_rt rfl rfl rfl ⟨_, _, _, _, rfl, rfl, h⟩
def H93_23 (d : Nat) (x1 : Int32) (x2 : Int32) (x3 : Int32) (M : Nat → Nat → Int32) (ML : Nat → Nat → Int64) (R : Nat → Nat → Option Nat) (K : wK) : Prop := mj_Rn d (some .int) kX10_order (wQ K) (fm_mk (M, ML, R)) 23 [some (.ref 0), some (.int x1), some (.int x2), some (.int x3), none] []
set_option maxRecDepth 20000 in
theorem h93_23 {d : Nat} {x1 : Int32} {x2 : Int32} {x3 : Int32} {M : Nat → Nat → Int32} {ML : Nat → Nat → Int64} {R : Nat → Nat → Option Nat} {K : wK} (h : ((x2 ≤ x3 → K x2 M ML R) ∧ (¬ x2 ≤ x3 → (wI d 62 [.ref 1, .int x1, .ref 40] M ML R (fun v1 M1 L1 R1 => (wV d 16 [.ref 44, .long ((v1).toInt64)] M1 L1 R1 (fun M2 L2 R2 => H93_23 d (x1 &&& (((1 : Int32) <<< (v1 &&& 31)) ^^^ (-1 : Int32))) x2 (x3 + (1 : Int32)) M2 L2 R2 K))))))) : H93_23 d x1 x2 x3 M ML R K := by
  unfold H93_23
  refine mj_begin5 [23] 80 rfl ?_
  refine mj_if rfl rfl (fun c => ?_) (fun c => ?_)
  · replace h := h.1 c
    refine mj_auto5 [23] 80 rfl ?_
    exact mj_rt rfl rfl rfl ⟨_, _, _, _, rfl, rfl, h⟩
  · replace h := h.2 c
    refine mj_auto5 [23] 80 rfl ?_
    refine fn_gR fm_s0 rfl rfl rfl ?_
    refine mj_auto5 [23] 80 rfl ?_
    refine fn_gR fm_s0 rfl rfl rfl ?_
    refine mj_wIv h (fm_o fm_w1) rfl rfl rfl rfl rfl ⟨rfl, rfl⟩ (fun v1 M1 L1 R1 h => ?_)
    refine mj_auto5 [23] 80 rfl ?_
    refine fn_gR fm_s0 rfl rfl rfl ?_
    refine mj_auto5 [23] 80 rfl ?_
    refine mj_wVv h (fm_o fm_s44) rfl rfl rfl rfl rfl ⟨rfl, rfl⟩ (fun M2 L2 R2 h => ?_)
    refine mj_auto5 [23] 80 rfl ?_
    exact mj_less h (leS (leS (leS (leS (leN le0)))))
set_option maxRecDepth 20000 in
theorem w93 {d : Nat} {M : Nat → Nat → Int32} {ML : Nat → Nat → Int64} {R : Nat → Nat → Option Nat} {K : wK} (h : (wV d 15 [.ref 44] M ML R (fun M1 L1 R1 => (wI d 61 [.ref 1, .int (-1 : Int32)] M1 L1 R1 (fun v2 M2 L2 R2 => (wI d 236 [.int v2] M2 L2 R2 (fun v3 M3 L3 R3 => H93_23 d v2 v3 (0 : Int32) M3 L3 R3 K))))))) : wI (d + 1) 93 [.ref 0] M ML R K := by
  refine mj_of _ _ rfl rfl rfl ?_
  refine mj_auto5 [23] 80 rfl ?_
  refine fn_gR fm_s0 rfl rfl rfl ?_
  refine mj_wVv h (fm_o fm_s44) rfl rfl rfl rfl rfl ⟨rfl, rfl⟩ (fun M1 L1 R1 h => ?_)
  refine mj_auto5 [23] 80 rfl ?_
  refine fn_gR fm_s0 rfl rfl rfl ?_
  refine mj_auto5 [23] 80 rfl ?_
  refine mj_wIv h (fm_o fm_w1) rfl rfl rfl rfl rfl ⟨rfl, rfl⟩ (fun v2 M2 L2 R2 h => ?_)
  refine mj_auto5 [23] 80 rfl ?_
  refine mj_wIs h rfl rfl rfl rfl rfl rfl (fun v3 M3 L3 R3 h => ?_)
  refine mj_auto5 [23] 80 rfl ?_
  exact h
def H94_4 (d : Nat) (x1 : Int32) (x2 : Int32) (M : Nat → Nat → Int32) (ML : Nat → Nat → Int64) (R : Nat → Nat → Option Nat) (K : wK) : Prop := mj_Rn d (some .int) kX10_behind (wQ K) (fm_mk (M, ML, R)) 4 [some (.ref 0), some (.int x1), some (.int x2)] []
set_option maxRecDepth 20000 in
theorem h94_4 {d : Nat} {x1 : Int32} {x2 : Int32} {M : Nat → Nat → Int32} {ML : Nat → Nat → Int64} {R : Nat → Nat → Option Nat} {K : wK} (h : (((8 : Int32) ≤ x2 → ((¬ x1 = (-1 : Int32) → (wV d 15 [.ref 44] M ML R (fun M1 L1 R1 => (wI d 71 [.ref 1, .int x1] M1 L1 R1 (fun v2 M2 L2 R2 => (∃ k3, x1 = nI k3 ∧ k3 < 8 ∧ (wV d 17 [.ref 44, .long ((v2).toInt64), .long (((M2 3 k3)).toInt64)] M2 L2 R2 (fun M4 L4 R4 => K x1 M4 L4 R4)))))))) ∧ (x1 = (-1 : Int32) → K (-2 : Int32) M ML R))) ∧ (¬ (8 : Int32) ≤ x2 → (wI d 49 [.ref 1, .int x2] M ML R (fun v5 M5 L5 R5 => ((v5 = 0 → H94_4 d x1 (x2 + (1 : Int32)) M5 L5 R5 K) ∧ (¬ v5 = 0 → ((x1 = (-1 : Int32) → H94_4 d x2 (x2 + (1 : Int32)) M5 L5 R5 K) ∧ (¬ x1 = (-1 : Int32) → (wI d 72 [.ref 1, .int x2, .int x1] M5 L5 R5 (fun v6 M6 L6 R6 => ((v6 ≤ 0 → H94_4 d x1 (x2 + (1 : Int32)) M6 L6 R6 K) ∧ (¬ v6 ≤ 0 → H94_4 d x2 (x2 + (1 : Int32)) M6 L6 R6 K))))))))))))) : H94_4 d x1 x2 M ML R K := by
  unfold H94_4
  refine mj_begin3 [4] 80 rfl ?_
  refine mj_if rfl rfl (fun c => ?_) (fun c => ?_)
  · replace h := h.1 c
    refine mj_auto3 [4] 80 rfl ?_
    refine mj_if rfl rfl (fun c => ?_) (fun c => ?_)
    · replace h := h.1 c
      refine mj_auto3 [4] 80 rfl ?_
      refine fn_gR fm_s0 rfl rfl rfl ?_
      refine mj_wVv h (fm_o fm_s44) rfl rfl rfl rfl rfl ⟨rfl, rfl⟩ (fun M1 L1 R1 h => ?_)
      refine mj_auto3 [4] 80 rfl ?_
      refine fn_gR fm_s0 rfl rfl rfl ?_
      refine mj_auto3 [4] 80 rfl ?_
      refine fn_gR fm_s0 rfl rfl rfl ?_
      refine mj_auto3 [4] 80 rfl ?_
      refine mj_wIv h (fm_o fm_w1) rfl rfl rfl rfl rfl ⟨rfl, rfl⟩ (fun v2 M2 L2 R2 h => ?_)
      refine mj_auto3 [4] 80 rfl ?_
      refine fn_gR fm_s0 rfl rfl rfl ?_
      refine fn_gR fm_w1 rfl rfl rfl ?_
      refine mj_auto3 [4] 80 rfl ?_
      obtain ⟨k3, c, c2, h⟩ := h
      refine fn_ldk c c2 rfl fm_v3 rfl ?_
      refine mj_auto3 [4] 80 rfl ?_
      refine mj_wVv h (fm_o fm_s44) rfl rfl rfl rfl rfl ⟨rfl, rfl⟩ (fun M4 L4 R4 h => ?_)
      refine mj_auto3 [4] 80 rfl ?_
      exact mj_rt rfl rfl rfl ⟨_, _, _, _, rfl, rfl, h⟩
    · replace h := h.2 (Classical.not_not.mp c)
      refine mj_auto3 [4] 80 rfl ?_
      exact mj_rt rfl rfl rfl ⟨_, _, _, _, rfl, rfl, h⟩
  · replace h := h.2 c
    refine mj_auto3 [4] 80 rfl ?_
    refine fn_gR fm_s0 rfl rfl rfl ?_
    refine mj_auto3 [4] 80 rfl ?_
    refine mj_wIv h (fm_o fm_w1) rfl rfl rfl rfl rfl ⟨rfl, rfl⟩ (fun v5 M5 L5 R5 h => ?_)
    refine mj_if rfl rfl (fun c => ?_) (fun c => ?_)
    · replace h := h.1 c
      refine mj_auto3 [4] 80 rfl ?_
      exact h
    · replace h := h.2 c
      refine mj_auto3 [4] 80 rfl ?_
      refine mj_if rfl rfl (fun c => ?_) (fun c => ?_)
      · replace h := h.1 c
        refine mj_auto3 [4] 80 rfl ?_
        exact h
      · replace h := h.2 c
        refine mj_auto3 [4] 80 rfl ?_
        refine fn_gR fm_s0 rfl rfl rfl ?_
        refine mj_auto3 [4] 80 rfl ?_
        refine mj_wIv h (fm_o fm_w1) rfl rfl rfl rfl rfl ⟨rfl, rfl⟩ (fun v6 M6 L6 R6 h => ?_)
        refine mj_if rfl rfl (fun c => ?_) (fun c => ?_)
        · replace h := h.1 c
          refine mj_auto3 [4] 80 rfl ?_
          exact h
        · replace h := h.2 c
          refine mj_auto3 [4] 80 rfl ?_
          exact h
set_option maxRecDepth 20000 in
theorem w94 {d : Nat} {M : Nat → Nat → Int32} {ML : Nat → Nat → Int64} {R : Nat → Nat → Option Nat} {K : wK} (h : H94_4 d (-1 : Int32) (0 : Int32) M ML R K) : wI (d + 1) 94 [.ref 0] M ML R K := by
  refine mj_of _ _ rfl rfl rfl ?_
  refine mj_auto3 [4] 80 rfl ?_
  exact h
def H95_45 (d : Nat) (x1 : Int32) (x2 : Int32) (x3 : Int32) (M : Nat → Nat → Int32) (ML : Nat → Nat → Int64) (R : Nat → Nat → Option Nat) (K : wK) : Prop := mj_Rn d (some .int) kX10_ahead (wQ K) (fm_mk (M, ML, R)) 45 [some (.ref 0), some (.int x1), some (.int x2), some (.int x3), none] []
set_option maxRecDepth 20000 in
theorem h95_45 {d : Nat} {x1 : Int32} {x2 : Int32} {x3 : Int32} {M : Nat → Nat → Int32} {ML : Nat → Nat → Int64} {R : Nat → Nat → Option Nat} {K : wK} (h : (((8 : Int32) ≤ x3 → K (M 44 1) M ML R) ∧ (¬ (8 : Int32) ≤ x3 → (wI d 62 [.ref 1, .int x2, .ref 40] M ML R (fun v1 M1 L1 R1 => ((v1 = x1 → K x3 M1 L1 R1) ∧ (¬ v1 = x1 → ((¬ v1 = (-1 : Int32) → (wV d 16 [.ref 44, .long ((v1).toInt64)] M1 L1 R1 (fun M2 L2 R2 => H95_45 d x1 (x2 &&& (((1 : Int32) <<< (v1 &&& 31)) ^^^ (-1 : Int32))) (x3 + (1 : Int32)) M2 L2 R2 K))) ∧ (v1 = (-1 : Int32) → K x3 M1 L1 R1))))))))) : H95_45 d x1 x2 x3 M ML R K := by
  unfold H95_45
  refine mj_begin5 [45] 80 rfl ?_
  refine mj_if rfl rfl (fun c => ?_) (fun c => ?_)
  · replace h := h.1 c
    refine mj_auto5 [45] 80 rfl ?_
    refine fn_gR fm_s0 rfl rfl rfl ?_
    refine fn_gI fm_s44 rfl rfl rfl ?_
    exact mj_rt rfl rfl rfl ⟨_, _, _, _, rfl, rfl, h⟩
  · replace h := h.2 c
    refine mj_auto5 [45] 80 rfl ?_
    refine fn_gR fm_s0 rfl rfl rfl ?_
    refine mj_auto5 [45] 80 rfl ?_
    refine fn_gR fm_s0 rfl rfl rfl ?_
    refine mj_wIv h (fm_o fm_w1) rfl rfl rfl rfl rfl ⟨rfl, rfl⟩ (fun v1 M1 L1 R1 h => ?_)
    refine mj_auto5 [45] 80 rfl ?_
    refine mj_if rfl rfl (fun c => ?_) (fun c => ?_)
    · replace h := h.1 c
      refine mj_auto5 [45] 80 rfl ?_
      exact mj_rt rfl rfl rfl ⟨_, _, _, _, rfl, rfl, h⟩
    · replace h := h.2 c
      refine mj_auto5 [45] 80 rfl ?_
      refine mj_if rfl rfl (fun c => ?_) (fun c => ?_)
      · replace h := h.1 c
        refine mj_auto5 [45] 80 rfl ?_
        refine fn_gR fm_s0 rfl rfl rfl ?_
        refine mj_auto5 [45] 80 rfl ?_
        refine mj_wVv h (fm_o fm_s44) rfl rfl rfl rfl rfl ⟨rfl, rfl⟩ (fun M2 L2 R2 h => ?_)
        refine mj_auto5 [45] 80 rfl ?_
        exact mj_less h (leS (leS (leS (leS (leN le0)))))
      · replace h := h.2 (Classical.not_not.mp c)
        refine mj_auto5 [45] 80 rfl ?_
        exact mj_rt rfl rfl rfl ⟨_, _, _, _, rfl, rfl, h⟩
set_option maxRecDepth 20000 in
theorem w95 {d : Nat} {a1 : Int32} {M : Nat → Nat → Int32} {ML : Nat → Nat → Int64} {R : Nat → Nat → Option Nat} {K : wK} (h : (wI d 49 [.ref 1, .int a1] M ML R (fun v1 M1 L1 R1 => ((¬ v1 = 0 → (wI d 59 [.ref 1, .int a1] M1 L1 R1 (fun v2 M2 L2 R2 => ((¬ v2 = 0 → (wV d 15 [.ref 44] M2 L2 R2 (fun M3 L3 R3 => (wI d 61 [.ref 1, .int (-1 : Int32)] M3 L3 R3 (fun v4 M4 L4 R4 => H95_45 d a1 v4 (0 : Int32) M4 L4 R4 K))))) ∧ (v2 = 0 → K (-2 : Int32) M2 L2 R2))))) ∧ (v1 = 0 → K (-1 : Int32) M1 L1 R1))))) : wI (d + 1) 95 [.ref 0, .int a1] M ML R K := by
  refine mj_of _ _ rfl rfl rfl ?_
  refine mj_auto5 [45] 80 rfl ?_
  refine fn_gR fm_s0 rfl rfl rfl ?_
  refine mj_auto5 [45] 80 rfl ?_
  refine mj_wIv h (fm_o fm_w1) rfl rfl rfl rfl rfl ⟨rfl, rfl⟩ (fun v1 M1 L1 R1 h => ?_)
  refine mj_if rfl rfl (fun c => ?_) (fun c => ?_)
  · replace h := h.1 c
    refine mj_auto5 [45] 80 rfl ?_
    refine fn_gR fm_s0 rfl rfl rfl ?_
    refine mj_auto5 [45] 80 rfl ?_
    refine mj_wIv h (fm_o fm_w1) rfl rfl rfl rfl rfl ⟨rfl, rfl⟩ (fun v2 M2 L2 R2 h => ?_)
    refine mj_if rfl rfl (fun c => ?_) (fun c => ?_)
    · replace h := h.1 c
      refine mj_auto5 [45] 80 rfl ?_
      refine fn_gR fm_s0 rfl rfl rfl ?_
      refine mj_wVv h (fm_o fm_s44) rfl rfl rfl rfl rfl ⟨rfl, rfl⟩ (fun M3 L3 R3 h => ?_)
      refine mj_auto5 [45] 80 rfl ?_
      refine fn_gR fm_s0 rfl rfl rfl ?_
      refine mj_auto5 [45] 80 rfl ?_
      refine mj_wIv h (fm_o fm_w1) rfl rfl rfl rfl rfl ⟨rfl, rfl⟩ (fun v4 M4 L4 R4 h => ?_)
      refine mj_auto5 [45] 80 rfl ?_
      exact h
    · replace h := h.2 (Classical.not_not.mp c)
      refine mj_auto5 [45] 80 rfl ?_
      exact mj_rt rfl rfl rfl ⟨_, _, _, _, rfl, rfl, h⟩
  · replace h := h.2 (Classical.not_not.mp c)
    refine mj_auto5 [45] 80 rfl ?_
    exact mj_rt rfl rfl rfl ⟨_, _, _, _, rfl, rfl, h⟩
def H97_53 (d : Nat) (x1 : Int32) (x2 : Int32) (x3 : Int32) (M : Nat → Nat → Int32) (ML : Nat → Nat → Int64) (R : Nat → Nat → Option Nat) (K : wK) : Prop := mj_Rn d (some .int) kX10_when (wQ K) (fm_mk (M, ML, R)) 53 [some (.ref 0), some (.int x1), some (.int x2), some (.int x3), none] []
set_option maxRecDepth 20000 in
theorem h97_53 {d : Nat} {x1 : Int32} {x2 : Int32} {x3 : Int32} {M : Nat → Nat → Int32} {ML : Nat → Nat → Int64} {R : Nat → Nat → Option Nat} {K : wK} (h : (((99 : Int32) ≤ x3 → K (-2 : Int32) M ML R) ∧ (¬ (99 : Int32) ≤ x3 → (wV d 63 [.ref 23, .ref 40, .int (-1 : Int32)] M ML R (fun M1 L1 R1 => (∃ k2, x1 = nI k2 ∧ k2 < 8 ∧ (((M1 29 k2) < x2 → H97_53 d x1 x2 (x3 + (1 : Int32)) M1 L1 R1 K) ∧ (¬ (M1 29 k2) < x2 → (wV d 15 [.ref 44] M1 L1 R1 (fun M3 L3 R3 => (wI d 56 [.ref 1, .int x1, .int x2] M3 L3 R3 (fun v4 M4 L4 R4 => (wV d 16 [.ref 44, .long (((v4 - (M 23 11))).toInt64)] M4 L4 R4 (fun M5 L5 R5 => K (M 23 11) M5 L5 R5)))))))))))))) : H97_53 d x1 x2 x3 M ML R K := by
  unfold H97_53
  refine mj_begin5 [53] 80 rfl ?_
  refine mj_if rfl rfl (fun c => ?_) (fun c => ?_)
  · replace h := h.1 c
    refine mj_auto5 [53] 80 rfl ?_
    exact mj_rt rfl rfl rfl ⟨_, _, _, _, rfl, rfl, h⟩
  · replace h := h.2 c
    refine mj_auto5 [53] 80 rfl ?_
    refine fn_gR fm_s0 rfl rfl rfl ?_
    refine fn_gI fm_w23 rfl rfl rfl ?_
    refine mj_auto5 [53] 80 rfl ?_
    refine fn_gR fm_s0 rfl rfl rfl ?_
    refine mj_auto5 [53] 80 rfl ?_
    refine fn_gR fm_s0 rfl rfl rfl ?_
    refine mj_auto5 [53] 80 rfl ?_
    refine mj_wVv h (fm_o fm_w23) rfl rfl rfl rfl rfl ⟨rfl, rfl⟩ (fun M1 L1 R1 h => ?_)
    refine mj_auto5 [53] 80 rfl ?_
    refine fn_gR fm_s0 rfl rfl rfl ?_
    refine fn_gR fm_w23 rfl rfl rfl ?_
    refine mj_auto5 [53] 80 rfl ?_
    obtain ⟨k2, c, c2, h⟩ := h
    refine fn_ldk c c2 rfl fm_v29 rfl ?_
    refine mj_auto5 [53] 80 rfl ?_
    refine mj_if rfl rfl (fun c => ?_) (fun c => ?_)
    · replace h := h.1 c
      refine mj_auto5 [53] 80 rfl ?_
      exact mj_less h (leS (leS (leS (leS (leN le0)))))
    · replace h := h.2 c
      refine mj_auto5 [53] 80 rfl ?_
      refine fn_gR fm_s0 rfl rfl rfl ?_
      refine mj_wVv h (fm_o fm_s44) rfl rfl rfl rfl rfl ⟨rfl, rfl⟩ (fun M3 L3 R3 h => ?_)
      refine mj_auto5 [53] 80 rfl ?_
      refine fn_gR fm_s0 rfl rfl rfl ?_
      refine mj_auto5 [53] 80 rfl ?_
      refine fn_gR fm_s0 rfl rfl rfl ?_
      refine mj_auto5 [53] 80 rfl ?_
      refine mj_wIv h (fm_o fm_w1) rfl rfl rfl rfl rfl ⟨rfl, rfl⟩ (fun v4 M4 L4 R4 h => ?_)
      refine mj_auto5 [53] 80 rfl ?_
      refine mj_wVv h (fm_o fm_s44) rfl rfl rfl rfl rfl ⟨rfl, rfl⟩ (fun M5 L5 R5 h => ?_)
      refine mj_auto5 [53] 80 rfl ?_
      exact mj_rt rfl rfl rfl ⟨_, _, _, _, rfl, rfl, h⟩
set_option maxRecDepth 20000 in
theorem w97 {d : Nat} {a1 : Int32} {a2 : Int32} {M : Nat → Nat → Int32} {ML : Nat → Nat → Int64} {R : Nat → Nat → Option Nat} {K : wK} (h : (wI d 49 [.ref 1, .int a1] M ML R (fun v1 M1 L1 R1 => ((v1 = 0 → K (-1 : Int32) M1 L1 R1) ∧ (¬ v1 = 0 → ((a2 < (1 : Int32) → K (-1 : Int32) M1 L1 R1) ∧ (¬ a2 < (1 : Int32) → ((a2 ≤ (60 : Int32) → (∃ k2, a1 = nI k2 ∧ k2 < 8 ∧ (((M1 7 k2) < a2 → (wV d 48 [.ref 23, .ref 1] M1 L1 R1 (fun M3 L3 R3 => H97_53 d a1 a2 (0 : Int32) M3 L3 R3 K))) ∧ (¬ (M1 7 k2) < a2 → K (-3 : Int32) M1 L1 R1)))) ∧ (¬ a2 ≤ (60 : Int32) → K (-1 : Int32) M1 L1 R1))))))))) : wI (d + 1) 97 [.ref 0, .int a1, .int a2] M ML R K := by
  refine mj_of _ _ rfl rfl rfl ?_
  refine mj_auto5 [53] 80 rfl ?_
  refine fn_gR fm_s0 rfl rfl rfl ?_
  refine mj_auto5 [53] 80 rfl ?_
  refine mj_wIv h (fm_o fm_w1) rfl rfl rfl rfl rfl ⟨rfl, rfl⟩ (fun v1 M1 L1 R1 h => ?_)
  refine mj_if rfl rfl (fun c => ?_) (fun c => ?_)
  · replace h := h.1 c
    refine mj_auto5 [53] 80 rfl ?_
    exact mj_rt rfl rfl rfl ⟨_, _, _, _, rfl, rfl, h⟩
  · replace h := h.2 c
    refine mj_auto5 [53] 80 rfl ?_
    refine mj_if rfl rfl (fun c => ?_) (fun c => ?_)
    · replace h := h.1 c
      refine mj_auto5 [53] 80 rfl ?_
      exact mj_rt rfl rfl rfl ⟨_, _, _, _, rfl, rfl, h⟩
    · replace h := h.2 c
      refine mj_auto5 [53] 80 rfl ?_
      refine mj_if rfl rfl (fun c => ?_) (fun c => ?_)
      · replace h := h.1 c
        refine mj_auto5 [53] 80 rfl ?_
        refine fn_gR fm_s0 rfl rfl rfl ?_
        refine fn_gR fm_w1 rfl rfl rfl ?_
        refine mj_auto5 [53] 80 rfl ?_
        obtain ⟨k2, c, c2, h⟩ := h
        refine fn_ldk c c2 rfl fm_v7 rfl ?_
        refine mj_if rfl rfl (fun c => ?_) (fun c => ?_)
        · replace h := h.1 c
          refine mj_auto5 [53] 80 rfl ?_
          refine fn_gR fm_s0 rfl rfl rfl ?_
          refine mj_auto5 [53] 80 rfl ?_
          refine fn_gR fm_s0 rfl rfl rfl ?_
          refine mj_wVv h (fm_o fm_w23) rfl rfl rfl rfl rfl ⟨rfl, rfl⟩ (fun M3 L3 R3 h => ?_)
          refine mj_auto5 [53] 80 rfl ?_
          exact h
        · replace h := h.2 c
          refine mj_auto5 [53] 80 rfl ?_
          exact mj_rt rfl rfl rfl ⟨_, _, _, _, rfl, rfl, h⟩
      · replace h := h.2 c
        refine mj_auto5 [53] 80 rfl ?_
        exact mj_rt rfl rfl rfl ⟨_, _, _, _, rfl, rfl, h⟩
def H99_28 (d : Nat) (x1 : Int32) (x2 : Int32) (M : Nat → Nat → Int32) (ML : Nat → Nat → Int64) (R : Nat → Nat → Option Nat) (K : wK) : Prop := mj_Rn d (some .int) kX10_round (wQ K) (fm_mk (M, ML, R)) 28 [some (.ref 0), some (.int x1), some (.int x2)] []
set_option maxRecDepth 20000 in
theorem h99_28 {d : Nat} {x1 : Int32} {x2 : Int32} {M : Nat → Nat → Int32} {ML : Nat → Nat → Int64} {R : Nat → Nat → Option Nat} {K : wK} (h : (((99 : Int32) < x2 → K (-2 : Int32) M ML R) ∧ (¬ (99 : Int32) < x2 → (wV d 63 [.ref 23, .ref 40, .int (-1 : Int32)] M ML R (fun M1 L1 R1 => (wI d 236 [.int (M1 23 13)] M1 L1 R1 (fun v2 M2 L2 R2 => (wI d 73 [.ref 23, .ref 1] M2 L2 R2 (fun v3 M3 L3 R3 => ((v3 = 0 → H99_28 d (x1 + v2) (x2 + (1 : Int32)) M3 L3 R3 K) ∧ (¬ v3 = 0 → (wV d 15 [.ref 44] M3 L3 R3 (fun M4 L4 R4 => (wV d 16 [.ref 44, .long (((x1 + v2)).toInt64)] M4 L4 R4 (fun M5 L5 R5 => K x2 M5 L5 R5))))))))))))))) : H99_28 d x1 x2 M ML R K := by
  unfold H99_28
  refine mj_begin3 [28] 80 rfl ?_
  refine mj_if rfl rfl (fun c => ?_) (fun c => ?_)
  · replace h := h.1 c
    refine mj_auto3 [28] 80 rfl ?_
    exact mj_rt rfl rfl rfl ⟨_, _, _, _, rfl, rfl, h⟩
  · replace h := h.2 c
    refine mj_auto3 [28] 80 rfl ?_
    refine fn_gR fm_s0 rfl rfl rfl ?_
    refine mj_auto3 [28] 80 rfl ?_
    refine fn_gR fm_s0 rfl rfl rfl ?_
    refine mj_auto3 [28] 80 rfl ?_
    refine mj_wVv h (fm_o fm_w23) rfl rfl rfl rfl rfl ⟨rfl, rfl⟩ (fun M1 L1 R1 h => ?_)
    refine mj_auto3 [28] 80 rfl ?_
    refine fn_gR fm_s0 rfl rfl rfl ?_
    refine fn_gI fm_w23 rfl rfl rfl ?_
    refine mj_wIs h rfl rfl rfl rfl rfl rfl (fun v2 M2 L2 R2 h => ?_)
    refine mj_auto3 [28] 80 rfl ?_
    refine fn_gR fm_s0 rfl rfl rfl ?_
    refine mj_auto3 [28] 80 rfl ?_
    refine fn_gR fm_s0 rfl rfl rfl ?_
    refine mj_wIv h (fm_o fm_w23) rfl rfl rfl rfl rfl ⟨rfl, rfl⟩ (fun v3 M3 L3 R3 h => ?_)
    refine mj_if rfl rfl (fun c => ?_) (fun c => ?_)
    · replace h := h.1 c
      refine mj_auto3 [28] 80 rfl ?_
      exact h
    · replace h := h.2 c
      refine mj_auto3 [28] 80 rfl ?_
      refine fn_gR fm_s0 rfl rfl rfl ?_
      refine mj_wVv h (fm_o fm_s44) rfl rfl rfl rfl rfl ⟨rfl, rfl⟩ (fun M4 L4 R4 h => ?_)
      refine mj_auto3 [28] 80 rfl ?_
      refine fn_gR fm_s0 rfl rfl rfl ?_
      refine mj_auto3 [28] 80 rfl ?_
      refine mj_wVv h (fm_o fm_s44) rfl rfl rfl rfl rfl ⟨rfl, rfl⟩ (fun M5 L5 R5 h => ?_)
      refine mj_auto3 [28] 80 rfl ?_
      exact mj_rt rfl rfl rfl ⟨_, _, _, _, rfl, rfl, h⟩
set_option maxRecDepth 20000 in
theorem w99 {d : Nat} {M : Nat → Nat → Int32} {ML : Nat → Nat → Int64} {R : Nat → Nat → Option Nat} {K : wK} (h : (wI d 50 [.ref 1] M ML R (fun v1 M1 L1 R1 => ((¬ v1 = 0 → (wV d 48 [.ref 23, .ref 1] M1 L1 R1 (fun M2 L2 R2 => H99_28 d (0 : Int32) (1 : Int32) M2 L2 R2 K))) ∧ (v1 = 0 → K (-3 : Int32) M1 L1 R1))))) : wI (d + 1) 99 [.ref 0] M ML R K := by
  refine mj_of _ _ rfl rfl rfl ?_
  refine mj_auto3 [28] 80 rfl ?_
  refine fn_gR fm_s0 rfl rfl rfl ?_
  refine mj_wIv h (fm_o fm_w1) rfl rfl rfl rfl rfl ⟨rfl, rfl⟩ (fun v1 M1 L1 R1 h => ?_)
  refine mj_if rfl rfl (fun c => ?_) (fun c => ?_)
  · replace h := h.1 c
    refine mj_auto3 [28] 80 rfl ?_
    refine fn_gR fm_s0 rfl rfl rfl ?_
    refine mj_auto3 [28] 80 rfl ?_
    refine fn_gR fm_s0 rfl rfl rfl ?_
    refine mj_wVv h (fm_o fm_w23) rfl rfl rfl rfl rfl ⟨rfl, rfl⟩ (fun M2 L2 R2 h => ?_)
    refine mj_auto3 [28] 80 rfl ?_
    exact h
  · replace h := h.2 (Classical.not_not.mp c)
    refine mj_auto3 [28] 80 rfl ?_
    exact mj_rt rfl rfl rfl ⟨_, _, _, _, rfl, rfl, h⟩
def H100_52 (d : Nat) (x1 : Int32) (x2 : Int32) (x3 : Int32) (x4 : Int32) (x5 : Int32) (x6 : Int32) (x7 : Int32) (x8 : Int32) (M : Nat → Nat → Int32) (ML : Nat → Nat → Int64) (R : Nat → Nat → Option Nat) (K : wK) : Prop := mj_Rn d (some .int) kX10_share (wQ K) (fm_mk (M, ML, R)) 52 [some (.ref 0), some (.int x1), some (.int x2), some (.int x3), some (.int x4), some (.int x5), some (.int x6), some (.int x7), some (.int x8), none] []
set_option maxRecDepth 20000 in
theorem h100_52 {d : Nat} {x1 : Int32} {x2 : Int32} {x3 : Int32} {x4 : Int32} {x5 : Int32} {x6 : Int32} {x7 : Int32} {x8 : Int32} {M : Nat → Nat → Int32} {ML : Nat → Nat → Int64} {R : Nat → Nat → Option Nat} {K : wK} (h : ((x2 ≤ x8 → (wV d 15 [.ref 44] M ML R (fun M1 L1 R1 => (wV d 16 [.ref 44, .long ((x6).toInt64)] M1 L1 R1 (fun M2 L2 R2 => (wV d 16 [.ref 44, .long ((x7).toInt64)] M2 L2 R2 (fun M3 L3 R3 => K x3 M3 L3 R3))))))) ∧ (¬ x2 ≤ x8 → (wV d 63 [.ref 23, .ref 40, .int (-1 : Int32)] M ML R (fun M4 L4 R4 => (wI d 60 [.ref 23, .int x1] M4 L4 R4 (fun v5 M5 L5 R5 => ((v5 = 0 → ((v5 = 0 → ((v5 = 0 → (wI d 239 [.int x6, .int (0 : Int32)] M5 L5 R5 (fun v6 M6 L6 R6 => (wI d 239 [.int x7, .int (x5 + (1 : Int32))] M6 L6 R6 (fun v7 M7 L7 R7 => H100_52 d x1 x2 (x3 + (0 : Int32)) (0 : Int32) (x5 + (1 : Int32)) v6 v7 (x8 + (1 : Int32)) M7 L7 R7 K))))) ∧ (¬ v5 = 0 → (wI d 239 [.int x6, .int (0 : Int32)] M5 L5 R5 (fun v8 M8 L8 R8 => (wI d 239 [.int x7, .int (x5 + (1 : Int32))] M8 L8 R8 (fun v9 M9 L9 R9 => H100_52 d x1 x2 (x3 + (1 : Int32)) (0 : Int32) (x5 + (1 : Int32)) v8 v9 (x8 + (1 : Int32)) M9 L9 R9 K))))))) ∧ (¬ v5 = 0 → ((v5 = 0 → (wI d 239 [.int x6, .int (0 : Int32)] M5 L5 R5 (fun v10 M10 L10 R10 => (wI d 239 [.int x7, .int (0 : Int32)] M10 L10 R10 (fun v11 M11 L11 R11 => H100_52 d x1 x2 (x3 + (0 : Int32)) (0 : Int32) (0 : Int32) v10 v11 (x8 + (1 : Int32)) M11 L11 R11 K))))) ∧ (¬ v5 = 0 → (wI d 239 [.int x6, .int (0 : Int32)] M5 L5 R5 (fun v12 M12 L12 R12 => (wI d 239 [.int x7, .int (0 : Int32)] M12 L12 R12 (fun v13 M13 L13 R13 => H100_52 d x1 x2 (x3 + (1 : Int32)) (0 : Int32) (0 : Int32) v12 v13 (x8 + (1 : Int32)) M13 L13 R13 K))))))))) ∧ (¬ v5 = 0 → ((v5 = 0 → ((v5 = 0 → (wI d 239 [.int x6, .int (x4 + (1 : Int32))] M5 L5 R5 (fun v14 M14 L14 R14 => (wI d 239 [.int x7, .int (x5 + (1 : Int32))] M14 L14 R14 (fun v15 M15 L15 R15 => H100_52 d x1 x2 (x3 + (0 : Int32)) (x4 + (1 : Int32)) (x5 + (1 : Int32)) v14 v15 (x8 + (1 : Int32)) M15 L15 R15 K))))) ∧ (¬ v5 = 0 → (wI d 239 [.int x6, .int (x4 + (1 : Int32))] M5 L5 R5 (fun v16 M16 L16 R16 => (wI d 239 [.int x7, .int (x5 + (1 : Int32))] M16 L16 R16 (fun v17 M17 L17 R17 => H100_52 d x1 x2 (x3 + (1 : Int32)) (x4 + (1 : Int32)) (x5 + (1 : Int32)) v16 v17 (x8 + (1 : Int32)) M17 L17 R17 K))))))) ∧ (¬ v5 = 0 → ((v5 = 0 → (wI d 239 [.int x6, .int (x4 + (1 : Int32))] M5 L5 R5 (fun v18 M18 L18 R18 => (wI d 239 [.int x7, .int (0 : Int32)] M18 L18 R18 (fun v19 M19 L19 R19 => H100_52 d x1 x2 (x3 + (0 : Int32)) (x4 + (1 : Int32)) (0 : Int32) v18 v19 (x8 + (1 : Int32)) M19 L19 R19 K))))) ∧ (¬ v5 = 0 → (wI d 239 [.int x6, .int (x4 + (1 : Int32))] M5 L5 R5 (fun v20 M20 L20 R20 => (wI d 239 [.int x7, .int (0 : Int32)] M20 L20 R20 (fun v21 M21 L21 R21 => H100_52 d x1 x2 (x3 + (1 : Int32)) (x4 + (1 : Int32)) (0 : Int32) v20 v21 (x8 + (1 : Int32)) M21 L21 R21 K))))))))))))))))) : H100_52 d x1 x2 x3 x4 x5 x6 x7 x8 M ML R K := by
  unfold H100_52
  refine mj_begin10 [52] 80 rfl ?_
  refine mj_if rfl rfl (fun c => ?_) (fun c => ?_)
  · replace h := h.1 c
    refine mj_auto10 [52] 80 rfl ?_
    refine fn_gR fm_s0 rfl rfl rfl ?_
    refine mj_wVv h (fm_o fm_s44) rfl rfl rfl rfl rfl ⟨rfl, rfl⟩ (fun M1 L1 R1 h => ?_)
    refine mj_auto10 [52] 80 rfl ?_
    refine fn_gR fm_s0 rfl rfl rfl ?_
    refine mj_auto10 [52] 80 rfl ?_
    refine mj_wVv h (fm_o fm_s44) rfl rfl rfl rfl rfl ⟨rfl, rfl⟩ (fun M2 L2 R2 h => ?_)
    refine mj_auto10 [52] 80 rfl ?_
    refine fn_gR fm_s0 rfl rfl rfl ?_
    refine mj_auto10 [52] 80 rfl ?_
    refine mj_wVv h (fm_o fm_s44) rfl rfl rfl rfl rfl ⟨rfl, rfl⟩ (fun M3 L3 R3 h => ?_)
    refine mj_auto10 [52] 80 rfl ?_
    exact mj_rt rfl rfl rfl ⟨_, _, _, _, rfl, rfl, h⟩
  · replace h := h.2 c
    refine mj_auto10 [52] 80 rfl ?_
    refine fn_gR fm_s0 rfl rfl rfl ?_
    refine mj_auto10 [52] 80 rfl ?_
    refine fn_gR fm_s0 rfl rfl rfl ?_
    refine mj_auto10 [52] 80 rfl ?_
    refine mj_wVv h (fm_o fm_w23) rfl rfl rfl rfl rfl ⟨rfl, rfl⟩ (fun M4 L4 R4 h => ?_)
    refine mj_auto10 [52] 80 rfl ?_
    refine fn_gR fm_s0 rfl rfl rfl ?_
    refine mj_auto10 [52] 80 rfl ?_
    refine mj_wIv h (fm_o fm_w23) rfl rfl rfl rfl rfl ⟨rfl, rfl⟩ (fun v5 M5 L5 R5 h => ?_)
    refine mj_auto10 [52] 80 rfl ?_
    refine mj_if rfl rfl (fun c => ?_) (fun c => ?_)
    · replace h := h.1 c
      refine mj_auto10 [52] 80 rfl ?_
      refine mj_if rfl rfl (fun c => ?_) (fun c => ?_)
      · replace h := h.1 c
        refine mj_auto10 [52] 80 rfl ?_
        refine mj_if rfl rfl (fun c => ?_) (fun c => ?_)
        · replace h := h.1 c
          refine mj_auto10 [52] 80 rfl ?_
          refine mj_wIs h rfl rfl rfl rfl rfl rfl (fun v6 M6 L6 R6 h => ?_)
          refine mj_auto10 [52] 80 rfl ?_
          refine mj_wIs h rfl rfl rfl rfl rfl rfl (fun v7 M7 L7 R7 h => ?_)
          refine mj_auto10 [52] 80 rfl ?_
          exact mj_less h (leS (leS (leS (leS (leS (leS (leS (leS (leS (leN le0))))))))))
        · replace h := h.2 c
          refine mj_auto10 [52] 80 rfl ?_
          refine mj_wIs h rfl rfl rfl rfl rfl rfl (fun v8 M8 L8 R8 h => ?_)
          refine mj_auto10 [52] 80 rfl ?_
          refine mj_wIs h rfl rfl rfl rfl rfl rfl (fun v9 M9 L9 R9 h => ?_)
          refine mj_auto10 [52] 80 rfl ?_
          exact mj_less h (leS (leS (leS (leS (leS (leS (leS (leS (leS (leN le0))))))))))
      · replace h := h.2 c
        refine mj_auto10 [52] 80 rfl ?_
        refine mj_if rfl rfl (fun c => ?_) (fun c => ?_)
        · replace h := h.1 c
          refine mj_auto10 [52] 80 rfl ?_
          refine mj_wIs h rfl rfl rfl rfl rfl rfl (fun v10 M10 L10 R10 h => ?_)
          refine mj_auto10 [52] 80 rfl ?_
          refine mj_wIs h rfl rfl rfl rfl rfl rfl (fun v11 M11 L11 R11 h => ?_)
          refine mj_auto10 [52] 80 rfl ?_
          exact mj_less h (leS (leS (leS (leS (leS (leS (leS (leS (leS (leN le0))))))))))
        · replace h := h.2 c
          refine mj_auto10 [52] 80 rfl ?_
          refine mj_wIs h rfl rfl rfl rfl rfl rfl (fun v12 M12 L12 R12 h => ?_)
          refine mj_auto10 [52] 80 rfl ?_
          refine mj_wIs h rfl rfl rfl rfl rfl rfl (fun v13 M13 L13 R13 h => ?_)
          refine mj_auto10 [52] 80 rfl ?_
          exact mj_less h (leS (leS (leS (leS (leS (leS (leS (leS (leS (leN le0))))))))))
    · replace h := h.2 c
      refine mj_auto10 [52] 80 rfl ?_
      refine mj_if rfl rfl (fun c => ?_) (fun c => ?_)
      · replace h := h.1 c
        refine mj_auto10 [52] 80 rfl ?_
        refine mj_if rfl rfl (fun c => ?_) (fun c => ?_)
        · replace h := h.1 c
          refine mj_auto10 [52] 80 rfl ?_
          refine mj_wIs h rfl rfl rfl rfl rfl rfl (fun v14 M14 L14 R14 h => ?_)
          refine mj_auto10 [52] 80 rfl ?_
          refine mj_wIs h rfl rfl rfl rfl rfl rfl (fun v15 M15 L15 R15 h => ?_)
          refine mj_auto10 [52] 80 rfl ?_
          exact mj_less h (leS (leS (leS (leS (leS (leS (leS (leS (leS (leN le0))))))))))
        · replace h := h.2 c
          refine mj_auto10 [52] 80 rfl ?_
          refine mj_wIs h rfl rfl rfl rfl rfl rfl (fun v16 M16 L16 R16 h => ?_)
          refine mj_auto10 [52] 80 rfl ?_
          refine mj_wIs h rfl rfl rfl rfl rfl rfl (fun v17 M17 L17 R17 h => ?_)
          refine mj_auto10 [52] 80 rfl ?_
          exact mj_less h (leS (leS (leS (leS (leS (leS (leS (leS (leS (leN le0))))))))))
      · replace h := h.2 c
        refine mj_auto10 [52] 80 rfl ?_
        refine mj_if rfl rfl (fun c => ?_) (fun c => ?_)
        · replace h := h.1 c
          refine mj_auto10 [52] 80 rfl ?_
          refine mj_wIs h rfl rfl rfl rfl rfl rfl (fun v18 M18 L18 R18 h => ?_)
          refine mj_auto10 [52] 80 rfl ?_
          refine mj_wIs h rfl rfl rfl rfl rfl rfl (fun v19 M19 L19 R19 h => ?_)
          refine mj_auto10 [52] 80 rfl ?_
          exact mj_less h (leS (leS (leS (leS (leS (leS (leS (leS (leS (leN le0))))))))))
        · replace h := h.2 c
          refine mj_auto10 [52] 80 rfl ?_
          refine mj_wIs h rfl rfl rfl rfl rfl rfl (fun v20 M20 L20 R20 h => ?_)
          refine mj_auto10 [52] 80 rfl ?_
          refine mj_wIs h rfl rfl rfl rfl rfl rfl (fun v21 M21 L21 R21 h => ?_)
          refine mj_auto10 [52] 80 rfl ?_
          exact mj_less h (leS (leS (leS (leS (leS (leS (leS (leS (leS (leN le0))))))))))
set_option maxRecDepth 20000 in
theorem w100 {d : Nat} {a1 : Int32} {a2 : Int32} {M : Nat → Nat → Int32} {ML : Nat → Nat → Int64} {R : Nat → Nat → Option Nat} {K : wK} (h : (wI d 49 [.ref 1, .int a1] M ML R (fun v1 M1 L1 R1 => ((v1 = 0 → K (-1 : Int32) M1 L1 R1) ∧ (¬ v1 = 0 → ((a2 < (1 : Int32) → K (-1 : Int32) M1 L1 R1) ∧ (¬ a2 < (1 : Int32) → ((a2 ≤ (60 : Int32) → (wV d 48 [.ref 23, .ref 1] M1 L1 R1 (fun M2 L2 R2 => H100_52 d a1 a2 (0 : Int32) (0 : Int32) (0 : Int32) (0 : Int32) (0 : Int32) (0 : Int32) M2 L2 R2 K))) ∧ (¬ a2 ≤ (60 : Int32) → K (-1 : Int32) M1 L1 R1))))))))) : wI (d + 1) 100 [.ref 0, .int a1, .int a2] M ML R K := by
  refine mj_of _ _ rfl rfl rfl ?_
  refine mj_auto10 [52] 80 rfl ?_
  refine fn_gR fm_s0 rfl rfl rfl ?_
  refine mj_auto10 [52] 80 rfl ?_
  refine mj_wIv h (fm_o fm_w1) rfl rfl rfl rfl rfl ⟨rfl, rfl⟩ (fun v1 M1 L1 R1 h => ?_)
  refine mj_if rfl rfl (fun c => ?_) (fun c => ?_)
  · replace h := h.1 c
    refine mj_auto10 [52] 80 rfl ?_
    exact mj_rt rfl rfl rfl ⟨_, _, _, _, rfl, rfl, h⟩
  · replace h := h.2 c
    refine mj_auto10 [52] 80 rfl ?_
    refine mj_if rfl rfl (fun c => ?_) (fun c => ?_)
    · replace h := h.1 c
      refine mj_auto10 [52] 80 rfl ?_
      exact mj_rt rfl rfl rfl ⟨_, _, _, _, rfl, rfl, h⟩
    · replace h := h.2 c
      refine mj_auto10 [52] 80 rfl ?_
      refine mj_if rfl rfl (fun c => ?_) (fun c => ?_)
      · replace h := h.1 c
        refine mj_auto10 [52] 80 rfl ?_
        refine fn_gR fm_s0 rfl rfl rfl ?_
        refine mj_auto10 [52] 80 rfl ?_
        refine fn_gR fm_s0 rfl rfl rfl ?_
        refine mj_wVv h (fm_o fm_w23) rfl rfl rfl rfl rfl ⟨rfl, rfl⟩ (fun M2 L2 R2 h => ?_)
        refine mj_auto10 [52] 5 rfl ?_
        refine mj_auto10 [52] 5 rfl ?_
        exact h
      · replace h := h.2 c
        refine mj_auto10 [52] 80 rfl ?_
        exact mj_rt rfl rfl rfl ⟨_, _, _, _, rfl, rfl, h⟩
def H101_39 (d : Nat) (x1 : Int32) (x2 : Int32) (x3 : Int32) (M : Nat → Nat → Int32) (ML : Nat → Nat → Int64) (R : Nat → Nat → Option Nat) (K : wK) : Prop := mj_Rn d (some .int) kX10_pairs (wQ K) (fm_mk (M, ML, R)) 39 [some (.ref 0), some (.int x1), some (.int x2), some (.int x3), none, none, none] []
def H101_50 (d : Nat) (x1 : Int32) (x2 : Int32) (x3 : Int32) (x4 : Int32) (M : Nat → Nat → Int32) (ML : Nat → Nat → Int64) (R : Nat → Nat → Option Nat) (K : wK) : Prop := mj_Rn d (some .int) kX10_pairs (wQ K) (fm_mk (M, ML, R)) 50 [some (.ref 0), some (.int x1), some (.int x2), some (.int x3), some (.int x4), none, none] []
set_option maxRecDepth 20000 in
theorem h101_39 {d : Nat} {x1 : Int32} {x2 : Int32} {x3 : Int32} {M : Nat → Nat → Int32} {ML : Nat → Nat → Int64} {R : Nat → Nat → Option Nat} {K : wK} (h : (((8 : Int32) ≤ x3 → ((¬ x2 = (-1 : Int32) → (wV d 15 [.ref 44] M ML R (fun M1 L1 R1 => (wV d 16 [.ref 44, .long (((x2 / (8 : Int32))).toInt64)] M1 L1 R1 (fun M2 L2 R2 => (wV d 16 [.ref 44, .long (((x2 - x2 / (8 : Int32) * (8 : Int32))).toInt64)] M2 L2 R2 (fun M3 L3 R3 => (∃ k4, x2 = nI k4 ∧ k4 < 64 ∧ K (M3 61 k4) M3 L3 R3)))))))) ∧ (x2 = (-1 : Int32) → K (-2 : Int32) M ML R))) ∧ (¬ (8 : Int32) ≤ x3 → H101_50 d x1 x2 x3 (x3 + (1 : Int32)) M ML R K))) : H101_39 d x1 x2 x3 M ML R K := by
  unfold H101_39
  refine mj_begin7 [39, 50] 80 rfl ?_
  refine mj_if rfl rfl (fun c => ?_) (fun c => ?_)
  · replace h := h.1 c
    refine mj_auto7 [39, 50] 80 rfl ?_
    refine mj_if rfl rfl (fun c => ?_) (fun c => ?_)
    · replace h := h.1 c
      refine mj_auto7 [39, 50] 80 rfl ?_
      refine fn_gR fm_s0 rfl rfl rfl ?_
      refine mj_wVv h (fm_o fm_s44) rfl rfl rfl rfl rfl ⟨rfl, rfl⟩ (fun M1 L1 R1 h => ?_)
      refine mj_auto7 [39, 50] 80 rfl ?_
      refine fn_gR fm_s0 rfl rfl rfl ?_
      refine mj_auto7 [39, 50] 80 rfl ?_
      refine mj_div rfl rfl (by decide) ?_
      refine mj_auto7 [39, 50] 80 rfl ?_
      refine mj_wVv h (fm_o fm_s44) rfl rfl rfl rfl rfl ⟨rfl, rfl⟩ (fun M2 L2 R2 h => ?_)
      refine mj_auto7 [39, 50] 80 rfl ?_
      refine fn_gR fm_s0 rfl rfl rfl ?_
      refine mj_auto7 [39, 50] 80 rfl ?_
      refine mj_div rfl rfl (by decide) ?_
      refine mj_auto7 [39, 50] 80 rfl ?_
      refine mj_wVv h (fm_o fm_s44) rfl rfl rfl rfl rfl ⟨rfl, rfl⟩ (fun M3 L3 R3 h => ?_)
      refine mj_auto7 [39, 50] 80 rfl ?_
      refine fn_gR fm_s0 rfl rfl rfl ?_
      refine mj_auto7 [39, 50] 80 rfl ?_
      obtain ⟨k4, c, c2, h⟩ := h
      refine fn_ldk c c2 rfl fm_s61 rfl ?_
      exact mj_rt rfl rfl rfl ⟨_, _, _, _, rfl, rfl, h⟩
    · replace h := h.2 (Classical.not_not.mp c)
      refine mj_auto7 [39, 50] 80 rfl ?_
      exact mj_rt rfl rfl rfl ⟨_, _, _, _, rfl, rfl, h⟩
  · replace h := h.2 c
    refine mj_auto7 [39, 50] 80 rfl ?_
    exact h
set_option maxRecDepth 20000 in
theorem h101_50 {d : Nat} {x1 : Int32} {x2 : Int32} {x3 : Int32} {x4 : Int32} {M : Nat → Nat → Int32} {ML : Nat → Nat → Int64} {R : Nat → Nat → Option Nat} {K : wK} (h : (((8 : Int32) ≤ x4 → H101_39 d x1 x2 (x3 + (1 : Int32)) M ML R K) ∧ (¬ (8 : Int32) ≤ x4 → (wI d 49 [.ref 1, .int x3] M ML R (fun v1 M1 L1 R1 => ((v1 = 0 → (((0 : Int32) = 0 → H101_50 d x1 x2 x3 (x4 + (1 : Int32)) M1 L1 R1 K) ∧ (¬ (0 : Int32) = 0 → ((x2 = (-1 : Int32) → H101_50 d x1 ((x3 * (8 : Int32)) + x4) x3 (x4 + (1 : Int32)) M1 L1 R1 K) ∧ (¬ x2 = (-1 : Int32) → (∃ k2, ((x3 * (8 : Int32)) + x4) = nI k2 ∧ k2 < 64 ∧ (∃ k3, x2 = nI k3 ∧ k3 < 64 ∧ (((M1 61 k2) ≤ (M1 61 k3) → H101_50 d x1 x2 x3 (x4 + (1 : Int32)) M1 L1 R1 K) ∧ (¬ (M1 61 k2) ≤ (M1 61 k3) → H101_50 d x1 ((x3 * (8 : Int32)) + x4) x3 (x4 + (1 : Int32)) M1 L1 R1 K))))))))) ∧ (¬ v1 = 0 → (wI d 49 [.ref 1, .int x4] M1 L1 R1 (fun v4 M4 L4 R4 => ((v4 = 0 → (((0 : Int32) = 0 → H101_50 d x1 x2 x3 (x4 + (1 : Int32)) M4 L4 R4 K) ∧ (¬ (0 : Int32) = 0 → ((x2 = (-1 : Int32) → H101_50 d x1 ((x3 * (8 : Int32)) + x4) x3 (x4 + (1 : Int32)) M4 L4 R4 K) ∧ (¬ x2 = (-1 : Int32) → (∃ k5, ((x3 * (8 : Int32)) + x4) = nI k5 ∧ k5 < 64 ∧ (∃ k6, x2 = nI k6 ∧ k6 < 64 ∧ (((M4 61 k5) ≤ (M4 61 k6) → H101_50 d x1 x2 x3 (x4 + (1 : Int32)) M4 L4 R4 K) ∧ (¬ (M4 61 k5) ≤ (M4 61 k6) → H101_50 d x1 ((x3 * (8 : Int32)) + x4) x3 (x4 + (1 : Int32)) M4 L4 R4 K))))))))) ∧ (¬ v4 = 0 → (((1 : Int32) = 0 → H101_50 d x1 x2 x3 (x4 + (1 : Int32)) M4 L4 R4 K) ∧ (¬ (1 : Int32) = 0 → ((x2 = (-1 : Int32) → H101_50 d x1 ((x3 * (8 : Int32)) + x4) x3 (x4 + (1 : Int32)) M4 L4 R4 K) ∧ (¬ x2 = (-1 : Int32) → (∃ k7, ((x3 * (8 : Int32)) + x4) = nI k7 ∧ k7 < 64 ∧ (∃ k8, x2 = nI k8 ∧ k8 < 64 ∧ (((M4 61 k7) ≤ (M4 61 k8) → H101_50 d x1 x2 x3 (x4 + (1 : Int32)) M4 L4 R4 K) ∧ (¬ (M4 61 k7) ≤ (M4 61 k8) → H101_50 d x1 ((x3 * (8 : Int32)) + x4) x3 (x4 + (1 : Int32)) M4 L4 R4 K))))))))))))))))))) : H101_50 d x1 x2 x3 x4 M ML R K := by
  unfold H101_50
  refine mj_begin7 [39, 50] 80 rfl ?_
  refine mj_if rfl rfl (fun c => ?_) (fun c => ?_)
  · replace h := h.1 c
    refine mj_auto7 [39, 50] 80 rfl ?_
    exact mj_less h (leS (leS (leS (leS (leN (leS (leS le0)))))))
  · replace h := h.2 c
    refine mj_auto7 [39, 50] 80 rfl ?_
    refine fn_gR fm_s0 rfl rfl rfl ?_
    refine mj_auto7 [39, 50] 80 rfl ?_
    refine mj_wIv h (fm_o fm_w1) rfl rfl rfl rfl rfl ⟨rfl, rfl⟩ (fun v1 M1 L1 R1 h => ?_)
    refine mj_if rfl rfl (fun c => ?_) (fun c => ?_)
    · replace h := h.1 c
      refine mj_auto7 [39, 50] 80 rfl ?_
      refine mj_if rfl rfl (fun c => ?_) (fun c => ?_)
      · replace h := h.1 c
        refine mj_auto7 [39, 50] 80 rfl ?_
        exact mj_less h (leS (leS (leS (leS (leS (leN (leN le0)))))))
      · replace h := h.2 c
        refine mj_auto7 [39, 50] 80 rfl ?_
        refine mj_if rfl rfl (fun c => ?_) (fun c => ?_)
        · replace h := h.1 c
          refine mj_auto7 [39, 50] 80 rfl ?_
          exact mj_less h (leS (leS (leS (leS (leS (leN (leN le0)))))))
        · replace h := h.2 c
          refine mj_auto7 [39, 50] 80 rfl ?_
          refine fn_gR fm_s0 rfl rfl rfl ?_
          refine mj_auto7 [39, 50] 80 rfl ?_
          obtain ⟨k2, c, c2, h⟩ := h
          refine fn_ldk c c2 rfl fm_s61 rfl ?_
          refine mj_auto7 [39, 50] 80 rfl ?_
          refine fn_gR fm_s0 rfl rfl rfl ?_
          refine mj_auto7 [39, 50] 80 rfl ?_
          obtain ⟨k3, c, c2, h⟩ := h
          refine fn_ldk c c2 rfl fm_s61 rfl ?_
          refine mj_if rfl rfl (fun c => ?_) (fun c => ?_)
          · replace h := h.1 c
            refine mj_auto7 [39, 50] 80 rfl ?_
            exact mj_less h (leS (leS (leS (leS (leS (leN (leN le0)))))))
          · replace h := h.2 c
            refine mj_auto7 [39, 50] 80 rfl ?_
            exact mj_less h (leS (leS (leS (leS (leS (leN (leN le0)))))))
    · replace h := h.2 c
      refine mj_auto7 [39, 50] 80 rfl ?_
      refine fn_gR fm_s0 rfl rfl rfl ?_
      refine mj_auto7 [39, 50] 80 rfl ?_
      refine mj_wIv h (fm_o fm_w1) rfl rfl rfl rfl rfl ⟨rfl, rfl⟩ (fun v4 M4 L4 R4 h => ?_)
      refine mj_if rfl rfl (fun c => ?_) (fun c => ?_)
      · replace h := h.1 c
        refine mj_auto7 [39, 50] 80 rfl ?_
        refine mj_if rfl rfl (fun c => ?_) (fun c => ?_)
        · replace h := h.1 c
          refine mj_auto7 [39, 50] 80 rfl ?_
          exact mj_less h (leS (leS (leS (leS (leS (leN (leN le0)))))))
        · replace h := h.2 c
          refine mj_auto7 [39, 50] 80 rfl ?_
          refine mj_if rfl rfl (fun c => ?_) (fun c => ?_)
          · replace h := h.1 c
            refine mj_auto7 [39, 50] 80 rfl ?_
            exact mj_less h (leS (leS (leS (leS (leS (leN (leN le0)))))))
          · replace h := h.2 c
            refine mj_auto7 [39, 50] 80 rfl ?_
            refine fn_gR fm_s0 rfl rfl rfl ?_
            refine mj_auto7 [39, 50] 80 rfl ?_
            obtain ⟨k5, c, c2, h⟩ := h
            refine fn_ldk c c2 rfl fm_s61 rfl ?_
            refine mj_auto7 [39, 50] 80 rfl ?_
            refine fn_gR fm_s0 rfl rfl rfl ?_
            refine mj_auto7 [39, 50] 80 rfl ?_
            obtain ⟨k6, c, c2, h⟩ := h
            refine fn_ldk c c2 rfl fm_s61 rfl ?_
            refine mj_if rfl rfl (fun c => ?_) (fun c => ?_)
            · replace h := h.1 c
              refine mj_auto7 [39, 50] 80 rfl ?_
              exact mj_less h (leS (leS (leS (leS (leS (leN (leN le0)))))))
            · replace h := h.2 c
              refine mj_auto7 [39, 50] 80 rfl ?_
              exact mj_less h (leS (leS (leS (leS (leS (leN (leN le0)))))))
      · replace h := h.2 c
        refine mj_auto7 [39, 50] 80 rfl ?_
        refine mj_if rfl rfl (fun c => ?_) (fun c => ?_)
        · replace h := h.1 c
          refine mj_auto7 [39, 50] 80 rfl ?_
          exact mj_less h (leS (leS (leS (leS (leS (leN (leN le0)))))))
        · replace h := h.2 c
          refine mj_auto7 [39, 50] 80 rfl ?_
          refine mj_if rfl rfl (fun c => ?_) (fun c => ?_)
          · replace h := h.1 c
            refine mj_auto7 [39, 50] 80 rfl ?_
            exact mj_less h (leS (leS (leS (leS (leS (leN (leN le0)))))))
          · replace h := h.2 c
            refine mj_auto7 [39, 50] 80 rfl ?_
            refine fn_gR fm_s0 rfl rfl rfl ?_
            refine mj_auto7 [39, 50] 80 rfl ?_
            obtain ⟨k7, c, c2, h⟩ := h
            refine fn_ldk c c2 rfl fm_s61 rfl ?_
            refine mj_auto7 [39, 50] 80 rfl ?_
            refine fn_gR fm_s0 rfl rfl rfl ?_
            refine mj_auto7 [39, 50] 80 rfl ?_
            obtain ⟨k8, c, c2, h⟩ := h
            refine fn_ldk c c2 rfl fm_s61 rfl ?_
            refine mj_if rfl rfl (fun c => ?_) (fun c => ?_)
            · replace h := h.1 c
              refine mj_auto7 [39, 50] 80 rfl ?_
              exact mj_less h (leS (leS (leS (leS (leS (leN (leN le0)))))))
            · replace h := h.2 c
              refine mj_auto7 [39, 50] 80 rfl ?_
              exact mj_less h (leS (leS (leS (leS (leS (leN (leN le0)))))))
set_option maxRecDepth 20000 in
theorem w101 {d : Nat} {a1 : Int32} {M : Nat → Nat → Int32} {ML : Nat → Nat → Int64} {R : Nat → Nat → Option Nat} {K : wK} (h : ((a1 < (1 : Int32) → K (-1 : Int32) M ML R) ∧ (¬ a1 < (1 : Int32) → ((a1 ≤ (60 : Int32) → (wI d 50 [.ref 1] M ML R (fun v1 M1 L1 R1 => (wI d 236 [.int v1] M1 L1 R1 (fun v2 M2 L2 R2 => (((2 : Int32) ≤ v2 → (wV d 102 [.ref 0, .int a1] M2 L2 R2 (fun M3 L3 R3 => H101_39 d a1 (-1 : Int32) (0 : Int32) M3 L3 R3 K))) ∧ (¬ (2 : Int32) ≤ v2 → K (-2 : Int32) M2 L2 R2))))))) ∧ (¬ a1 ≤ (60 : Int32) → K (-1 : Int32) M ML R))))) : wI (d + 1) 101 [.ref 0, .int a1] M ML R K := by
  refine mj_of _ _ rfl rfl rfl ?_
  refine mj_auto7 [39, 50] 80 rfl ?_
  refine mj_if rfl rfl (fun c => ?_) (fun c => ?_)
  · replace h := h.1 c
    refine mj_auto7 [39, 50] 80 rfl ?_
    exact mj_rt rfl rfl rfl ⟨_, _, _, _, rfl, rfl, h⟩
  · replace h := h.2 c
    refine mj_auto7 [39, 50] 80 rfl ?_
    refine mj_if rfl rfl (fun c => ?_) (fun c => ?_)
    · replace h := h.1 c
      refine mj_auto7 [39, 50] 80 rfl ?_
      refine fn_gR fm_s0 rfl rfl rfl ?_
      refine mj_wIv h (fm_o fm_w1) rfl rfl rfl rfl rfl ⟨rfl, rfl⟩ (fun v1 M1 L1 R1 h => ?_)
      refine mj_wIs h rfl rfl rfl rfl rfl rfl (fun v2 M2 L2 R2 h => ?_)
      refine mj_auto7 [39, 50] 80 rfl ?_
      refine mj_if rfl rfl (fun c => ?_) (fun c => ?_)
      · replace h := h.1 c
        refine mj_auto7 [39, 50] 80 rfl ?_
        refine mj_wVv h (fm_o fm_s0) rfl rfl rfl rfl rfl ⟨rfl, rfl⟩ (fun M3 L3 R3 h => ?_)
        refine mj_auto7 [39, 50] 80 rfl ?_
        exact h
      · replace h := h.2 c
        refine mj_auto7 [39, 50] 80 rfl ?_
        exact mj_rt rfl rfl rfl ⟨_, _, _, _, rfl, rfl, h⟩
    · replace h := h.2 c
      refine mj_auto7 [39, 50] 80 rfl ?_
      exact mj_rt rfl rfl rfl ⟨_, _, _, _, rfl, rfl, h⟩
