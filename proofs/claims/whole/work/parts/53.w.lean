def H41_2 (d : Nat) (x1 : Int32) (x2 : Int32) (M : Nat → Nat → Int32) (ML : Nat → Nat → Int64) (R : Nat → Nat → Option Nat) (K : wKv) : Prop := mj_Rn d none kX7_goOnFromSlot (wQv K) (fm_mk (M, ML, R)) 2 [some (.ref 54), some (.int x1), some (.int x2), none] []
set_option maxRecDepth 20000 in
theorem h41_2 {d : Nat} {x1 : Int32} {x2 : Int32} {M : Nat → Nat → Int32} {ML : Nat → Nat → Int64} {R : Nat → Nat → Option Nat} {K : wKv} (h : (((8 : Int32) ≤ x2 → K M ML R) ∧ (¬ (8 : Int32) ≤ x2 → (∃ k1, ((x2 * (8 : Int32)) + x1) = nI k1 ∧ k1 < 64 ∧ (((M 57 k1) = (-1 : Int32) → H41_2 d x1 (x2 + (1 : Int32)) M ML R K) ∧ (¬ (M 57 k1) = (-1 : Int32) → (wV d 38 [.ref 54, .int ((64 : Int32) + ((x2 * (8 : Int32)) + x1)), .int ((128 : Int32) + x1)] M ML R (fun M2 L2 R2 => H41_2 d x1 (x2 + (1 : Int32)) M2 L2 R2 K)))))))) : H41_2 d x1 x2 M ML R K := by
  unfold H41_2
  refine mj_begin4 [2] 80 rfl ?_
  refine mj_if rfl rfl (fun c => ?_) (fun c => ?_)
  · replace h := h.1 c
    exact mj_rtv rfl rfl ⟨_, _, _, rfl, rfl, h⟩
  · replace h := h.2 c
    refine mj_auto4 [2] 80 rfl ?_
    refine fn_gR fm_s54 rfl rfl rfl ?_
    refine mj_auto4 [2] 80 rfl ?_
    obtain ⟨k1, c, c2, h⟩ := h
    refine fn_ldk c c2 rfl fm_s57 rfl ?_
    refine mj_auto4 [2] 80 rfl ?_
    refine mj_if rfl rfl (fun c => ?_) (fun c => ?_)
    · replace h := h.1 c
      refine mj_auto4 [2] 80 rfl ?_
      exact mj_less h (leS (leS (leS (leN le0))))
    · replace h := h.2 c
      refine mj_auto4 [2] 80 rfl ?_
      refine mj_wVv h (fm_o fm_s54) rfl rfl rfl rfl rfl ⟨rfl, rfl⟩ (fun M2 L2 R2 h => ?_)
      refine mj_auto4 [2] 80 rfl ?_
      exact mj_less h (leS (leS (leS (leN le0))))
set_option maxRecDepth 20000 in
theorem w41 {d : Nat} {a1 : Int32} {M : Nat → Nat → Int32} {ML : Nat → Nat → Int64} {R : Nat → Nat → Option Nat} {K : wKv} (h : H41_2 d a1 (0 : Int32) M ML R K) : wV (d + 1) 41 [.ref 54, .int a1] M ML R K := by
  refine mj_of _ _ rfl rfl rfl ?_
  refine mj_auto4 [2] 80 rfl ?_
  exact h
def H42_4 (d : Nat) (x1 : Int32) (x2 : Int32) (x3 : Int32) (M : Nat → Nat → Int32) (ML : Nat → Nat → Int64) (R : Nat → Nat → Option Nat) (K : wKv) : Prop := mj_Rn d none kX7_settle (wQv K) (fm_mk (M, ML, R)) 4 [some (.ref 54), some (.int x1), some (.int x2), some (.int x3), none] []
set_option maxRecDepth 20000 in
theorem h42_4 {d : Nat} {x1 : Int32} {x2 : Int32} {x3 : Int32} {M : Nat → Nat → Int32} {ML : Nat → Nat → Int64} {R : Nat → Nat → Option Nat} {K : wKv} (h : (((136 : Int32) ≤ x3 → K M ML R) ∧ (¬ (136 : Int32) ≤ x3 → ((x2 = (-1 : Int32) → K M ML R) ∧ (¬ x2 = (-1 : Int32) → (∃ k1, x2 = nI k1 ∧ k1 < 136 ∧ ((x2 < (64 : Int32) → H42_4 d x1 (M 59 k1) (x3 + (1 : Int32)) M ML R K) ∧ (¬ x2 < (64 : Int32) → (((128 : Int32) ≤ x2 → H42_4 d x1 (M 59 k1) (x3 + (1 : Int32)) M ML R K) ∧ (¬ (128 : Int32) ≤ x2 → (((64 : Int32) ≤ (M 59 k1) → (∃ k2, (x2 - (64 : Int32)) = nI k2 ∧ k2 < 64 ∧ (∀ M2, M2 = fm_u M 57 k2 (-1 : Int32) → H42_4 d x1 (M 59 k1) (x3 + (1 : Int32)) M2 ML R K))) ∧ (¬ (64 : Int32) ≤ (M 59 k1) → (∃ k3, (x2 - (64 : Int32)) = nI k3 ∧ k3 < 64 ∧ (∀ M3, M3 = fm_u M 57 k3 (M 59 k1) → H42_4 d x1 (M 59 k1) (x3 + (1 : Int32)) M3 ML R K)))))))))))))) : H42_4 d x1 x2 x3 M ML R K := by
  unfold H42_4
  refine mj_begin5 [4] 80 rfl ?_
  refine mj_if rfl rfl (fun c => ?_) (fun c => ?_)
  · replace h := h.1 c
    exact mj_rtv rfl rfl ⟨_, _, _, rfl, rfl, h⟩
  · replace h := h.2 c
    refine mj_auto5 [4] 80 rfl ?_
    refine mj_if rfl rfl (fun c => ?_) (fun c => ?_)
    · replace h := h.1 c
      exact mj_rtv rfl rfl ⟨_, _, _, rfl, rfl, h⟩
    · replace h := h.2 c
      refine mj_auto5 [4] 80 rfl ?_
      refine fn_gR fm_s54 rfl rfl rfl ?_
      refine mj_auto5 [4] 80 rfl ?_
      obtain ⟨k1, c, c2, h⟩ := h
      refine fn_ldk c c2 rfl fm_s59 rfl ?_
      refine mj_auto5 [4] 80 rfl ?_
      refine mj_if rfl rfl (fun c => ?_) (fun c => ?_)
      · replace h := h.1 c
        refine mj_auto5 [4] 80 rfl ?_
        exact mj_less h (leS (leS (leS (leS (leN le0)))))
      · replace h := h.2 c
        refine mj_auto5 [4] 80 rfl ?_
        refine mj_if rfl rfl (fun c => ?_) (fun c => ?_)
        · replace h := h.1 c
          refine mj_auto5 [4] 80 rfl ?_
          exact mj_less h (leS (leS (leS (leS (leN le0)))))
        · replace h := h.2 c
          refine mj_auto5 [4] 80 rfl ?_
          refine fn_gR fm_s54 rfl rfl rfl ?_
          refine mj_auto5 [4] 80 rfl ?_
          refine mj_if rfl rfl (fun c => ?_) (fun c => ?_)
          · replace h := h.1 c
            refine mj_auto5 [4] 80 rfl ?_
            obtain ⟨k2, c, c2, h⟩ := h
            refine fn_stk c c2 rfl fm_s57 rfl ?_
            replace h := h _ rfl
            refine mj_auto5 [4] 80 rfl ?_
            exact mj_less h (leS (leS (leS (leS (leN le0)))))
          · replace h := h.2 c
            refine mj_auto5 [4] 80 rfl ?_
            obtain ⟨k3, c, c2, h⟩ := h
            refine fn_stk c c2 rfl fm_s57 rfl ?_
            replace h := h _ rfl
            refine mj_auto5 [4] 80 rfl ?_
            exact mj_less h (leS (leS (leS (leS (leN le0)))))
set_option maxRecDepth 20000 in
theorem w42 {d : Nat} {a1 : Int32} {M : Nat → Nat → Int32} {ML : Nat → Nat → Int64} {R : Nat → Nat → Option Nat} {K : wKv} (h : H42_4 d a1 a1 (0 : Int32) M ML R K) : wV (d + 1) 42 [.ref 54, .int a1] M ML R K := by
  refine mj_of _ _ rfl rfl rfl ?_
  refine mj_auto5 [4] 80 rfl ?_
  exact h
set_option maxRecDepth 20000 in
theorem w139 {d : Nat} {a0 : Int64} {a2 : Int64} {M : Nat → Nat → Int32} {ML : Nat → Nat → Int64} {R : Nat → Nat → Option Nat} {K : wKl} (h : ((¬ (lg_cmp a2 (0 : Int64)) = 0 → (¬ a2 = 0 ∧ (wL d 139 [.long a2, .long (a0 - a0 / a2 * a2)] M ML R (fun v1 M1 L1 R1 => K v1 M1 L1 R1)))) ∧ ((lg_cmp a2 (0 : Int64)) = 0 → (wL d 238 [.long a0] M ML R (fun v2 M2 L2 R2 => K v2 M2 L2 R2))))) : wL (d + 1) 139 [.long a0, .long a2] M ML R K := by
  refine mj_of _ _ rfl rfl rfl ?_
  refine mj_auto4 [] 80 rfl ?_
  refine mj_if rfl rfl (fun c => ?_) (fun c => ?_)
  · replace h := h.1 c
    refine mj_auto4 [] 80 rfl ?_
    obtain ⟨c, h⟩ := h
    refine mj_div rfl rfl c ?_
    refine mj_wLs h rfl rfl rfl rfl rfl rfl (fun v1 M1 L1 R1 h => ?_)
    exact mj_rtl rfl rfl ⟨_, _, _, _, rfl, rfl, h⟩
  · replace h := h.2 (Classical.not_not.mp c)
    refine mj_auto4 [] 80 rfl ?_
    refine mj_wLs h rfl rfl rfl rfl rfl rfl (fun v2 M2 L2 R2 h => ?_)
    refine mj_auto4 [] 80 rfl ?_
    exact mj_rtl rfl rfl ⟨_, _, _, _, rfl, rfl, h⟩
set_option maxRecDepth 20000 in
theorem w140 {d : Nat} {a1 : Int64} {a3 : Int64} {M : Nat → Nat → Int32} {ML : Nat → Nat → Int64} {R : Nat → Nat → Option Nat} {K : wKv} (h : (wL d 139 [.long a1, .long a3] M ML R (fun v1 M1 L1 R1 => (¬ v1 = 0 ∧ (wV d 135 [.ref 219, .long (a1 / v1)] M1 L1 R1 (fun M2 L2 R2 => (¬ v1 = 0 ∧ (wV d 135 [.ref 219, .long (a3 / v1)] M2 L2 R2 (fun M3 L3 R3 => K M3 L3 R3))))))))) : wV (d + 1) 140 [.ref 219, .long a1, .long a3] M ML R K := by
  refine mj_of _ _ rfl rfl rfl ?_
  refine mj_auto7 [] 80 rfl ?_
  refine mj_wLs h rfl rfl rfl rfl rfl rfl (fun v1 M1 L1 R1 h => ?_)
  refine mj_auto7 [] 80 rfl ?_
  obtain ⟨c, h⟩ := h
  refine mj_div rfl rfl c ?_
  refine mj_wVv h (fm_o fm_s219) rfl rfl rfl rfl rfl ⟨rfl, rfl⟩ (fun M2 L2 R2 h => ?_)
  refine mj_auto7 [] 80 rfl ?_
  obtain ⟨c, h⟩ := h
  refine mj_div rfl rfl c ?_
  refine mj_wVv h (fm_o fm_s219) rfl rfl rfl rfl rfl ⟨rfl, rfl⟩ (fun M3 L3 R3 h => ?_)
  exact mj_rtv rfl rfl ⟨_, _, _, rfl, rfl, h⟩
def H141_12 (d : Nat) (p : Nat) (x2 : Int32) (M : Nat → Nat → Int32) (ML : Nat → Nat → Int64) (R : Nat → Nat → Option Nat) (K : wKv) : Prop := mj_Rn d none kX11_layUse (wQv K) (fm_mk (M, ML, R)) 12 [some (.ref 219), some (.ref p), some (.int x2), none, none] []
set_option maxRecDepth 20000 in
theorem h141_12 {d : Nat} {p : Nat} (hp : fm_sh p = .inl (0, 43)) {x2 : Int32} {M : Nat → Nat → Int32} {ML : Nat → Nat → Int64} {R : Nat → Nat → Option Nat} {K : wKv} (h : (((8 : Int32) ≤ x2 → K M ML R) ∧ (¬ (8 : Int32) ≤ x2 → (wI d 136 [.ref p, .int x2] M ML R (fun v1 M1 L1 R1 => ((¬ v1 = 0 → (∃ k2, ((8 : Int32) + x2) = nI k2 ∧ k2 < 43 ∧ (∃ k3, x2 = nI k3 ∧ k3 < 43 ∧ (∀ L4, L4 = fm_ul L1 219 9 (((L1 219 9) * (((M1 p k2)).toInt64)) + ((((M1 p k3)).toInt64) * (L1 219 10))) → (∃ k5, ((8 : Int32) + x2) = nI k5 ∧ k5 < 43 ∧ (∀ L6, L6 = fm_ul L4 219 10 ((L4 219 10) * (((M1 p k5)).toInt64)) → (wL d 139 [.long (L6 219 9), .long (L6 219 10)] M1 L6 R1 (fun v7 M7 L7 R7 => (¬ v7 = 0 ∧ (∀ L8, L8 = fm_ul L7 219 9 ((L7 219 9) / v7) → (¬ v7 = 0 ∧ (∀ L9, L9 = fm_ul L8 219 10 ((L8 219 10) / v7) → H141_12 d p (x2 + (1 : Int32)) M7 L9 R7 K)))))))))))) ∧ (v1 = 0 → H141_12 d p (x2 + (1 : Int32)) M1 L1 R1 K))))))) : H141_12 d p x2 M ML R K := by
  unfold H141_12
  refine mj_begin5 [12] 80 rfl ?_
  refine mj_if rfl rfl (fun c => ?_) (fun c => ?_)
  · replace h := h.1 c
    exact mj_rtv rfl rfl ⟨_, _, _, rfl, rfl, h⟩
  · replace h := h.2 c
    refine mj_auto5 [12] 80 rfl ?_
    refine mj_wIs h rfl rfl rfl rfl rfl rfl (fun v1 M1 L1 R1 h => ?_)
    refine mj_if rfl rfl (fun c => ?_) (fun c => ?_)
    · replace h := h.1 c
      refine mj_auto5 [12] 80 rfl ?_
      refine fn_gL fm_s219 rfl rfl rfl ?_
      refine mj_auto5 [12] 80 rfl ?_
      obtain ⟨k2, c, c2, h⟩ := h
      refine fn_ldk c c2 rfl hp rfl ?_
      refine mj_auto5 [12] 80 rfl ?_
      obtain ⟨k3, c, c2, h⟩ := h
      refine fn_ldk c c2 rfl hp rfl ?_
      refine mj_auto5 [12] 80 rfl ?_
      refine fn_gL fm_s219 rfl rfl rfl ?_
      refine mj_auto5 [12] 80 rfl ?_
      refine fn_pL fm_s219 rfl rfl rfl rfl ?_
      replace h := h _ rfl
      refine mj_auto5 [12] 80 rfl ?_
      refine fn_gL fm_s219 rfl rfl rfl ?_
      refine mj_auto5 [12] 80 rfl ?_
      obtain ⟨k5, c, c2, h⟩ := h
      refine fn_ldk c c2 rfl hp rfl ?_
      refine mj_auto5 [12] 80 rfl ?_
      refine fn_pL fm_s219 rfl rfl rfl rfl ?_
      replace h := h _ rfl
      refine mj_auto5 [12] 80 rfl ?_
      refine fn_gL fm_s219 rfl rfl rfl ?_
      refine mj_auto5 [12] 80 rfl ?_
      refine fn_gL fm_s219 rfl rfl rfl ?_
      refine mj_wLs h rfl rfl rfl rfl rfl rfl (fun v7 M7 L7 R7 h => ?_)
      refine mj_auto5 [12] 80 rfl ?_
      refine fn_gL fm_s219 rfl rfl rfl ?_
      refine mj_auto5 [12] 80 rfl ?_
      obtain ⟨c, h⟩ := h
      refine mj_div rfl rfl c ?_
      refine fn_pL fm_s219 rfl rfl rfl rfl ?_
      replace h := h _ rfl
      refine mj_auto5 [12] 80 rfl ?_
      refine fn_gL fm_s219 rfl rfl rfl ?_
      refine mj_auto5 [12] 80 rfl ?_
      obtain ⟨c, h⟩ := h
      refine mj_div rfl rfl c ?_
      refine fn_pL fm_s219 rfl rfl rfl rfl ?_
      replace h := h _ rfl
      refine mj_auto5 [12] 80 rfl ?_
      exact mj_less h (leS (leS (leS (leN (leS le0)))))
    · replace h := h.2 (Classical.not_not.mp c)
      refine mj_auto5 [12] 80 rfl ?_
      exact h
set_option maxRecDepth 20000 in
theorem w141 {d : Nat} {p : Nat} (hp : fm_sh p = .inl (0, 43)) {M : Nat → Nat → Int32} {ML : Nat → Nat → Int64} {R : Nat → Nat → Option Nat} {K : wKv} (h : (∀ L1, L1 = fm_ul ML 219 9 (0 : Int64) → (∀ L2, L2 = fm_ul L1 219 10 (1 : Int64) → H141_12 d p (0 : Int32) M L2 R K))) : wV (d + 1) 141 [.ref 219, .ref p] M ML R K := by
  refine mj_of _ _ rfl rfl rfl ?_
  refine mj_auto5 [12] 80 rfl ?_
  refine fn_pL fm_s219 rfl rfl rfl rfl ?_
  replace h := h _ rfl
  refine mj_auto5 [12] 80 rfl ?_
  refine fn_pL fm_s219 rfl rfl rfl rfl ?_
  replace h := h _ rfl
  refine mj_auto5 [12] 80 rfl ?_
  exact h
set_option maxRecDepth 20000 in
theorem w153 {d : Nat} {a2 : Int32} {a3 : Int32} {M : Nat → Nat → Int32} {ML : Nat → Nat → Int64} {R : Nat → Nat → Option Nat} {K : wKv} (h : (∀ R1, R1 = fm_ur R 219 12 (some 221) → (∀ M2, M2 = fm_u M 219 13 a2 → (∀ M3, M3 = fm_u M2 219 14 a3 → (∀ M4, M4 = fm_u M3 219 15 (0 : Int32) → (∀ M5, M5 = fm_u M4 219 16 (-1 : Int32) → K M5 ML R1)))))) : wV (d + 1) 153 [.ref 219, .ref 221, .int a2, .int a3] M ML R K := by
  refine mj_of _ _ rfl rfl rfl ?_
  refine mj_auto4 [] 80 rfl ?_
  refine fn_pM fm_s219 rfl rfl rfl rfl ?_
  replace h := h _ rfl
  refine mj_auto4 [] 80 rfl ?_
  refine fn_pI fm_s219 rfl rfl rfl rfl ?_
  replace h := h _ rfl
  refine mj_auto4 [] 80 rfl ?_
  refine fn_pI fm_s219 rfl rfl rfl rfl ?_
  replace h := h _ rfl
  refine mj_auto4 [] 80 rfl ?_
  refine fn_pI fm_s219 rfl rfl rfl rfl ?_
  replace h := h _ rfl
  refine mj_auto4 [] 80 rfl ?_
  refine fn_pI fm_s219 rfl rfl rfl rfl ?_
  replace h := h _ rfl
  exact mj_rtv rfl rfl ⟨_, _, _, rfl, rfl, h⟩
set_option maxRecDepth 20000 in
theorem w154 {d : Nat} {a1 : Int32} {M : Nat → Nat → Int32} {ML : Nat → Nat → Int64} {R : Nat → Nat → Option Nat} {K : wKv} (h : (wV d 153 [.ref 219, .ref 221, .int (M 219 2), .int a1] M ML R (fun M1 L1 R1 => (∀ M2, M2 = fm_u M1 219 2 (0 : Int32) → K M2 L1 R1)))) : wV (d + 1) 154 [.ref 219, .int a1] M ML R K := by
  refine mj_of _ _ rfl rfl rfl ?_
  refine mj_auto2 [] 80 rfl ?_
  refine fn_gR fm_s219 rfl rfl rfl ?_
  refine mj_auto2 [] 80 rfl ?_
  refine fn_gI fm_s219 rfl rfl rfl ?_
  refine mj_auto2 [] 80 rfl ?_
  refine mj_wVv h (fm_o fm_s219) rfl rfl rfl rfl rfl ⟨rfl, rfl⟩ (fun M1 L1 R1 h => ?_)
  refine mj_auto2 [] 80 rfl ?_
  refine fn_pI fm_s219 rfl rfl rfl rfl ?_
  replace h := h _ rfl
  exact mj_rtv rfl rfl ⟨_, _, _, rfl, rfl, h⟩
set_option maxRecDepth 20000 in
theorem w155 {d : Nat} {M : Nat → Nat → Int32} {ML : Nat → Nat → Int64} {R : Nat → Nat → Option Nat} {K : wK} (h : (((M 219 13) ≤ (M 219 15) → K (-1 : Int32) M ML R) ∧ (¬ (M 219 13) ≤ (M 219 15) → (((M 219 14) ≤ (M 219 15) → K (-1 : Int32) M ML R) ∧ (¬ (M 219 14) ≤ (M 219 15) → (R 219 12 = some 221 ∧ (∃ k1, (M 219 15) = nI k1 ∧ k1 < 80 ∧ K ((M 221 k1) &&& (255 : Int32)) M ML R))))))) : wI (d + 1) 155 [.ref 219] M ML R K := by
  refine mj_of _ _ rfl rfl rfl ?_
  refine mj_auto1 [] 80 rfl ?_
  refine fn_gI fm_s219 rfl rfl rfl ?_
  refine mj_auto1 [] 80 rfl ?_
  refine fn_gI fm_s219 rfl rfl rfl ?_
  refine mj_if rfl rfl (fun c => ?_) (fun c => ?_)
  · replace h := h.1 c
    refine mj_auto1 [] 80 rfl ?_
    exact mj_rt rfl rfl rfl ⟨_, _, _, _, rfl, rfl, h⟩
  · replace h := h.2 c
    refine mj_auto1 [] 80 rfl ?_
    refine fn_gI fm_s219 rfl rfl rfl ?_
    refine mj_auto1 [] 80 rfl ?_
    refine fn_gI fm_s219 rfl rfl rfl ?_
    refine mj_if rfl rfl (fun c => ?_) (fun c => ?_)
    · replace h := h.1 c
      refine mj_auto1 [] 80 rfl ?_
      exact mj_rt rfl rfl rfl ⟨_, _, _, _, rfl, rfl, h⟩
    · replace h := h.2 c
      refine mj_auto1 [] 80 rfl ?_
      obtain ⟨c, h⟩ := h
      refine fn_gM fm_s219 rfl rfl rfl c ?_
      refine mj_auto1 [] 80 rfl ?_
      refine fn_gI fm_s219 rfl rfl rfl ?_
      obtain ⟨k1, c, c2, h⟩ := h
      refine fn_ldkb c c2 rfl fm_s221 rfl ?_
      refine mj_auto1 [] 80 rfl ?_
      exact mj_rt rfl rfl rfl ⟨_, _, _, _, rfl, rfl, h⟩
set_option maxRecDepth 20000 in
theorem w156 {d : Nat} {M : Nat → Nat → Int32} {ML : Nat → Nat → Int64} {R : Nat → Nat → Option Nat} {K : wK} (h : ((¬ (M 219 16) = (-1 : Int32) → K (0 : Int32) M ML R) ∧ ((M 219 16) = (-1 : Int32) → K (1 : Int32) M ML R))) : wI (d + 1) 156 [.ref 219] M ML R K := by
  refine mj_of _ _ rfl rfl rfl ?_
  refine mj_auto1 [] 80 rfl ?_
  refine fn_gI fm_s219 rfl rfl rfl ?_
  refine mj_auto1 [] 80 rfl ?_
  refine mj_if rfl rfl (fun c => ?_) (fun c => ?_)
  · replace h := h.1 c
    refine mj_auto1 [] 80 rfl ?_
    exact mj_rt rfl rfl rfl ⟨_, _, _, _, rfl, rfl, h⟩
  · replace h := h.2 (Classical.not_not.mp c)
    refine mj_auto1 [] 80 rfl ?_
    exact mj_rt rfl rfl rfl ⟨_, _, _, _, rfl, rfl, h⟩
set_option maxRecDepth 20000 in
theorem w157 {d : Nat} {a1 : Int32} {M : Nat → Nat → Int32} {ML : Nat → Nat → Int64} {R : Nat → Nat → Option Nat} {K : wKv} (h : (wI d 156 [.ref 219] M ML R (fun v1 M1 L1 R1 => ((v1 = 0 → K M1 L1 R1) ∧ (¬ v1 = 0 → (∀ M2, M2 = fm_u M1 219 16 a1 → K M2 L1 R1)))))) : wV (d + 1) 157 [.ref 219, .int a1] M ML R K := by
  refine mj_of _ _ rfl rfl rfl ?_
  refine mj_auto2 [] 80 rfl ?_
  refine mj_wIv h (fm_o fm_s219) rfl rfl rfl rfl rfl ⟨rfl, rfl⟩ (fun v1 M1 L1 R1 h => ?_)
  refine mj_if rfl rfl (fun c => ?_) (fun c => ?_)
  · replace h := h.1 c
    exact mj_rtv rfl rfl ⟨_, _, _, rfl, rfl, h⟩
  · replace h := h.2 c
    refine mj_auto2 [] 80 rfl ?_
    refine fn_pI fm_s219 rfl rfl rfl rfl ?_
    replace h := h _ rfl
    exact mj_rtv rfl rfl ⟨_, _, _, rfl, rfl, h⟩
set_option maxRecDepth 20000 in
theorem w158 {d : Nat} {a1 : Int32} {M : Nat → Nat → Int32} {ML : Nat → Nat → Int64} {R : Nat → Nat → Option Nat} {K : wK} (h : (wI d 156 [.ref 219] M ML R (fun v1 M1 L1 R1 => ((v1 = 0 → K (0 : Int32) M1 L1 R1) ∧ (¬ v1 = 0 → (wI d 155 [.ref 219] M1 L1 R1 (fun v2 M2 L2 R2 => ((v2 = a1 → (∀ M3, M3 = fm_u M2 219 15 ((M2 219 15) + (1 : Int32)) → K (1 : Int32) M3 L2 R2)) ∧ (¬ v2 = a1 → K (0 : Int32) M2 L2 R2))))))))) : wI (d + 1) 158 [.ref 219, .int a1] M ML R K := by
  refine mj_of _ _ rfl rfl rfl ?_
  refine mj_auto2 [] 80 rfl ?_
  refine mj_wIv h (fm_o fm_s219) rfl rfl rfl rfl rfl ⟨rfl, rfl⟩ (fun v1 M1 L1 R1 h => ?_)
  refine mj_if rfl rfl (fun c => ?_) (fun c => ?_)
  · replace h := h.1 c
    refine mj_auto2 [] 80 rfl ?_
    exact mj_rt rfl rfl rfl ⟨_, _, _, _, rfl, rfl, h⟩
  · replace h := h.2 c
    refine mj_auto2 [] 80 rfl ?_
    refine mj_wIv h (fm_o fm_s219) rfl rfl rfl rfl rfl ⟨rfl, rfl⟩ (fun v2 M2 L2 R2 h => ?_)
    refine mj_auto2 [] 80 rfl ?_
    refine mj_if rfl rfl (fun c => ?_) (fun c => ?_)
    · replace h := h.1 c
      refine mj_auto2 [] 80 rfl ?_
      refine fn_gI fm_s219 rfl rfl rfl ?_
      refine mj_auto2 [] 80 rfl ?_
      refine fn_pI fm_s219 rfl rfl rfl rfl ?_
      replace h := h _ rfl
      refine mj_auto2 [] 80 rfl ?_
      exact mj_rt rfl rfl rfl ⟨_, _, _, _, rfl, rfl, h⟩
    · replace h := h.2 c
      refine mj_auto2 [] 80 rfl ?_
      exact mj_rt rfl rfl rfl ⟨_, _, _, _, rfl, rfl, h⟩
set_option maxRecDepth 20000 in
theorem w159 {d : Nat} {a1 : Int32} {a2 : Int32} {M : Nat → Nat → Int32} {ML : Nat → Nat → Int64} {R : Nat → Nat → Option Nat} {K : wK} (h : (wI d 156 [.ref 219] M ML R (fun v1 M1 L1 R1 => ((¬ v1 = 0 → (wI d 155 [.ref 219] M1 L1 R1 (fun v2 M2 L2 R2 => (wI d 132 [.int v2, .int a1, .int ((a1 + a2) - (1 : Int32))] M2 L2 R2 (fun v3 M3 L3 R3 => ((¬ v3 = 0 → (∀ M4, M4 = fm_u M3 219 15 ((M3 219 15) + (1 : Int32)) → (R3 219 12 = some 221 ∧ (∃ k5, ((M4 219 15) - (1 : Int32)) = nI k5 ∧ k5 < 80 ∧ K ((M4 221 k5) - a1) M4 L3 R3)))) ∧ (v3 = 0 → (wV d 157 [.ref 219, .int (M3 219 15)] M3 L3 R3 (fun M6 L6 R6 => K (0 : Int32) M6 L6 R6))))))))) ∧ (v1 = 0 → K (0 : Int32) M1 L1 R1))))) : wI (d + 1) 159 [.ref 219, .int a1, .int a2] M ML R K := by
  refine mj_of _ _ rfl rfl rfl ?_
  refine mj_auto3 [] 80 rfl ?_
  refine mj_wIv h (fm_o fm_s219) rfl rfl rfl rfl rfl ⟨rfl, rfl⟩ (fun v1 M1 L1 R1 h => ?_)
  refine mj_if rfl rfl (fun c => ?_) (fun c => ?_)
  · replace h := h.1 c
    refine mj_auto3 [] 80 rfl ?_
    refine mj_wIv h (fm_o fm_s219) rfl rfl rfl rfl rfl ⟨rfl, rfl⟩ (fun v2 M2 L2 R2 h => ?_)
    refine mj_auto3 [] 80 rfl ?_
    refine mj_wIs h rfl rfl rfl rfl rfl rfl (fun v3 M3 L3 R3 h => ?_)
    refine mj_if rfl rfl (fun c => ?_) (fun c => ?_)
    · replace h := h.1 c
      refine mj_auto3 [] 80 rfl ?_
      refine fn_gI fm_s219 rfl rfl rfl ?_
      refine mj_auto3 [] 80 rfl ?_
      refine fn_pI fm_s219 rfl rfl rfl rfl ?_
      replace h := h _ rfl
      refine mj_auto3 [] 80 rfl ?_
      obtain ⟨c, h⟩ := h
      refine fn_gM fm_s219 rfl rfl rfl c ?_
      refine mj_auto3 [] 80 rfl ?_
      refine fn_gI fm_s219 rfl rfl rfl ?_
      refine mj_auto3 [] 80 rfl ?_
      obtain ⟨k5, c, c2, h⟩ := h
      refine fn_ldkb c c2 rfl fm_s221 rfl ?_
      refine mj_auto3 [] 80 rfl ?_
      exact mj_rt rfl rfl rfl ⟨_, _, _, _, rfl, rfl, h⟩
    · replace h := h.2 (Classical.not_not.mp c)
      refine mj_auto3 [] 80 rfl ?_
      refine fn_gI fm_s219 rfl rfl rfl ?_
      refine mj_wVv h (fm_o fm_s219) rfl rfl rfl rfl rfl ⟨rfl, rfl⟩ (fun M6 L6 R6 h => ?_)
      refine mj_auto3 [] 80 rfl ?_
      exact mj_rt rfl rfl rfl ⟨_, _, _, _, rfl, rfl, h⟩
  · replace h := h.2 (Classical.not_not.mp c)
    refine mj_auto3 [] 80 rfl ?_
    exact mj_rt rfl rfl rfl ⟨_, _, _, _, rfl, rfl, h⟩
set_option maxRecDepth 20000 in
theorem w160 {d : Nat} {M : Nat → Nat → Int32} {ML : Nat → Nat → Int64} {R : Nat → Nat → Option Nat} {K : wK} (h : (((M 219 13) ≤ (M 219 15) → (wI d 156 [.ref 219] M ML R (fun v1 M1 L1 R1 => ((v1 = 0 ∨ v1 = 1) ∧ K v1 M1 L1 R1)))) ∧ (¬ (M 219 13) ≤ (M 219 15) → (wV d 157 [.ref 219, .int (M 219 15)] M ML R (fun M2 L2 R2 => (wI d 156 [.ref 219] M2 L2 R2 (fun v3 M3 L3 R3 => ((v3 = 0 ∨ v3 = 1) ∧ K v3 M3 L3 R3)))))))) : wI (d + 1) 160 [.ref 219] M ML R K := by
  refine mj_of _ _ rfl rfl rfl ?_
  refine mj_auto1 [] 80 rfl ?_
  refine fn_gI fm_s219 rfl rfl rfl ?_
  refine mj_auto1 [] 80 rfl ?_
  refine fn_gI fm_s219 rfl rfl rfl ?_
  refine mj_if rfl rfl (fun c => ?_) (fun c => ?_)
  · replace h := h.1 c
    refine mj_auto1 [] 80 rfl ?_
    refine mj_wIv h (fm_o fm_s219) rfl rfl rfl rfl rfl ⟨rfl, rfl⟩ (fun v1 M1 L1 R1 h => ?_)
    exact mj_rt rfl rfl (nar01 h.1) ⟨_, _, _, _, rfl, rfl, h.2⟩
  · replace h := h.2 c
    refine mj_auto1 [] 80 rfl ?_
    refine fn_gI fm_s219 rfl rfl rfl ?_
    refine mj_wVv h (fm_o fm_s219) rfl rfl rfl rfl rfl ⟨rfl, rfl⟩ (fun M2 L2 R2 h => ?_)
    refine mj_auto1 [] 80 rfl ?_
    refine mj_wIv h (fm_o fm_s219) rfl rfl rfl rfl rfl ⟨rfl, rfl⟩ (fun v3 M3 L3 R3 h => ?_)
    exact mj_rt rfl rfl (nar01 h.1) ⟨_, _, _, _, rfl, rfl, h.2⟩
set_option maxRecDepth 20000 in
theorem w161 {d : Nat} {M : Nat → Nat → Int32} {ML : Nat → Nat → Int64} {R : Nat → Nat → Option Nat} {K : wK} (h : (wI d 159 [.ref 219, .int (49 : Int32), .int (9 : Int32)] M ML R (fun v1 M1 L1 R1 => (wI d 156 [.ref 219] M1 L1 R1 (fun v2 M2 L2 R2 => ((v2 = 0 → K (v1 + (1 : Int32)) M2 L2 R2) ∧ (¬ v2 = 0 → (wI d 155 [.ref 219] M2 L2 R2 (fun v3 M3 L3 R3 => (wI d 132 [.int v3, .int (48 : Int32), .int (57 : Int32)] M3 L3 R3 (fun v4 M4 L4 R4 => ((v4 = 0 → K (v1 + (1 : Int32)) M4 L4 R4) ∧ (¬ v4 = 0 → (wI d 159 [.ref 219, .int (48 : Int32), .int (10 : Int32)] M4 L4 R4 (fun v5 M5 L5 R5 => K (((10 : Int32) * (v1 + (1 : Int32))) + v5) M5 L5 R5))))))))))))))) : wI (d + 1) 161 [.ref 219] M ML R K := by
  refine mj_of _ _ rfl rfl rfl ?_
  refine mj_auto2 [] 80 rfl ?_
  refine mj_wIv h (fm_o fm_s219) rfl rfl rfl rfl rfl ⟨rfl, rfl⟩ (fun v1 M1 L1 R1 h => ?_)
  refine mj_auto2 [] 80 rfl ?_
  refine mj_wIv h (fm_o fm_s219) rfl rfl rfl rfl rfl ⟨rfl, rfl⟩ (fun v2 M2 L2 R2 h => ?_)
  refine mj_if rfl rfl (fun c => ?_) (fun c => ?_)
  · replace h := h.1 c
    refine mj_auto2 [] 80 rfl ?_
    exact mj_rt rfl rfl rfl ⟨_, _, _, _, rfl, rfl, h⟩
  · replace h := h.2 c
    refine mj_auto2 [] 80 rfl ?_
    refine mj_wIv h (fm_o fm_s219) rfl rfl rfl rfl rfl ⟨rfl, rfl⟩ (fun v3 M3 L3 R3 h => ?_)
    refine mj_auto2 [] 80 rfl ?_
    refine mj_wIs h rfl rfl rfl rfl rfl rfl (fun v4 M4 L4 R4 h => ?_)
    refine mj_if rfl rfl (fun c => ?_) (fun c => ?_)
    · replace h := h.1 c
      refine mj_auto2 [] 80 rfl ?_
      exact mj_rt rfl rfl rfl ⟨_, _, _, _, rfl, rfl, h⟩
    · replace h := h.2 c
      refine mj_auto2 [] 80 rfl ?_
      refine mj_wIv h (fm_o fm_s219) rfl rfl rfl rfl rfl ⟨rfl, rfl⟩ (fun v5 M5 L5 R5 h => ?_)
      refine mj_auto2 [] 80 rfl ?_
      exact mj_rt rfl rfl rfl ⟨_, _, _, _, rfl, rfl, h⟩
set_option maxRecDepth 20000 in
theorem w162 {d : Nat} {a1 : Int32} {M : Nat → Nat → Int32} {ML : Nat → Nat → Int64} {R : Nat → Nat → Option Nat} {K : wKv} (h : (wI d 161 [.ref 219] M ML R (fun v1 M1 L1 R1 => (wI d 156 [.ref 219] M1 L1 R1 (fun v2 M2 L2 R2 => ((v2 = 0 → (wI d 161 [.ref 219] M2 L2 R2 (fun v3 M3 L3 R3 => (wI d 156 [.ref 219] M3 L3 R3 (fun v4 M4 L4 R4 => ((¬ v4 = 0 → ((v3 ≤ (12 : Int32) → ((v1 ≤ v3 → (∃ k5, ((3 : Int32) * a1) = nI k5 ∧ k5 < 24 ∧ (∀ M5, M5 = fm_u M4 224 k5 v1 → (∃ k6, (((3 : Int32) * a1) + (1 : Int32)) = nI k6 ∧ k6 < 24 ∧ (∀ M6, M6 = fm_u M5 224 k6 v3 → (wI d 158 [.ref 219, .int (101 : Int32)] M6 L4 R4 (fun v7 M7 L7 R7 => ((v7 = 0 → (∃ k8, (((3 : Int32) * a1) + (2 : Int32)) = nI k8 ∧ k8 < 24 ∧ (∀ M8, M8 = fm_u M7 224 k8 (0 : Int32) → K M8 L7 R7))) ∧ (¬ v7 = 0 → (∃ k9, (((3 : Int32) * a1) + (2 : Int32)) = nI k9 ∧ k9 < 24 ∧ (∀ M9, M9 = fm_u M7 224 k9 (1 : Int32) → K M9 L7 R7))))))))))) ∧ (¬ v1 ≤ v3 → (wV d 157 [.ref 219, .int (M 219 15)] M4 L4 R4 (fun M10 L10 R10 => K M10 L10 R10))))) ∧ (¬ v3 ≤ (12 : Int32) → (wV d 157 [.ref 219, .int (M2 219 15)] M4 L4 R4 (fun M11 L11 R11 => K M11 L11 R11))))) ∧ (v4 = 0 → K M4 L4 R4))))))) ∧ (¬ v2 = 0 → (wI d 158 [.ref 219, .int (47 : Int32)] M2 L2 R2 (fun v12 M12 L12 R12 => ((¬ v12 = 0 → (wI d 161 [.ref 219] M12 L12 R12 (fun v13 M13 L13 R13 => (wI d 156 [.ref 219] M13 L13 R13 (fun v14 M14 L14 R14 => ((¬ v14 = 0 → ((v13 ≤ (12 : Int32) → ((v1 ≤ v13 → (∃ k15, ((3 : Int32) * a1) = nI k15 ∧ k15 < 24 ∧ (∀ M15, M15 = fm_u M14 224 k15 v1 → (∃ k16, (((3 : Int32) * a1) + (1 : Int32)) = nI k16 ∧ k16 < 24 ∧ (∀ M16, M16 = fm_u M15 224 k16 v13 → (wI d 158 [.ref 219, .int (101 : Int32)] M16 L14 R14 (fun v17 M17 L17 R17 => ((v17 = 0 → (∃ k18, (((3 : Int32) * a1) + (2 : Int32)) = nI k18 ∧ k18 < 24 ∧ (∀ M18, M18 = fm_u M17 224 k18 (0 : Int32) → K M18 L17 R17))) ∧ (¬ v17 = 0 → (∃ k19, (((3 : Int32) * a1) + (2 : Int32)) = nI k19 ∧ k19 < 24 ∧ (∀ M19, M19 = fm_u M17 224 k19 (1 : Int32) → K M19 L17 R17))))))))))) ∧ (¬ v1 ≤ v13 → (wV d 157 [.ref 219, .int (M 219 15)] M14 L14 R14 (fun M20 L20 R20 => K M20 L20 R20))))) ∧ (¬ v13 ≤ (12 : Int32) → (wV d 157 [.ref 219, .int (M12 219 15)] M14 L14 R14 (fun M21 L21 R21 => K M21 L21 R21))))) ∧ (v14 = 0 → K M14 L14 R14))))))) ∧ (v12 = 0 → (wV d 157 [.ref 219, .int (M12 219 15)] M12 L12 R12 (fun M22 L22 R22 => (wI d 161 [.ref 219] M22 L22 R22 (fun v23 M23 L23 R23 => (wI d 156 [.ref 219] M23 L23 R23 (fun v24 M24 L24 R24 => ((¬ v24 = 0 → ((v23 ≤ (12 : Int32) → ((v1 ≤ v23 → (∃ k25, ((3 : Int32) * a1) = nI k25 ∧ k25 < 24 ∧ (∀ M25, M25 = fm_u M24 224 k25 v1 → (∃ k26, (((3 : Int32) * a1) + (1 : Int32)) = nI k26 ∧ k26 < 24 ∧ (∀ M26, M26 = fm_u M25 224 k26 v23 → (wI d 158 [.ref 219, .int (101 : Int32)] M26 L24 R24 (fun v27 M27 L27 R27 => ((v27 = 0 → (∃ k28, (((3 : Int32) * a1) + (2 : Int32)) = nI k28 ∧ k28 < 24 ∧ (∀ M28, M28 = fm_u M27 224 k28 (0 : Int32) → K M28 L27 R27))) ∧ (¬ v27 = 0 → (∃ k29, (((3 : Int32) * a1) + (2 : Int32)) = nI k29 ∧ k29 < 24 ∧ (∀ M29, M29 = fm_u M27 224 k29 (1 : Int32) → K M29 L27 R27))))))))))) ∧ (¬ v1 ≤ v23 → (wV d 157 [.ref 219, .int (M 219 15)] M24 L24 R24 (fun M30 L30 R30 => K M30 L30 R30))))) ∧ (¬ v23 ≤ (12 : Int32) → (wV d 157 [.ref 219, .int (M22 219 15)] M24 L24 R24 (fun M31 L31 R31 => K M31 L31 R31))))) ∧ (v24 = 0 → K M24 L24 R24))))))))))))))))))) : wV (d + 1) 162 [.ref 219, .int a1] M ML R K := by
  refine mj_of _ _ rfl rfl rfl ?_
  refine mj_auto6 [] 80 rfl ?_
  refine fn_gI fm_s219 rfl rfl rfl ?_
  refine mj_auto6 [] 80 rfl ?_
  refine mj_wIv h (fm_o fm_s219) rfl rfl rfl rfl rfl ⟨rfl, rfl⟩ (fun v1 M1 L1 R1 h => ?_)
  refine mj_auto6 [] 80 rfl ?_
  refine mj_wIv h (fm_o fm_s219) rfl rfl rfl rfl rfl ⟨rfl, rfl⟩ (fun v2 M2 L2 R2 h => ?_)
  refine mj_if rfl rfl (fun c => ?_) (fun c => ?_)
  · replace h := h.1 c
    refine mj_auto6 [] 80 rfl ?_
    refine fn_gI fm_s219 rfl rfl rfl ?_
    refine mj_auto6 [] 80 rfl ?_
    refine mj_wIv h (fm_o fm_s219) rfl rfl rfl rfl rfl ⟨rfl, rfl⟩ (fun v3 M3 L3 R3 h => ?_)
    refine mj_auto6 [] 80 rfl ?_
    refine mj_wIv h (fm_o fm_s219) rfl rfl rfl rfl rfl ⟨rfl, rfl⟩ (fun v4 M4 L4 R4 h => ?_)
    refine mj_if rfl rfl (fun c => ?_) (fun c => ?_)
    · replace h := h.1 c
      refine mj_auto6 [] 80 rfl ?_
      refine mj_if rfl rfl (fun c => ?_) (fun c => ?_)
      · replace h := h.1 c
        refine mj_auto6 [] 80 rfl ?_
        refine mj_if rfl rfl (fun c => ?_) (fun c => ?_)
        · replace h := h.1 c
          refine mj_auto6 [] 80 rfl ?_
          refine fn_gR fm_s219 rfl rfl rfl ?_
          refine mj_auto6 [] 80 rfl ?_
          obtain ⟨k5, c, c2, h⟩ := h
          refine fn_stk c c2 rfl fm_s224 rfl ?_
          replace h := h _ rfl
          refine mj_auto6 [] 80 rfl ?_
          refine fn_gR fm_s219 rfl rfl rfl ?_
          refine mj_auto6 [] 80 rfl ?_
          obtain ⟨k6, c, c2, h⟩ := h
          refine fn_stk c c2 rfl fm_s224 rfl ?_
          replace h := h _ rfl
          refine mj_auto6 [] 80 rfl ?_
          refine fn_gR fm_s219 rfl rfl rfl ?_
          refine mj_auto6 [] 80 rfl ?_
          refine mj_wIv h (fm_o fm_s219) rfl rfl rfl rfl rfl ⟨rfl, rfl⟩ (fun v7 M7 L7 R7 h => ?_)
          refine mj_if rfl rfl (fun c => ?_) (fun c => ?_)
          · replace h := h.1 c
            refine mj_auto6 [] 80 rfl ?_
            obtain ⟨k8, c, c2, h⟩ := h
            refine fn_stk c c2 rfl fm_s224 rfl ?_
            replace h := h _ rfl
            exact mj_rtv rfl rfl ⟨_, _, _, rfl, rfl, h⟩
          · replace h := h.2 c
            refine mj_auto6 [] 80 rfl ?_
            obtain ⟨k9, c, c2, h⟩ := h
            refine fn_stk c c2 rfl fm_s224 rfl ?_
            replace h := h _ rfl
            exact mj_rtv rfl rfl ⟨_, _, _, rfl, rfl, h⟩
        · replace h := h.2 c
          refine mj_auto6 [] 80 rfl ?_
          refine mj_wVv h (fm_o fm_s219) rfl rfl rfl rfl rfl ⟨rfl, rfl⟩ (fun M10 L10 R10 h => ?_)
          exact mj_rtv rfl rfl ⟨_, _, _, rfl, rfl, h⟩
      · replace h := h.2 c
        refine mj_auto6 [] 80 rfl ?_
        refine mj_wVv h (fm_o fm_s219) rfl rfl rfl rfl rfl ⟨rfl, rfl⟩ (fun M11 L11 R11 h => ?_)
        exact mj_rtv rfl rfl ⟨_, _, _, rfl, rfl, h⟩
    · replace h := h.2 (Classical.not_not.mp c)
      exact mj_rtv rfl rfl ⟨_, _, _, rfl, rfl, h⟩
  · replace h := h.2 c
    refine mj_auto6 [] 80 rfl ?_
    refine mj_wIv h (fm_o fm_s219) rfl rfl rfl rfl rfl ⟨rfl, rfl⟩ (fun v12 M12 L12 R12 h => ?_)
    refine mj_if rfl rfl (fun c => ?_) (fun c => ?_)
    · replace h := h.1 c
      refine mj_auto6 [] 80 rfl ?_
      refine fn_gI fm_s219 rfl rfl rfl ?_
      refine mj_auto6 [] 80 rfl ?_
      refine mj_wIv h (fm_o fm_s219) rfl rfl rfl rfl rfl ⟨rfl, rfl⟩ (fun v13 M13 L13 R13 h => ?_)
      refine mj_auto6 [] 80 rfl ?_
      refine mj_wIv h (fm_o fm_s219) rfl rfl rfl rfl rfl ⟨rfl, rfl⟩ (fun v14 M14 L14 R14 h => ?_)
      refine mj_if rfl rfl (fun c => ?_) (fun c => ?_)
      · replace h := h.1 c
        refine mj_auto6 [] 80 rfl ?_
        refine mj_if rfl rfl (fun c => ?_) (fun c => ?_)
        · replace h := h.1 c
          refine mj_auto6 [] 80 rfl ?_
          refine mj_if rfl rfl (fun c => ?_) (fun c => ?_)
          · replace h := h.1 c
            refine mj_auto6 [] 80 rfl ?_
            refine fn_gR fm_s219 rfl rfl rfl ?_
            refine mj_auto6 [] 80 rfl ?_
            obtain ⟨k15, c, c2, h⟩ := h
            refine fn_stk c c2 rfl fm_s224 rfl ?_
            replace h := h _ rfl
            refine mj_auto6 [] 80 rfl ?_
            refine fn_gR fm_s219 rfl rfl rfl ?_
            refine mj_auto6 [] 80 rfl ?_
            obtain ⟨k16, c, c2, h⟩ := h
            refine fn_stk c c2 rfl fm_s224 rfl ?_
            replace h := h _ rfl
            refine mj_auto6 [] 80 rfl ?_
            refine fn_gR fm_s219 rfl rfl rfl ?_
            refine mj_auto6 [] 80 rfl ?_
            refine mj_wIv h (fm_o fm_s219) rfl rfl rfl rfl rfl ⟨rfl, rfl⟩ (fun v17 M17 L17 R17 h => ?_)
            refine mj_if rfl rfl (fun c => ?_) (fun c => ?_)
            · replace h := h.1 c
              refine mj_auto6 [] 80 rfl ?_
              obtain ⟨k18, c, c2, h⟩ := h
              refine fn_stk c c2 rfl fm_s224 rfl ?_
              replace h := h _ rfl
              exact mj_rtv rfl rfl ⟨_, _, _, rfl, rfl, h⟩
            · replace h := h.2 c
              refine mj_auto6 [] 80 rfl ?_
              obtain ⟨k19, c, c2, h⟩ := h
              refine fn_stk c c2 rfl fm_s224 rfl ?_
              replace h := h _ rfl
              exact mj_rtv rfl rfl ⟨_, _, _, rfl, rfl, h⟩
          · replace h := h.2 c
            refine mj_auto6 [] 80 rfl ?_
            refine mj_wVv h (fm_o fm_s219) rfl rfl rfl rfl rfl ⟨rfl, rfl⟩ (fun M20 L20 R20 h => ?_)
            exact mj_rtv rfl rfl ⟨_, _, _, rfl, rfl, h⟩
        · replace h := h.2 c
          refine mj_auto6 [] 80 rfl ?_
          refine mj_wVv h (fm_o fm_s219) rfl rfl rfl rfl rfl ⟨rfl, rfl⟩ (fun M21 L21 R21 h => ?_)
          exact mj_rtv rfl rfl ⟨_, _, _, rfl, rfl, h⟩
      · replace h := h.2 (Classical.not_not.mp c)
        exact mj_rtv rfl rfl ⟨_, _, _, rfl, rfl, h⟩
    · replace h := h.2 (Classical.not_not.mp c)
      refine mj_auto6 [] 80 rfl ?_
      refine fn_gI fm_s219 rfl rfl rfl ?_
      refine mj_wVv h (fm_o fm_s219) rfl rfl rfl rfl rfl ⟨rfl, rfl⟩ (fun M22 L22 R22 h => ?_)
      refine mj_auto6 [] 80 rfl ?_
      refine fn_gI fm_s219 rfl rfl rfl ?_
      refine mj_auto6 [] 80 rfl ?_
      refine mj_wIv h (fm_o fm_s219) rfl rfl rfl rfl rfl ⟨rfl, rfl⟩ (fun v23 M23 L23 R23 h => ?_)
      refine mj_auto6 [] 80 rfl ?_
      refine mj_wIv h (fm_o fm_s219) rfl rfl rfl rfl rfl ⟨rfl, rfl⟩ (fun v24 M24 L24 R24 h => ?_)
      refine mj_if rfl rfl (fun c => ?_) (fun c => ?_)
      · replace h := h.1 c
        refine mj_auto6 [] 80 rfl ?_
        refine mj_if rfl rfl (fun c => ?_) (fun c => ?_)
        · replace h := h.1 c
          refine mj_auto6 [] 80 rfl ?_
          refine mj_if rfl rfl (fun c => ?_) (fun c => ?_)
          · replace h := h.1 c
            refine mj_auto6 [] 80 rfl ?_
            refine fn_gR fm_s219 rfl rfl rfl ?_
            refine mj_auto6 [] 80 rfl ?_
            obtain ⟨k25, c, c2, h⟩ := h
            refine fn_stk c c2 rfl fm_s224 rfl ?_
            replace h := h _ rfl
            refine mj_auto6 [] 80 rfl ?_
            refine fn_gR fm_s219 rfl rfl rfl ?_
            refine mj_auto6 [] 80 rfl ?_
            obtain ⟨k26, c, c2, h⟩ := h
            refine fn_stk c c2 rfl fm_s224 rfl ?_
            replace h := h _ rfl
            refine mj_auto6 [] 80 rfl ?_
            refine fn_gR fm_s219 rfl rfl rfl ?_
            refine mj_auto6 [] 80 rfl ?_
            refine mj_wIv h (fm_o fm_s219) rfl rfl rfl rfl rfl ⟨rfl, rfl⟩ (fun v27 M27 L27 R27 h => ?_)
            refine mj_if rfl rfl (fun c => ?_) (fun c => ?_)
            · replace h := h.1 c
              refine mj_auto6 [] 80 rfl ?_
              obtain ⟨k28, c, c2, h⟩ := h
              refine fn_stk c c2 rfl fm_s224 rfl ?_
              replace h := h _ rfl
              exact mj_rtv rfl rfl ⟨_, _, _, rfl, rfl, h⟩
            · replace h := h.2 c
              refine mj_auto6 [] 80 rfl ?_
              obtain ⟨k29, c, c2, h⟩ := h
              refine fn_stk c c2 rfl fm_s224 rfl ?_
              replace h := h _ rfl
              exact mj_rtv rfl rfl ⟨_, _, _, rfl, rfl, h⟩
          · replace h := h.2 c
            refine mj_auto6 [] 80 rfl ?_
            refine mj_wVv h (fm_o fm_s219) rfl rfl rfl rfl rfl ⟨rfl, rfl⟩ (fun M30 L30 R30 h => ?_)
            exact mj_rtv rfl rfl ⟨_, _, _, rfl, rfl, h⟩
        · replace h := h.2 c
          refine mj_auto6 [] 80 rfl ?_
          refine mj_wVv h (fm_o fm_s219) rfl rfl rfl rfl rfl ⟨rfl, rfl⟩ (fun M31 L31 R31 h => ?_)
          exact mj_rtv rfl rfl ⟨_, _, _, rfl, rfl, h⟩
      · replace h := h.2 (Classical.not_not.mp c)
        exact mj_rtv rfl rfl ⟨_, _, _, rfl, rfl, h⟩
def H163_38 (d : Nat) (x1 : Int32) (x2 : Int32) (x3 : Int32) (M : Nat → Nat → Int32) (ML : Nat → Nat → Int64) (R : Nat → Nat → Option Nat) (K : wK) : Prop := mj_Rn d (some .int) kX11_joins (wQ K) (fm_mk (M, ML, R)) 38 [some (.ref 219), some (.int x1), some (.int x2), some (.int x3), none, none] []
def H163_112 (d : Nat) (x1 : Int32) (x2 : Int32) (x3 : Int32) (x4 : Int32) (M : Nat → Nat → Int32) (ML : Nat → Nat → Int64) (R : Nat → Nat → Option Nat) (K : wK) : Prop := mj_Rn d (some .int) kX11_joins (wQ K) (fm_mk (M, ML, R)) 112 [some (.ref 219), some (.int x1), some (.int x2), some (.int x3), some (.int x4), none] []
def H163_121 (d : Nat) (x1 : Int32) (x2 : Int32) (x3 : Int32) (x4 : Int32) (x5 : Int32) (M : Nat → Nat → Int32) (ML : Nat → Nat → Int64) (R : Nat → Nat → Option Nat) (K : wK) : Prop := mj_Rn d (some .int) kX11_joins (wQ K) (fm_mk (M, ML, R)) 121 [some (.ref 219), some (.int x1), some (.int x2), some (.int x3), some (.int x4), some (.int x5)] []
set_option maxRecDepth 20000 in
theorem h163_38 {d : Nat} {x1 : Int32} {x2 : Int32} {x3 : Int32} {M : Nat → Nat → Int32} {ML : Nat → Nat → Int64} {R : Nat → Nat → Option Nat} {K : wK} (h : ((x3 = 0 → (wI d 160 [.ref 219] M ML R (fun v1 M1 L1 R1 => ((¬ v1 = 0 → (wV d 170 [.ref 220, .ref 226, .int (0 : Int32)] M1 L1 R1 (fun M2 L2 R2 => H163_112 d x1 x2 x3 (0 : Int32) M2 L2 R2 K))) ∧ (v1 = 0 → K ((-1 : Int32) - (M1 219 16)) M1 L1 R1))))) ∧ (¬ x3 = 0 → (wI d 156 [.ref 219] M ML R (fun v3 M3 L3 R3 => ((v3 = 0 → (wI d 160 [.ref 219] M3 L3 R3 (fun v4 M4 L4 R4 => ((¬ v4 = 0 → (wV d 170 [.ref 220, .ref 226, .int (0 : Int32)] M4 L4 R4 (fun M5 L5 R5 => H163_112 d x1 x2 x3 (0 : Int32) M5 L5 R5 K))) ∧ (v4 = 0 → K ((-1 : Int32) - (M4 219 16)) M4 L4 R4))))) ∧ (¬ v3 = 0 → ((¬ x2 = x1 → (wV d 162 [.ref 219, .int x2] M3 L3 R3 (fun M6 L6 R6 => (wI d 158 [.ref 219, .int (59 : Int32)] M6 L6 R6 (fun v7 M7 L7 R7 => H163_38 d x1 (x2 + (1 : Int32)) v7 M7 L7 R7 K))))) ∧ (x2 = x1 → (wV d 157 [.ref 219, .int (M3 219 15)] M3 L3 R3 (fun M8 L8 R8 => (wI d 158 [.ref 219, .int (59 : Int32)] M8 L8 R8 (fun v9 M9 L9 R9 => H163_38 d x1 (x2 + (1 : Int32)) v9 M9 L9 R9 K))))))))))))) : H163_38 d x1 x2 x3 M ML R K := by
  unfold H163_38
  refine mj_begin6 [38, 112, 121] 80 rfl ?_
  refine mj_if rfl rfl (fun c => ?_) (fun c => ?_)
  · replace h := h.1 c
    refine mj_auto6 [38, 112, 121] 80 rfl ?_
    refine mj_wIv h (fm_o fm_s219) rfl rfl rfl rfl rfl ⟨rfl, rfl⟩ (fun v1 M1 L1 R1 h => ?_)
    refine mj_if rfl rfl (fun c => ?_) (fun c => ?_)
    · replace h := h.1 c
      refine mj_auto6 [38, 112, 121] 80 rfl ?_
      refine fn_gR fm_s219 rfl rfl rfl ?_
      refine mj_auto6 [38, 112, 121] 80 rfl ?_
      refine fn_gR fm_s219 rfl rfl rfl ?_
      refine mj_auto6 [38, 112, 121] 80 rfl ?_
      refine mj_wVs h rfl rfl rfl rfl rfl rfl (fun M2 L2 R2 h => ?_)
      refine mj_auto6 [38, 112, 121] 80 rfl ?_
      exact h
    · replace h := h.2 (Classical.not_not.mp c)
      refine mj_auto6 [38, 112, 121] 80 rfl ?_
      refine fn_gI fm_s219 rfl rfl rfl ?_
      refine mj_auto6 [38, 112, 121] 80 rfl ?_
      exact mj_rt rfl rfl rfl ⟨_, _, _, _, rfl, rfl, h⟩
  · replace h := h.2 c
    refine mj_auto6 [38, 112, 121] 80 rfl ?_
    refine mj_wIv h (fm_o fm_s219) rfl rfl rfl rfl rfl ⟨rfl, rfl⟩ (fun v3 M3 L3 R3 h => ?_)
    refine mj_if rfl rfl (fun c => ?_) (fun c => ?_)
    · replace h := h.1 c
      refine mj_auto6 [38, 112, 121] 80 rfl ?_
      refine mj_wIv h (fm_o fm_s219) rfl rfl rfl rfl rfl ⟨rfl, rfl⟩ (fun v4 M4 L4 R4 h => ?_)
      refine mj_if rfl rfl (fun c => ?_) (fun c => ?_)
      · replace h := h.1 c
        refine mj_auto6 [38, 112, 121] 80 rfl ?_
        refine fn_gR fm_s219 rfl rfl rfl ?_
        refine mj_auto6 [38, 112, 121] 80 rfl ?_
        refine fn_gR fm_s219 rfl rfl rfl ?_
        refine mj_auto6 [38, 112, 121] 80 rfl ?_
        refine mj_wVs h rfl rfl rfl rfl rfl rfl (fun M5 L5 R5 h => ?_)
        refine mj_auto6 [38, 112, 121] 80 rfl ?_
        exact h
      · replace h := h.2 (Classical.not_not.mp c)
        refine mj_auto6 [38, 112, 121] 80 rfl ?_
        refine fn_gI fm_s219 rfl rfl rfl ?_
        refine mj_auto6 [38, 112, 121] 80 rfl ?_
        exact mj_rt rfl rfl rfl ⟨_, _, _, _, rfl, rfl, h⟩
    · replace h := h.2 c
      refine mj_auto6 [38, 112, 121] 80 rfl ?_
      refine mj_if rfl rfl (fun c => ?_) (fun c => ?_)
      · replace h := h.1 c
        refine mj_auto6 [38, 112, 121] 80 rfl ?_
        refine mj_wVv h (fm_o fm_s219) rfl rfl rfl rfl rfl ⟨rfl, rfl⟩ (fun M6 L6 R6 h => ?_)
        refine mj_auto6 [38, 112, 121] 80 rfl ?_
        refine mj_wIv h (fm_o fm_s219) rfl rfl rfl rfl rfl ⟨rfl, rfl⟩ (fun v7 M7 L7 R7 h => ?_)
        refine mj_auto6 [38, 112, 121] 80 rfl ?_
        exact h
      · replace h := h.2 (Classical.not_not.mp c)
        refine mj_auto6 [38, 112, 121] 80 rfl ?_
        refine fn_gI fm_s219 rfl rfl rfl ?_
        refine mj_wVv h (fm_o fm_s219) rfl rfl rfl rfl rfl ⟨rfl, rfl⟩ (fun M8 L8 R8 h => ?_)
        refine mj_auto6 [38, 112, 121] 80 rfl ?_
        refine mj_wIv h (fm_o fm_s219) rfl rfl rfl rfl rfl ⟨rfl, rfl⟩ (fun v9 M9 L9 R9 h => ?_)
        refine mj_auto6 [38, 112, 121] 80 rfl ?_
        exact h
set_option maxRecDepth 20000 in
theorem h163_112 {d : Nat} {x1 : Int32} {x2 : Int32} {x3 : Int32} {x4 : Int32} {M : Nat → Nat → Int32} {ML : Nat → Nat → Int64} {R : Nat → Nat → Option Nat} {K : wK} (h : ((x2 ≤ x4 → (wV d 141 [.ref 219, .ref 226] M ML R (fun M1 L1 R1 => (((lg_cmp (L1 219 9) ((((M1 220 40)).toInt64) * (L1 219 10))) ≤ 0 → (wV d 171 [.ref 219, .ref 220] M1 L1 R1 (fun M2 L2 R2 => (wV d 170 [.ref 226, .ref 220, .int (0 : Int32)] M2 L2 R2 (fun M3 L3 R3 => K x2 M3 L3 R3))))) ∧ (¬ (lg_cmp (L1 219 9) ((((M1 220 40)).toInt64) * (L1 219 10))) ≤ 0 → K (-100 : Int32) M1 L1 R1))))) ∧ (¬ x2 ≤ x4 → H163_121 d x1 x2 x3 x4 (0 : Int32) M ML R K))) : H163_112 d x1 x2 x3 x4 M ML R K := by
  unfold H163_112
  refine mj_begin6 [38, 112, 121] 80 rfl ?_
  refine mj_if rfl rfl (fun c => ?_) (fun c => ?_)
  · replace h := h.1 c
    refine mj_auto6 [38, 112, 121] 80 rfl ?_
    refine fn_gR fm_s219 rfl rfl rfl ?_
    refine mj_wVv h (fm_o fm_s219) rfl rfl rfl rfl rfl ⟨rfl, rfl⟩ (fun M1 L1 R1 h => ?_)
    refine mj_auto6 [38, 112, 121] 80 rfl ?_
    refine fn_gL fm_s219 rfl rfl rfl ?_
    refine mj_auto6 [38, 112, 121] 80 rfl ?_
    refine fn_gR fm_s219 rfl rfl rfl ?_
    refine mj_auto6 [38, 112, 121] 80 rfl ?_
    refine fn_ldk (k := 40) rfl (by decide) rfl fm_s220 rfl ?_
    refine mj_auto6 [38, 112, 121] 80 rfl ?_
    refine fn_gL fm_s219 rfl rfl rfl ?_
    refine mj_auto6 [38, 112, 121] 80 rfl ?_
    refine mj_if rfl rfl (fun c => ?_) (fun c => ?_)
    · replace h := h.1 c
      refine mj_auto6 [38, 112, 121] 80 rfl ?_
      refine fn_gR fm_s219 rfl rfl rfl ?_
      refine mj_wVv h (fm_o fm_s219) rfl rfl rfl rfl rfl ⟨rfl, rfl⟩ (fun M2 L2 R2 h => ?_)
      refine mj_auto6 [38, 112, 121] 80 rfl ?_
      refine fn_gR fm_s219 rfl rfl rfl ?_
      refine mj_auto6 [38, 112, 121] 80 rfl ?_
      refine fn_gR fm_s219 rfl rfl rfl ?_
      refine mj_auto6 [38, 112, 121] 80 rfl ?_
      refine mj_wVs h rfl rfl rfl rfl rfl rfl (fun M3 L3 R3 h => ?_)
      refine mj_auto6 [38, 112, 121] 80 rfl ?_
      exact mj_rt rfl rfl rfl ⟨_, _, _, _, rfl, rfl, h⟩
    · replace h := h.2 c
      refine mj_auto6 [38, 112, 121] 80 rfl ?_
      exact mj_rt rfl rfl rfl ⟨_, _, _, _, rfl, rfl, h⟩
  · replace h := h.2 c
    refine mj_auto6 [38, 112, 121] 80 rfl ?_
    exact h
set_option maxRecDepth 20000 in
theorem h163_121 {d : Nat} {x1 : Int32} {x2 : Int32} {x3 : Int32} {x4 : Int32} {x5 : Int32} {M : Nat → Nat → Int32} {ML : Nat → Nat → Int64} {R : Nat → Nat → Option Nat} {K : wK} (h : (wI d 136 [.ref 226, .int x5] M ML R (fun v1 M1 L1 R1 => ((v1 = 0 → (∃ k2, ((3 : Int32) * x4) = nI k2 ∧ k2 < 24 ∧ (∃ k3, x5 = nI k3 ∧ k3 < 43 ∧ (∀ M3, M3 = fm_u M1 226 k3 (M1 224 k2) → (∃ k4, (((3 : Int32) * x4) + (1 : Int32)) = nI k4 ∧ k4 < 24 ∧ (∃ k5, ((8 : Int32) + x5) = nI k5 ∧ k5 < 43 ∧ (∀ M5, M5 = fm_u M3 226 k5 (M3 224 k4) → (∃ k6, ((16 : Int32) + x5) = nI k6 ∧ k6 < 43 ∧ (∀ M6, M6 = fm_u M5 226 k6 (M5 226 41) → (∃ k7, (((3 : Int32) * x4) + (2 : Int32)) = nI k7 ∧ k7 < 24 ∧ (∃ k8, ((24 : Int32) + x5) = nI k8 ∧ k8 < 43 ∧ (∀ M8, M8 = fm_u M6 226 k8 (M6 224 k7) → (∃ k9, ((32 : Int32) + x5) = nI k9 ∧ k9 < 43 ∧ (∀ M9, M9 = fm_u M8 226 k9 (0 : Int32) → H163_112 d x1 x2 x3 (x4 + (1 : Int32)) M9 L1 R1 K)))))))))))))) ∧ (¬ v1 = 0 → H163_121 d x1 x2 x3 x4 (x5 + (1 : Int32)) M1 L1 R1 K))))) : H163_121 d x1 x2 x3 x4 x5 M ML R K := by
  unfold H163_121
  refine mj_begin6 [38, 112, 121] 80 rfl ?_
  refine fn_gR fm_s219 rfl rfl rfl ?_
  refine mj_auto6 [38, 112, 121] 80 rfl ?_
  refine mj_wIs h rfl rfl rfl rfl rfl rfl (fun v1 M1 L1 R1 h => ?_)
  refine mj_if rfl rfl (fun c => ?_) (fun c => ?_)
  · replace h := h.1 c
    refine mj_auto6 [38, 112, 121] 80 rfl ?_
    refine fn_gR fm_s219 rfl rfl rfl ?_
    refine mj_auto6 [38, 112, 121] 80 rfl ?_
    refine fn_gR fm_s219 rfl rfl rfl ?_
    refine mj_auto6 [38, 112, 121] 80 rfl ?_
    obtain ⟨k2, c, c2, h⟩ := h
    refine fn_ldk c c2 rfl fm_s224 rfl ?_
    obtain ⟨k3, c, c2, h⟩ := h
    refine fn_stk c c2 rfl fm_s226 rfl ?_
    replace h := h _ rfl
    refine mj_auto6 [38, 112, 121] 80 rfl ?_
    refine fn_gR fm_s219 rfl rfl rfl ?_
    refine mj_auto6 [38, 112, 121] 80 rfl ?_
    refine fn_gR fm_s219 rfl rfl rfl ?_
    refine mj_auto6 [38, 112, 121] 80 rfl ?_
    obtain ⟨k4, c, c2, h⟩ := h
    refine fn_ldk c c2 rfl fm_s224 rfl ?_
    obtain ⟨k5, c, c2, h⟩ := h
    refine fn_stk c c2 rfl fm_s226 rfl ?_
    replace h := h _ rfl
    refine mj_auto6 [38, 112, 121] 80 rfl ?_
    refine fn_gR fm_s219 rfl rfl rfl ?_
    refine mj_auto6 [38, 112, 121] 80 rfl ?_
    refine fn_gR fm_s219 rfl rfl rfl ?_
    refine mj_auto6 [38, 112, 121] 80 rfl ?_
    refine fn_ldk (k := 41) rfl (by decide) rfl fm_s226 rfl ?_
    obtain ⟨k6, c, c2, h⟩ := h
    refine fn_stk c c2 rfl fm_s226 rfl ?_
    replace h := h _ rfl
    refine mj_auto6 [38, 112, 121] 80 rfl ?_
    refine fn_gR fm_s219 rfl rfl rfl ?_
    refine mj_auto6 [38, 112, 121] 80 rfl ?_
    refine fn_gR fm_s219 rfl rfl rfl ?_
    refine mj_auto6 [38, 112, 121] 80 rfl ?_
    obtain ⟨k7, c, c2, h⟩ := h
    refine fn_ldk c c2 rfl fm_s224 rfl ?_
    obtain ⟨k8, c, c2, h⟩ := h
    refine fn_stk c c2 rfl fm_s226 rfl ?_
    replace h := h _ rfl
    refine mj_auto6 [38, 112, 121] 80 rfl ?_
    refine fn_gR fm_s219 rfl rfl rfl ?_
    refine mj_auto6 [38, 112, 121] 80 rfl ?_
    obtain ⟨k9, c, c2, h⟩ := h
    refine fn_stk c c2 rfl fm_s226 rfl ?_
    replace h := h _ rfl
    refine mj_auto6 [38, 112, 121] 80 rfl ?_
    exact mj_less h (leS (leS (leS (leS (leS (leN le0))))))
  · replace h := h.2 c
    refine mj_auto6 [38, 112, 121] 80 rfl ?_
    exact h
set_option maxRecDepth 20000 in
theorem w163 {d : Nat} {M : Nat → Nat → Int32} {ML : Nat → Nat → Int64} {R : Nat → Nat → Option Nat} {K : wK} (h : (∀ M1, M1 = fm_u M 219 5 (0 : Int32) → (wV d 154 [.ref 219, .int (55 : Int32)] M1 ML R (fun M2 L2 R2 => ((¬ (M2 219 13) = 0 → (wI d 138 [.ref 220] M2 L2 R2 (fun v3 M3 L3 R3 => (wI d 236 [.int v3] M3 L3 R3 (fun v4 M4 L4 R4 => H163_38 d ((8 : Int32) - v4) (0 : Int32) (1 : Int32) M4 L4 R4 K))))) ∧ ((M2 219 13) = 0 → K (0 : Int32) M2 L2 R2)))))) : wI (d + 1) 163 [.ref 219] M ML R K := by
  refine mj_of _ _ rfl rfl rfl ?_
  refine mj_auto6 [38, 112, 121] 80 rfl ?_
  refine fn_pI fm_s219 rfl rfl rfl rfl ?_
  replace h := h _ rfl
  refine mj_auto6 [38, 112, 121] 80 rfl ?_
  refine mj_wVv h (fm_o fm_s219) rfl rfl rfl rfl rfl ⟨rfl, rfl⟩ (fun M2 L2 R2 h => ?_)
  refine mj_auto6 [38, 112, 121] 80 rfl ?_
  refine fn_gI fm_s219 rfl rfl rfl ?_
  refine mj_if rfl rfl (fun c => ?_) (fun c => ?_)
  · replace h := h.1 c
    refine mj_auto6 [38, 112, 121] 80 rfl ?_
    refine fn_gR fm_s219 rfl rfl rfl ?_
    refine mj_wIs h rfl rfl rfl rfl rfl rfl (fun v3 M3 L3 R3 h => ?_)
    refine mj_wIs h rfl rfl rfl rfl rfl rfl (fun v4 M4 L4 R4 h => ?_)
    refine mj_auto6 [38, 112, 121] 80 rfl ?_
    exact h
  · replace h := h.2 (Classical.not_not.mp c)
    refine mj_auto6 [38, 112, 121] 80 rfl ?_
    exact mj_rt rfl rfl rfl ⟨_, _, _, _, rfl, rfl, h⟩
set_option maxRecDepth 20000 in
theorem w164 {d : Nat} {a0 : Int32} {M : Nat → Nat → Int32} {ML : Nat → Nat → Int64} {R : Nat → Nat → Option Nat} {K : wK} (h : ((a0 = (100 : Int32) → K (1 : Int32) M ML R) ∧ (¬ a0 = (100 : Int32) → ((a0 = (98 : Int32) → K (1 : Int32) M ML R) ∧ (¬ a0 = (98 : Int32) → ((a0 = (103 : Int32) → K (1 : Int32) M ML R) ∧ (¬ a0 = (103 : Int32) → ((a0 = (119 : Int32) → K (1 : Int32) M ML R) ∧ (¬ a0 = (119 : Int32) → ((¬ a0 = (114 : Int32) → K (0 : Int32) M ML R) ∧ (a0 = (114 : Int32) → K (1 : Int32) M ML R))))))))))) : wI (d + 1) 164 [.int a0] M ML R K := by
  refine mj_of _ _ rfl rfl rfl ?_
  refine mj_auto1 [] 80 rfl ?_
  refine mj_if rfl rfl (fun c => ?_) (fun c => ?_)
  · replace h := h.1 c
    refine mj_auto1 [] 80 rfl ?_
    exact mj_rt rfl rfl rfl ⟨_, _, _, _, rfl, rfl, h⟩
  · replace h := h.2 c
    refine mj_auto1 [] 80 rfl ?_
    refine mj_if rfl rfl (fun c => ?_) (fun c => ?_)
    · replace h := h.1 c
      refine mj_auto1 [] 80 rfl ?_
      exact mj_rt rfl rfl rfl ⟨_, _, _, _, rfl, rfl, h⟩
    · replace h := h.2 c
      refine mj_auto1 [] 80 rfl ?_
      refine mj_if rfl rfl (fun c => ?_) (fun c => ?_)
      · replace h := h.1 c
        refine mj_auto1 [] 80 rfl ?_
        exact mj_rt rfl rfl rfl ⟨_, _, _, _, rfl, rfl, h⟩
      · replace h := h.2 c
        refine mj_auto1 [] 80 rfl ?_
        refine mj_if rfl rfl (fun c => ?_) (fun c => ?_)
        · replace h := h.1 c
          refine mj_auto1 [] 80 rfl ?_
          exact mj_rt rfl rfl rfl ⟨_, _, _, _, rfl, rfl, h⟩
        · replace h := h.2 c
          refine mj_auto1 [] 80 rfl ?_
          refine mj_if rfl rfl (fun c => ?_) (fun c => ?_)
          · replace h := h.1 c
            refine mj_auto1 [] 80 rfl ?_
            exact mj_rt rfl rfl rfl ⟨_, _, _, _, rfl, rfl, h⟩
          · replace h := h.2 (Classical.not_not.mp c)
            refine mj_auto1 [] 80 rfl ?_
            exact mj_rt rfl rfl rfl ⟨_, _, _, _, rfl, rfl, h⟩
def H165_2 (d : Nat) (x1 : Int32) (x2 : Int32) (M : Nat → Nat → Int32) (ML : Nat → Nat → Int64) (R : Nat → Nat → Option Nat) (K : wK) : Prop := mj_Rn d (some .int) kX11_rightTies (wQ K) (fm_mk (M, ML, R)) 2 [some (.ref 219), some (.int x1), some (.int x2), none] []
def H165_23 (d : Nat) (x1 : Int32) (x2 : Int32) (x3 : Int32) (M : Nat → Nat → Int32) (ML : Nat → Nat → Int64) (R : Nat → Nat → Option Nat) (K : wK) : Prop := mj_Rn d (some .int) kX11_rightTies (wQ K) (fm_mk (M, ML, R)) 23 [some (.ref 219), some (.int x1), some (.int x2), some (.int x3)] []
set_option maxRecDepth 20000 in
theorem h165_2 {d : Nat} {x1 : Int32} {x2 : Int32} {M : Nat → Nat → Int32} {ML : Nat → Nat → Int64} {R : Nat → Nat → Option Nat} {K : wK} (h : ((x1 ≤ x2 → K x1 M ML R) ∧ (¬ x1 ≤ x2 → (∃ k1, x2 = nI k1 ∧ k1 < 80 ∧ (wI d 164 [.int (M 221 k1)] M ML R (fun v2 M2 L2 R2 => ((¬ v2 = 0 → H165_23 d x1 x2 (0 : Int32) M2 L2 R2 K) ∧ (v2 = 0 → K x2 M2 L2 R2)))))))) : H165_2 d x1 x2 M ML R K := by
  unfold H165_2
  refine mj_begin4 [2, 23] 80 rfl ?_
  refine mj_if rfl rfl (fun c => ?_) (fun c => ?_)
  · replace h := h.1 c
    refine mj_auto4 [2, 23] 80 rfl ?_
    exact mj_rt rfl rfl rfl ⟨_, _, _, _, rfl, rfl, h⟩
  · replace h := h.2 c
    refine mj_auto4 [2, 23] 80 rfl ?_
    refine fn_gR fm_s219 rfl rfl rfl ?_
    refine mj_auto4 [2, 23] 80 rfl ?_
    obtain ⟨k1, c, c2, h⟩ := h
    refine fn_ldkb c c2 rfl fm_s221 rfl ?_
    refine mj_wIs h rfl rfl rfl rfl rfl rfl (fun v2 M2 L2 R2 h => ?_)
    refine mj_if rfl rfl (fun c => ?_) (fun c => ?_)
    · replace h := h.1 c
      refine mj_auto4 [2, 23] 80 rfl ?_
      exact h
    · replace h := h.2 (Classical.not_not.mp c)
      refine mj_auto4 [2, 23] 80 rfl ?_
      exact mj_rt rfl rfl rfl ⟨_, _, _, _, rfl, rfl, h⟩
set_option maxRecDepth 20000 in
theorem h165_23 {d : Nat} {x1 : Int32} {x2 : Int32} {x3 : Int32} {M : Nat → Nat → Int32} {ML : Nat → Nat → Int64} {R : Nat → Nat → Option Nat} {K : wK} (h : ((x2 ≤ x3 → H165_2 d x1 (x2 + (1 : Int32)) M ML R K) ∧ (¬ x2 ≤ x3 → (∃ k1, x3 = nI k1 ∧ k1 < 80 ∧ (∃ k2, x2 = nI k2 ∧ k2 < 80 ∧ ((¬ (M 221 k1) = (M 221 k2) → H165_23 d x1 x2 (x3 + (1 : Int32)) M ML R K) ∧ ((M 221 k1) = (M 221 k2) → K x2 M ML R))))))) : H165_23 d x1 x2 x3 M ML R K := by
  unfold H165_23
  refine mj_begin4 [2, 23] 80 rfl ?_
  refine mj_if rfl rfl (fun c => ?_) (fun c => ?_)
  · replace h := h.1 c
    refine mj_auto4 [2, 23] 80 rfl ?_
    exact mj_less h (leS (leS (leS (leN le0))))
  · replace h := h.2 c
    refine mj_auto4 [2, 23] 80 rfl ?_
    refine fn_gR fm_s219 rfl rfl rfl ?_
    refine mj_auto4 [2, 23] 80 rfl ?_
    obtain ⟨k1, c, c2, h⟩ := h
    refine fn_ldkb c c2 rfl fm_s221 rfl ?_
    refine mj_auto4 [2, 23] 80 rfl ?_
    refine fn_gR fm_s219 rfl rfl rfl ?_
    refine mj_auto4 [2, 23] 80 rfl ?_
    obtain ⟨k2, c, c2, h⟩ := h
    refine fn_ldkb c c2 rfl fm_s221 rfl ?_
    refine mj_if rfl rfl (fun c => ?_) (fun c => ?_)
    · replace h := h.1 c
      refine mj_auto4 [2, 23] 80 rfl ?_
      exact h
    · replace h := h.2 (Classical.not_not.mp c)
      refine mj_auto4 [2, 23] 80 rfl ?_
      exact mj_rt rfl rfl rfl ⟨_, _, _, _, rfl, rfl, h⟩
set_option maxRecDepth 20000 in
theorem w165 {d : Nat} {a1 : Int32} {M : Nat → Nat → Int32} {ML : Nat → Nat → Int64} {R : Nat → Nat → Option Nat} {K : wK} (h : H165_2 d a1 (0 : Int32) M ML R K) : wI (d + 1) 165 [.ref 219, .int a1] M ML R K := by
  refine mj_of _ _ rfl rfl rfl ?_
  refine mj_auto4 [2, 23] 80 rfl ?_
  exact h
def H166_32 (d : Nat) (x1 : Int32) (x2 : Int32) (x3 : Int32) (M : Nat → Nat → Int32) (ML : Nat → Nat → Int64) (R : Nat → Nat → Option Nat) (K : wK) : Prop := mj_Rn d (some .int) kX11_ties (wQ K) (fm_mk (M, ML, R)) 32 [some (.ref 219), some (.int x1), some (.int x2), some (.int x3)] []
set_option maxRecDepth 20000 in
theorem h166_32 {d : Nat} {x1 : Int32} {x2 : Int32} {x3 : Int32} {M : Nat → Nat → Int32} {ML : Nat → Nat → Int64} {R : Nat → Nat → Option Nat} {K : wK} (h : ((x1 ≤ x3 → (∀ M1, M1 = fm_u M 219 8 x1 → K x1 M1 ML R)) ∧ (¬ x1 ≤ x3 → (R 219 6 = some 244 ∧ (∃ k2, x3 = nI k2 ∧ k2 < 80 ∧ (∃ k3, x3 = nI k3 ∧ k3 < 5 ∧ (∀ M3, M3 = fm_u M 244 k3 (vp_nar .byte (M 221 k2)) → H166_32 d x1 x2 (x3 + (1 : Int32)) M3 ML R K))))))) : H166_32 d x1 x2 x3 M ML R K := by
  unfold H166_32
  refine mj_begin4 [32] 80 rfl ?_
  refine mj_if rfl rfl (fun c => ?_) (fun c => ?_)
  · replace h := h.1 c
    refine mj_auto4 [32] 80 rfl ?_
    refine fn_pI fm_s219 rfl rfl rfl rfl ?_
    replace h := h _ rfl
    refine mj_auto4 [32] 80 rfl ?_
    exact mj_rt rfl rfl rfl ⟨_, _, _, _, rfl, rfl, h⟩
  · replace h := h.2 c
    refine mj_auto4 [32] 80 rfl ?_
    obtain ⟨c, h⟩ := h
    refine fn_gM fm_s219 rfl rfl rfl c ?_
    refine mj_auto4 [32] 80 rfl ?_
    refine fn_gR fm_s219 rfl rfl rfl ?_
    refine mj_auto4 [32] 80 rfl ?_
    obtain ⟨k2, c, c2, h⟩ := h
    refine fn_ldkb c c2 rfl fm_s221 rfl ?_
    obtain ⟨k3, c, c2, h⟩ := h
    refine fn_stkb c c2 rfl fm_s244 rfl ?_
    replace h := h _ rfl
    refine mj_auto4 [32] 80 rfl ?_
    exact h
set_option maxRecDepth 20000 in
theorem w166 {d : Nat} {M : Nat → Nat → Int32} {ML : Nat → Nat → Int64} {R : Nat → Nat → Option Nat} {K : wK} (h : (∀ M1, M1 = fm_u M 219 5 (0 : Int32) → (∀ M2, M2 = fm_u M1 219 2 (0 : Int32) → (wI d 165 [.ref 219, .int (M1 219 2)] M2 ML R (fun v3 M3 L3 R3 => (((M1 219 2) ≤ v3 → H166_32 d (M1 219 2) v3 (0 : Int32) M3 L3 R3 K) ∧ (¬ (M1 219 2) ≤ v3 → K ((-1 : Int32) - v3) M3 L3 R3))))))) : wI (d + 1) 166 [.ref 219] M ML R K := by
  refine mj_of _ _ rfl rfl rfl ?_
  refine mj_auto4 [32] 80 rfl ?_
  refine fn_pI fm_s219 rfl rfl rfl rfl ?_
  replace h := h _ rfl
  refine mj_auto4 [32] 80 rfl ?_
  refine fn_gI fm_s219 rfl rfl rfl ?_
  refine mj_auto4 [32] 80 rfl ?_
  refine fn_pI fm_s219 rfl rfl rfl rfl ?_
  replace h := h _ rfl
  refine mj_auto4 [32] 80 rfl ?_
  refine mj_wIv h (fm_o fm_s219) rfl rfl rfl rfl rfl ⟨rfl, rfl⟩ (fun v3 M3 L3 R3 h => ?_)
  refine mj_auto4 [32] 80 rfl ?_
  refine mj_if rfl rfl (fun c => ?_) (fun c => ?_)
  · replace h := h.1 c
    refine mj_auto4 [32] 80 rfl ?_
    exact h
  · replace h := h.2 c
    refine mj_auto4 [32] 80 rfl ?_
    exact mj_rt rfl rfl rfl ⟨_, _, _, _, rfl, rfl, h⟩
set_option maxRecDepth 20000 in
theorem w167 {d : Nat} {a1 : Int32} {a2 : Int32} {M : Nat → Nat → Int32} {ML : Nat → Nat → Int64} {R : Nat → Nat → Option Nat} {K : wK} (h : (∀ M1, M1 = fm_u M 219 5 (0 : Int32) → (wI d 137 [.ref 219, .int a1] M1 ML R (fun v2 M2 L2 R2 => ((v2 = 0 → (wI d 134 [.ref 219] M2 L2 R2 (fun v3 M3 L3 R3 => K v3 M3 L3 R3))) ∧ (¬ v2 = 0 → (wI d 132 [.int a2, .int (0 : Int32), .int (4 : Int32)] M2 L2 R2 (fun v4 M4 L4 R4 => ((¬ v4 = 0 → (∃ k5, (((8 : Int32) * a2) + a1) = nI k5 ∧ k5 < 43 ∧ K (M4 220 k5) M4 L4 R4)) ∧ (v4 = 0 → (wI d 134 [.ref 219] M4 L4 R4 (fun v6 M6 L6 R6 => K v6 M6 L6 R6)))))))))))) : wI (d + 1) 167 [.ref 219, .int a1, .int a2] M ML R K := by
  refine mj_of _ _ rfl rfl rfl ?_
  refine mj_auto3 [] 80 rfl ?_
  refine fn_pI fm_s219 rfl rfl rfl rfl ?_
  replace h := h _ rfl
  refine mj_auto3 [] 80 rfl ?_
  refine mj_wIv h (fm_o fm_s219) rfl rfl rfl rfl rfl ⟨rfl, rfl⟩ (fun v2 M2 L2 R2 h => ?_)
  refine mj_if rfl rfl (fun c => ?_) (fun c => ?_)
  · replace h := h.1 c
    refine mj_auto3 [] 80 rfl ?_
    refine mj_wIv h (fm_o fm_s219) rfl rfl rfl rfl rfl ⟨rfl, rfl⟩ (fun v3 M3 L3 R3 h => ?_)
    exact mj_rt rfl rfl rfl ⟨_, _, _, _, rfl, rfl, h⟩
  · replace h := h.2 c
    refine mj_auto3 [] 80 rfl ?_
    refine mj_wIs h rfl rfl rfl rfl rfl rfl (fun v4 M4 L4 R4 h => ?_)
    refine mj_if rfl rfl (fun c => ?_) (fun c => ?_)
    · replace h := h.1 c
      refine mj_auto3 [] 80 rfl ?_
      refine fn_gR fm_s219 rfl rfl rfl ?_
      refine mj_auto3 [] 80 rfl ?_
      obtain ⟨k5, c, c2, h⟩ := h
      refine fn_ldk c c2 rfl fm_s220 rfl ?_
      exact mj_rt rfl rfl rfl ⟨_, _, _, _, rfl, rfl, h⟩
    · replace h := h.2 (Classical.not_not.mp c)
      refine mj_auto3 [] 80 rfl ?_
      refine mj_wIv h (fm_o fm_s219) rfl rfl rfl rfl rfl ⟨rfl, rfl⟩ (fun v6 M6 L6 R6 h => ?_)
      exact mj_rt rfl rfl rfl ⟨_, _, _, _, rfl, rfl, h⟩
set_option maxRecDepth 20000 in
theorem w168 {d : Nat} {a1 : Int32} {a2 : Int32} {a3 : Int32} {M : Nat → Nat → Int32} {ML : Nat → Nat → Int64} {R : Nat → Nat → Option Nat} {K : wK} (h : (∀ M1, M1 = fm_u M 219 5 (0 : Int32) → (wI d 137 [.ref 219, .int a1] M1 ML R (fun v2 M2 L2 R2 => ((v2 = 0 → (wI d 134 [.ref 219] M2 L2 R2 (fun v3 M3 L3 R3 => K v3 M3 L3 R3))) ∧ (¬ v2 = 0 → (wI d 132 [.int a2, .int (1 : Int32), .int (200 : Int32)] M2 L2 R2 (fun v4 M4 L4 R4 => ((v4 = 0 → (wI d 134 [.ref 219] M4 L4 R4 (fun v5 M5 L5 R5 => K v5 M5 L5 R5))) ∧ (¬ v4 = 0 → (wI d 132 [.int a3, .int (0 : Int32), .int (4 : Int32)] M4 L4 R4 (fun v6 M6 L6 R6 => ((¬ v6 = 0 → ((a3 = 0 → (wI d 142 [.ref 220, .int a1, .int a2] M6 L6 R6 (fun v7 M7 L7 R7 => K v7 M7 L7 R7))) ∧ (a3 = 1 → (wI d 143 [.ref 220, .int a1, .int a2] M6 L6 R6 (fun v8 M8 L8 R8 => K v8 M8 L8 R8))) ∧ (a3 = 2 → (wI d 144 [.ref 220, .int a1, .int a2] M6 L6 R6 (fun v9 M9 L9 R9 => K v9 M9 L9 R9))) ∧ (a3 = 3 → (wI d 146 [.ref 220, .int a1, .int a2] M6 L6 R6 (fun v10 M10 L10 R10 => K v10 M10 L10 R10))) ∧ (¬ a3 = 0 → ¬ a3 = 1 → ¬ a3 = 2 → ¬ a3 = 3 → (wI d 145 [.ref 220, .int a1, .int a2] M6 L6 R6 (fun v11 M11 L11 R11 => K v11 M11 L11 R11))))) ∧ (v6 = 0 → (wI d 134 [.ref 219] M6 L6 R6 (fun v12 M12 L12 R12 => K v12 M12 L12 R12)))))))))))))))) : wI (d + 1) 168 [.ref 219, .int a1, .int a2, .int a3] M ML R K := by
  refine mj_of _ _ rfl rfl rfl ?_
  refine mj_auto4 [] 80 rfl ?_
  refine fn_pI fm_s219 rfl rfl rfl rfl ?_
  replace h := h _ rfl
  refine mj_auto4 [] 80 rfl ?_
  refine mj_wIv h (fm_o fm_s219) rfl rfl rfl rfl rfl ⟨rfl, rfl⟩ (fun v2 M2 L2 R2 h => ?_)
  refine mj_if rfl rfl (fun c => ?_) (fun c => ?_)
  · replace h := h.1 c
    refine mj_auto4 [] 80 rfl ?_
    refine mj_wIv h (fm_o fm_s219) rfl rfl rfl rfl rfl ⟨rfl, rfl⟩ (fun v3 M3 L3 R3 h => ?_)
    exact mj_rt rfl rfl rfl ⟨_, _, _, _, rfl, rfl, h⟩
  · replace h := h.2 c
    refine mj_auto4 [] 80 rfl ?_
    refine mj_wIs h rfl rfl rfl rfl rfl rfl (fun v4 M4 L4 R4 h => ?_)
    refine mj_if rfl rfl (fun c => ?_) (fun c => ?_)
    · replace h := h.1 c
      refine mj_auto4 [] 80 rfl ?_
      refine mj_wIv h (fm_o fm_s219) rfl rfl rfl rfl rfl ⟨rfl, rfl⟩ (fun v5 M5 L5 R5 h => ?_)
      exact mj_rt rfl rfl rfl ⟨_, _, _, _, rfl, rfl, h⟩
    · replace h := h.2 c
      refine mj_auto4 [] 80 rfl ?_
      refine mj_wIs h rfl rfl rfl rfl rfl rfl (fun v6 M6 L6 R6 h => ?_)
      refine mj_if rfl rfl (fun c => ?_) (fun c => ?_)
      · replace h := h.1 c
        refine mj_auto4 [] 80 rfl ?_
        by_cases e0 : a3 = 0
        · replace h := h.1 e0
          refine mj_swi 68 rfl rfl (by rw [e0]; decide +kernel) ?_
          refine mj_auto4 [] 80 rfl ?_
          refine fn_gR fm_s219 rfl rfl rfl ?_
          refine mj_auto4 [] 80 rfl ?_
          refine mj_wIs h rfl rfl rfl rfl rfl rfl (fun v7 M7 L7 R7 h => ?_)
          exact mj_rt rfl rfl rfl ⟨_, _, _, _, rfl, rfl, h⟩
        by_cases e1 : a3 = 1
        · replace h := h.2.1 e1
          refine mj_swi 78 rfl rfl (by rw [e1]; decide +kernel) ?_
          refine mj_auto4 [] 80 rfl ?_
          refine fn_gR fm_s219 rfl rfl rfl ?_
          refine mj_auto4 [] 80 rfl ?_
          refine mj_wIs h rfl rfl rfl rfl rfl rfl (fun v8 M8 L8 R8 h => ?_)
          exact mj_rt rfl rfl rfl ⟨_, _, _, _, rfl, rfl, h⟩
        by_cases e2 : a3 = 2
        · replace h := h.2.2.1 e2
          refine mj_swi 88 rfl rfl (by rw [e2]; decide +kernel) ?_
          refine mj_auto4 [] 80 rfl ?_
          refine fn_gR fm_s219 rfl rfl rfl ?_
          refine mj_auto4 [] 80 rfl ?_
          refine mj_wIs h rfl rfl rfl rfl rfl rfl (fun v9 M9 L9 R9 h => ?_)
          exact mj_rt rfl rfl rfl ⟨_, _, _, _, rfl, rfl, h⟩
        by_cases e3 : a3 = 3
        · replace h := h.2.2.2.1 e3
          refine mj_swi 98 rfl rfl (by rw [e3]; decide +kernel) ?_
          refine mj_auto4 [] 80 rfl ?_
          refine fn_gR fm_s219 rfl rfl rfl ?_
          refine mj_auto4 [] 80 rfl ?_
          refine mj_wIs h rfl rfl rfl rfl rfl rfl (fun v10 M10 L10 R10 h => ?_)
          exact mj_rt rfl rfl rfl ⟨_, _, _, _, rfl, rfl, h⟩
        replace h := h.2.2.2.2 e0 e1 e2 e3
        refine mj_swi 108 rfl rfl (by show (39 : Int) + (if (a3).toInt < 0 ∨ 3 < (a3).toInt then 69 else _) = 108; rw [if_pos (sw_out3 e0 e1 e2 e3)]; rfl) ?_
        refine mj_auto4 [] 80 rfl ?_
        refine fn_gR fm_s219 rfl rfl rfl ?_
        refine mj_auto4 [] 80 rfl ?_
        refine mj_wIs h rfl rfl rfl rfl rfl rfl (fun v11 M11 L11 R11 h => ?_)
        exact mj_rt rfl rfl rfl ⟨_, _, _, _, rfl, rfl, h⟩
      · replace h := h.2 (Classical.not_not.mp c)
        refine mj_auto4 [] 80 rfl ?_
        refine mj_wIv h (fm_o fm_s219) rfl rfl rfl rfl rfl ⟨rfl, rfl⟩ (fun v12 M12 L12 R12 h => ?_)
        exact mj_rt rfl rfl rfl ⟨_, _, _, _, rfl, rfl, h⟩
def H169_46 (d : Nat) (x1 : Int32) (x2 : Int32) (x3 : Int32) (x4 : Int32) (x5 : Int32) (x6 : Int32) (x7 : Int32) (x8 : Int32) (M : Nat → Nat → Int32) (ML : Nat → Nat → Int64) (R : Nat → Nat → Option Nat) (K : wK) : Prop := mj_Rn d (some .int) kX11_sheet (wQ K) (fm_mk (M, ML, R)) 46 [some (.ref 219), some (.int x1), some (.int x2), some (.int x3), some (.int x4), some (.int x5), some (.int x6), some (.int x7), some (.int x8), none] []
set_option maxRecDepth 20000 in
theorem h169_46 {d : Nat} {x1 : Int32} {x2 : Int32} {x3 : Int32} {x4 : Int32} {x5 : Int32} {x6 : Int32} {x7 : Int32} {x8 : Int32} {M : Nat → Nat → Int32} {ML : Nat → Nat → Int64} {R : Nat → Nat → Option Nat} {K : wK} (h : (((8 : Int32) ≤ x8 → ((¬ x1 = (3 : Int32) → K x7 M ML R) ∧ (x1 = (3 : Int32) → K (-3 : Int32) M ML R))) ∧ (¬ (8 : Int32) ≤ x8 → (wI d 136 [.ref 220, .int x8] M ML R (fun v1 M1 L1 R1 => ((¬ v1 = 0 → ((¬ x1 = 0 → ((¬ x1 = (1 : Int32) → (((3 : Int32) ≤ x1 → (∃ k2, ((24 : Int32) + x8) = nI k2 ∧ k2 < 43 ∧ (∀ M2, M2 = fm_u M1 220 k2 (0 : Int32) → (∃ k3, ((24 : Int32) + x8) = nI k3 ∧ k3 < 43 ∧ H169_46 d x1 x2 x3 x4 (x5 + x4) (x6 + (1 : Int32)) (x7 + (M2 220 k3)) (x8 + (1 : Int32)) M2 L1 R1 K)))) ∧ (¬ (3 : Int32) ≤ x1 → ((x2 ≤ x6 → (∃ k4, ((24 : Int32) + x8) = nI k4 ∧ k4 < 43 ∧ (∀ M4, M4 = fm_u M1 220 k4 (0 : Int32) → (∃ k5, ((24 : Int32) + x8) = nI k5 ∧ k5 < 43 ∧ H169_46 d x1 x2 x3 x4 (x5 + x4) (x6 + (1 : Int32)) (x7 + (M4 220 k5)) (x8 + (1 : Int32)) M4 L1 R1 K)))) ∧ (¬ x2 ≤ x6 → ((x5 ≤ 0 → (∃ k6, ((24 : Int32) + x8) = nI k6 ∧ k6 < 43 ∧ (∀ M6, M6 = fm_u M1 220 k6 (0 : Int32) → (∃ k7, ((24 : Int32) + x8) = nI k7 ∧ k7 < 43 ∧ H169_46 d x1 x2 x3 x4 (x5 + x4) (x6 + (1 : Int32)) (x7 + (M6 220 k7)) (x8 + (1 : Int32)) M6 L1 R1 K)))) ∧ (¬ x5 ≤ 0 → (∃ k8, ((24 : Int32) + x8) = nI k8 ∧ k8 < 43 ∧ (∀ M8, M8 = fm_u M1 220 k8 (1 : Int32) → (∃ k9, ((24 : Int32) + x8) = nI k9 ∧ k9 < 43 ∧ H169_46 d x1 x2 x3 x4 (x5 + x4) (x6 + (1 : Int32)) (x7 + (M8 220 k9)) (x8 + (1 : Int32)) M8 L1 R1 K)))))))))) ∧ (x1 = (1 : Int32) → (((3 : Int32) ≤ x1 → (∃ k10, ((24 : Int32) + x8) = nI k10 ∧ k10 < 43 ∧ (∀ M10, M10 = fm_u M1 220 k10 (0 : Int32) → (∃ k11, ((24 : Int32) + x8) = nI k11 ∧ k11 < 43 ∧ H169_46 d x1 x2 x3 x4 (x5 + x4) (x6 + (1 : Int32)) (x7 + (M10 220 k11)) (x8 + (1 : Int32)) M10 L1 R1 K)))) ∧ (¬ (3 : Int32) ≤ x1 → ((x2 ≤ x6 → (∃ k12, ((24 : Int32) + x8) = nI k12 ∧ k12 < 43 ∧ (∀ M12, M12 = fm_u M1 220 k12 (0 : Int32) → (∃ k13, ((24 : Int32) + x8) = nI k13 ∧ k13 < 43 ∧ H169_46 d x1 x2 x3 x4 (x5 + x4) (x6 + (1 : Int32)) (x7 + (M12 220 k13)) (x8 + (1 : Int32)) M12 L1 R1 K)))) ∧ (¬ x2 ≤ x6 → ((((x5).toInt16.toInt32) ≤ 0 → (∃ k14, ((24 : Int32) + x8) = nI k14 ∧ k14 < 43 ∧ (∀ M14, M14 = fm_u M1 220 k14 (0 : Int32) → (∃ k15, ((24 : Int32) + x8) = nI k15 ∧ k15 < 43 ∧ H169_46 d x1 x2 x3 x4 (x5 + x4) (x6 + (1 : Int32)) (x7 + (M14 220 k15)) (x8 + (1 : Int32)) M14 L1 R1 K)))) ∧ (¬ ((x5).toInt16.toInt32) ≤ 0 → (∃ k16, ((24 : Int32) + x8) = nI k16 ∧ k16 < 43 ∧ (∀ M16, M16 = fm_u M1 220 k16 (1 : Int32) → (∃ k17, ((24 : Int32) + x8) = nI k17 ∧ k17 < 43 ∧ H169_46 d x1 x2 x3 x4 (x5 + x4) (x6 + (1 : Int32)) (x7 + (M16 220 k17)) (x8 + (1 : Int32)) M16 L1 R1 K)))))))))))) ∧ (x1 = 0 → (((3 : Int32) ≤ x1 → (∃ k18, ((24 : Int32) + x8) = nI k18 ∧ k18 < 43 ∧ (∀ M18, M18 = fm_u M1 220 k18 (0 : Int32) → (∃ k19, ((24 : Int32) + x8) = nI k19 ∧ k19 < 43 ∧ H169_46 d x1 x2 x3 x4 (x5 + x4) (x6 + (1 : Int32)) (x7 + (M18 220 k19)) (x8 + (1 : Int32)) M18 L1 R1 K)))) ∧ (¬ (3 : Int32) ≤ x1 → ((x2 ≤ x6 → (∃ k20, ((24 : Int32) + x8) = nI k20 ∧ k20 < 43 ∧ (∀ M20, M20 = fm_u M1 220 k20 (0 : Int32) → (∃ k21, ((24 : Int32) + x8) = nI k21 ∧ k21 < 43 ∧ H169_46 d x1 x2 x3 x4 (x5 + x4) (x6 + (1 : Int32)) (x7 + (M20 220 k21)) (x8 + (1 : Int32)) M20 L1 R1 K)))) ∧ (¬ x2 ≤ x6 → ((((x5).toInt8.toInt32) ≤ 0 → (∃ k22, ((24 : Int32) + x8) = nI k22 ∧ k22 < 43 ∧ (∀ M22, M22 = fm_u M1 220 k22 (0 : Int32) → (∃ k23, ((24 : Int32) + x8) = nI k23 ∧ k23 < 43 ∧ H169_46 d x1 x2 x3 x4 (x5 + x4) (x6 + (1 : Int32)) (x7 + (M22 220 k23)) (x8 + (1 : Int32)) M22 L1 R1 K)))) ∧ (¬ ((x5).toInt8.toInt32) ≤ 0 → (∃ k24, ((24 : Int32) + x8) = nI k24 ∧ k24 < 43 ∧ (∀ M24, M24 = fm_u M1 220 k24 (1 : Int32) → (∃ k25, ((24 : Int32) + x8) = nI k25 ∧ k25 < 43 ∧ H169_46 d x1 x2 x3 x4 (x5 + x4) (x6 + (1 : Int32)) (x7 + (M24 220 k25)) (x8 + (1 : Int32)) M24 L1 R1 K)))))))))))) ∧ (v1 = 0 → H169_46 d x1 x2 x3 x4 x5 x6 x7 (x8 + (1 : Int32)) M1 L1 R1 K))))))) : H169_46 d x1 x2 x3 x4 x5 x6 x7 x8 M ML R K := by
  unfold H169_46
  refine mj_begin10 [46] 80 rfl ?_
  refine mj_if rfl rfl (fun c => ?_) (fun c => ?_)
  · replace h := h.1 c
    refine mj_auto10 [46] 80 rfl ?_
    refine mj_if rfl rfl (fun c => ?_) (fun c => ?_)
    · replace h := h.1 c
      refine mj_auto10 [46] 80 rfl ?_
      exact mj_rt rfl rfl rfl ⟨_, _, _, _, rfl, rfl, h⟩
    · replace h := h.2 (Classical.not_not.mp c)
      refine mj_auto10 [46] 80 rfl ?_
      exact mj_rt rfl rfl rfl ⟨_, _, _, _, rfl, rfl, h⟩
  · replace h := h.2 c
    refine mj_auto10 [46] 80 rfl ?_
    refine fn_gR fm_s219 rfl rfl rfl ?_
    refine mj_auto10 [46] 80 rfl ?_
    refine mj_wIs h rfl rfl rfl rfl rfl rfl (fun v1 M1 L1 R1 h => ?_)
    refine mj_if rfl rfl (fun c => ?_) (fun c => ?_)
    · replace h := h.1 c
      refine mj_auto10 [46] 80 rfl ?_
      refine mj_if rfl rfl (fun c => ?_) (fun c => ?_)
      · replace h := h.1 c
        refine mj_auto10 [46] 80 rfl ?_
        refine mj_if rfl rfl (fun c => ?_) (fun c => ?_)
        · replace h := h.1 c
          refine mj_auto10 [46] 80 rfl ?_
          refine fn_gR fm_s219 rfl rfl rfl ?_
          refine mj_auto10 [46] 80 rfl ?_
          refine mj_if rfl rfl (fun c => ?_) (fun c => ?_)
          · replace h := h.1 c
            refine mj_auto10 [46] 80 rfl ?_
            obtain ⟨k2, c, c2, h⟩ := h
            refine fn_stk c c2 rfl fm_s220 rfl ?_
            replace h := h _ rfl
            refine mj_auto10 [46] 80 rfl ?_
            refine fn_gR fm_s219 rfl rfl rfl ?_
            refine mj_auto10 [46] 80 rfl ?_
            obtain ⟨k3, c, c2, h⟩ := h
            refine fn_ldk c c2 rfl fm_s220 rfl ?_
            refine mj_auto10 [46] 5 rfl ?_
            refine mj_auto10 [46] 2 rfl ?_
            exact mj_less h (leS (leS (leS (leS (leS (leS (leS (leS (leS (leN le0))))))))))
          · replace h := h.2 c
            refine mj_auto10 [46] 80 rfl ?_
            refine mj_if rfl rfl (fun c => ?_) (fun c => ?_)
            · replace h := h.1 c
              refine mj_auto10 [46] 80 rfl ?_
              obtain ⟨k4, c, c2, h⟩ := h
              refine fn_stk c c2 rfl fm_s220 rfl ?_
              replace h := h _ rfl
              refine mj_auto10 [46] 80 rfl ?_
              refine fn_gR fm_s219 rfl rfl rfl ?_
              refine mj_auto10 [46] 80 rfl ?_
              obtain ⟨k5, c, c2, h⟩ := h
              refine fn_ldk c c2 rfl fm_s220 rfl ?_
              refine mj_auto10 [46] 5 rfl ?_
              refine mj_auto10 [46] 2 rfl ?_
              exact mj_less h (leS (leS (leS (leS (leS (leS (leS (leS (leS (leN le0))))))))))
            · replace h := h.2 c
              refine mj_auto10 [46] 80 rfl ?_
              refine mj_if rfl rfl (fun c => ?_) (fun c => ?_)
              · replace h := h.1 c
                refine mj_auto10 [46] 80 rfl ?_
                obtain ⟨k6, c, c2, h⟩ := h
                refine fn_stk c c2 rfl fm_s220 rfl ?_
                replace h := h _ rfl
                refine mj_auto10 [46] 80 rfl ?_
                refine fn_gR fm_s219 rfl rfl rfl ?_
                refine mj_auto10 [46] 80 rfl ?_
                obtain ⟨k7, c, c2, h⟩ := h
                refine fn_ldk c c2 rfl fm_s220 rfl ?_
                refine mj_auto10 [46] 5 rfl ?_
                refine mj_auto10 [46] 2 rfl ?_
                exact mj_less h (leS (leS (leS (leS (leS (leS (leS (leS (leS (leN le0))))))))))
              · replace h := h.2 c
                refine mj_auto10 [46] 80 rfl ?_
                obtain ⟨k8, c, c2, h⟩ := h
                refine fn_stk c c2 rfl fm_s220 rfl ?_
                replace h := h _ rfl
                refine mj_auto10 [46] 80 rfl ?_
                refine fn_gR fm_s219 rfl rfl rfl ?_
                refine mj_auto10 [46] 80 rfl ?_
                obtain ⟨k9, c, c2, h⟩ := h
                refine fn_ldk c c2 rfl fm_s220 rfl ?_
                refine mj_auto10 [46] 5 rfl ?_
                refine mj_auto10 [46] 2 rfl ?_
                exact mj_less h (leS (leS (leS (leS (leS (leS (leS (leS (leS (leN le0))))))))))
        · replace h := h.2 (Classical.not_not.mp c)
          refine mj_auto10 [46] 80 rfl ?_
          refine fn_gR fm_s219 rfl rfl rfl ?_
          refine mj_auto10 [46] 80 rfl ?_
          refine mj_if rfl rfl (fun c => ?_) (fun c => ?_)
          · replace h := h.1 c
            refine mj_auto10 [46] 80 rfl ?_
            obtain ⟨k10, c, c2, h⟩ := h
            refine fn_stk c c2 rfl fm_s220 rfl ?_
            replace h := h _ rfl
            refine mj_auto10 [46] 80 rfl ?_
            refine fn_gR fm_s219 rfl rfl rfl ?_
            refine mj_auto10 [46] 80 rfl ?_
            obtain ⟨k11, c, c2, h⟩ := h
            refine fn_ldk c c2 rfl fm_s220 rfl ?_
            refine mj_auto10 [46] 5 rfl ?_
            refine mj_auto10 [46] 2 rfl ?_
            exact mj_less h (leS (leS (leS (leS (leS (leS (leS (leS (leS (leN le0))))))))))
          · replace h := h.2 c
            refine mj_auto10 [46] 80 rfl ?_
            refine mj_if rfl rfl (fun c => ?_) (fun c => ?_)
            · replace h := h.1 c
              refine mj_auto10 [46] 80 rfl ?_
              obtain ⟨k12, c, c2, h⟩ := h
              refine fn_stk c c2 rfl fm_s220 rfl ?_
              replace h := h _ rfl
              refine mj_auto10 [46] 80 rfl ?_
              refine fn_gR fm_s219 rfl rfl rfl ?_
              refine mj_auto10 [46] 80 rfl ?_
              obtain ⟨k13, c, c2, h⟩ := h
              refine fn_ldk c c2 rfl fm_s220 rfl ?_
              refine mj_auto10 [46] 5 rfl ?_
              refine mj_auto10 [46] 2 rfl ?_
              exact mj_less h (leS (leS (leS (leS (leS (leS (leS (leS (leS (leN le0))))))))))
            · replace h := h.2 c
              refine mj_auto10 [46] 80 rfl ?_
              refine mj_if rfl rfl (fun c => ?_) (fun c => ?_)
              · replace h := h.1 c
                refine mj_auto10 [46] 80 rfl ?_
                obtain ⟨k14, c, c2, h⟩ := h
                refine fn_stk c c2 rfl fm_s220 rfl ?_
                replace h := h _ rfl
                refine mj_auto10 [46] 80 rfl ?_
                refine fn_gR fm_s219 rfl rfl rfl ?_
                refine mj_auto10 [46] 80 rfl ?_
                obtain ⟨k15, c, c2, h⟩ := h
                refine fn_ldk c c2 rfl fm_s220 rfl ?_
                refine mj_auto10 [46] 5 rfl ?_
                refine mj_auto10 [46] 2 rfl ?_
                exact mj_less h (leS (leS (leS (leS (leS (leS (leS (leS (leS (leN le0))))))))))
              · replace h := h.2 c
                refine mj_auto10 [46] 80 rfl ?_
                obtain ⟨k16, c, c2, h⟩ := h
                refine fn_stk c c2 rfl fm_s220 rfl ?_
                replace h := h _ rfl
                refine mj_auto10 [46] 80 rfl ?_
                refine fn_gR fm_s219 rfl rfl rfl ?_
                refine mj_auto10 [46] 80 rfl ?_
                obtain ⟨k17, c, c2, h⟩ := h
                refine fn_ldk c c2 rfl fm_s220 rfl ?_
                refine mj_auto10 [46] 5 rfl ?_
                refine mj_auto10 [46] 2 rfl ?_
                exact mj_less h (leS (leS (leS (leS (leS (leS (leS (leS (leS (leN le0))))))))))
      · replace h := h.2 (Classical.not_not.mp c)
        refine mj_auto10 [46] 80 rfl ?_
        refine fn_gR fm_s219 rfl rfl rfl ?_
        refine mj_auto10 [46] 80 rfl ?_
        refine mj_if rfl rfl (fun c => ?_) (fun c => ?_)
        · replace h := h.1 c
          refine mj_auto10 [46] 80 rfl ?_
          obtain ⟨k18, c, c2, h⟩ := h
          refine fn_stk c c2 rfl fm_s220 rfl ?_
          replace h := h _ rfl
          refine mj_auto10 [46] 80 rfl ?_
          refine fn_gR fm_s219 rfl rfl rfl ?_
          refine mj_auto10 [46] 80 rfl ?_
          obtain ⟨k19, c, c2, h⟩ := h
          refine fn_ldk c c2 rfl fm_s220 rfl ?_
          refine mj_auto10 [46] 5 rfl ?_
          refine mj_auto10 [46] 2 rfl ?_
          exact mj_less h (leS (leS (leS (leS (leS (leS (leS (leS (leS (leN le0))))))))))
        · replace h := h.2 c
          refine mj_auto10 [46] 80 rfl ?_
          refine mj_if rfl rfl (fun c => ?_) (fun c => ?_)
          · replace h := h.1 c
            refine mj_auto10 [46] 80 rfl ?_
            obtain ⟨k20, c, c2, h⟩ := h
            refine fn_stk c c2 rfl fm_s220 rfl ?_
            replace h := h _ rfl
            refine mj_auto10 [46] 80 rfl ?_
            refine fn_gR fm_s219 rfl rfl rfl ?_
            refine mj_auto10 [46] 80 rfl ?_
            obtain ⟨k21, c, c2, h⟩ := h
            refine fn_ldk c c2 rfl fm_s220 rfl ?_
            refine mj_auto10 [46] 5 rfl ?_
            refine mj_auto10 [46] 2 rfl ?_
            exact mj_less h (leS (leS (leS (leS (leS (leS (leS (leS (leS (leN le0))))))))))
          · replace h := h.2 c
            refine mj_auto10 [46] 80 rfl ?_
            refine mj_if rfl rfl (fun c => ?_) (fun c => ?_)
            · replace h := h.1 c
              refine mj_auto10 [46] 80 rfl ?_
              obtain ⟨k22, c, c2, h⟩ := h
              refine fn_stk c c2 rfl fm_s220 rfl ?_
              replace h := h _ rfl
              refine mj_auto10 [46] 80 rfl ?_
              refine fn_gR fm_s219 rfl rfl rfl ?_
              refine mj_auto10 [46] 80 rfl ?_
              obtain ⟨k23, c, c2, h⟩ := h
              refine fn_ldk c c2 rfl fm_s220 rfl ?_
              refine mj_auto10 [46] 5 rfl ?_
              refine mj_auto10 [46] 2 rfl ?_
              exact mj_less h (leS (leS (leS (leS (leS (leS (leS (leS (leS (leN le0))))))))))
            · replace h := h.2 c
              refine mj_auto10 [46] 80 rfl ?_
              obtain ⟨k24, c, c2, h⟩ := h
              refine fn_stk c c2 rfl fm_s220 rfl ?_
              replace h := h _ rfl
              refine mj_auto10 [46] 80 rfl ?_
              refine fn_gR fm_s219 rfl rfl rfl ?_
              refine mj_auto10 [46] 80 rfl ?_
              obtain ⟨k25, c, c2, h⟩ := h
              refine fn_ldk c c2 rfl fm_s220 rfl ?_
              refine mj_auto10 [46] 5 rfl ?_
              refine mj_auto10 [46] 2 rfl ?_
              exact mj_less h (leS (leS (leS (leS (leS (leS (leS (leS (leS (leN le0))))))))))
    · replace h := h.2 (Classical.not_not.mp c)
      refine mj_auto10 [46] 80 rfl ?_
      exact h
set_option maxRecDepth 20000 in
theorem w169 {d : Nat} {a1 : Int32} {a2 : Int32} {a3 : Int32} {a4 : Int32} {M : Nat → Nat → Int32} {ML : Nat → Nat → Int64} {R : Nat → Nat → Option Nat} {K : wK} (h : (∀ M1, M1 = fm_u M 219 5 (0 : Int32) → (wI d 132 [.int a1, .int (0 : Int32), .int (3 : Int32)] M1 ML R (fun v2 M2 L2 R2 => ((v2 = 0 → K (-1 : Int32) M2 L2 R2) ∧ (¬ v2 = 0 → ((a2 ≤ (8 : Int32) → (((3 : Int32) ≤ a1 → H169_46 d a1 a2 a3 a4 a3 (0 : Int32) (0 : Int32) (0 : Int32) M2 L2 R2 K) ∧ (¬ (3 : Int32) ≤ a1 → ((0 ≤ a2 → H169_46 d a1 a2 a3 a4 a3 (0 : Int32) (0 : Int32) (0 : Int32) M2 L2 R2 K) ∧ (¬ 0 ≤ a2 → K (-2 : Int32) M2 L2 R2))))) ∧ (¬ a2 ≤ (8 : Int32) → K (-1 : Int32) M2 L2 R2)))))))) : wI (d + 1) 169 [.ref 219, .int a1, .int a2, .int a3, .int a4] M ML R K := by
  refine mj_of _ _ rfl rfl rfl ?_
  refine mj_auto10 [46] 80 rfl ?_
  refine fn_pI fm_s219 rfl rfl rfl rfl ?_
  replace h := h _ rfl
  refine mj_auto10 [46] 80 rfl ?_
  refine mj_wIs h rfl rfl rfl rfl rfl rfl (fun v2 M2 L2 R2 h => ?_)
  refine mj_if rfl rfl (fun c => ?_) (fun c => ?_)
  · replace h := h.1 c
    refine mj_auto10 [46] 80 rfl ?_
    exact mj_rt rfl rfl rfl ⟨_, _, _, _, rfl, rfl, h⟩
  · replace h := h.2 c
    refine mj_auto10 [46] 80 rfl ?_
    refine mj_if rfl rfl (fun c => ?_) (fun c => ?_)
    · replace h := h.1 c
      refine mj_auto10 [46] 80 rfl ?_
      refine mj_if rfl rfl (fun c => ?_) (fun c => ?_)
      · replace h := h.1 c
        refine mj_auto10 [46] 80 rfl ?_
        exact h
      · replace h := h.2 c
        refine mj_auto10 [46] 80 rfl ?_
        refine mj_if rfl rfl (fun c => ?_) (fun c => ?_)
        · replace h := h.1 c
          refine mj_auto10 [46] 80 rfl ?_
          exact h
        · replace h := h.2 c
          refine mj_auto10 [46] 80 rfl ?_
          exact mj_rt rfl rfl rfl ⟨_, _, _, _, rfl, rfl, h⟩
    · replace h := h.2 c
      refine mj_auto10 [46] 80 rfl ?_
      exact mj_rt rfl rfl rfl ⟨_, _, _, _, rfl, rfl, h⟩
set_option maxRecDepth 20000 in
theorem w173 {d : Nat} {M : Nat → Nat → Int32} {ML : Nat → Nat → Int64} {R : Nat → Nat → Option Nat} {K : wK} (h : (∀ M1, M1 = fm_u M 219 5 (0 : Int32) → (wV d 171 [.ref 219, .ref 220] M1 ML R (fun M2 L2 R2 => (wI d 172 [.ref 219, .ref 220, .int (-1 : Int32)] M2 L2 R2 (fun v3 M3 L3 R3 => (∀ M4, M4 = fm_u M3 219 4 (0 : Int32) → (wI d 236 [.int (M4 219 23)] M4 L3 R3 (fun v5 M5 L5 R5 => (wV d 135 [.ref 219, .long ((v5).toInt64)] M5 L5 R5 (fun M6 L6 R6 => (wV d 135 [.ref 219, .long (((M6 219 22)).toInt64)] M6 L6 R6 (fun M7 L7 R7 => K v3 M7 L7 R7))))))))))))) : wI (d + 1) 173 [.ref 219] M ML R K := by
  refine mj_of _ _ rfl rfl rfl ?_
  refine mj_auto2 [] 80 rfl ?_
  refine fn_pI fm_s219 rfl rfl rfl rfl ?_
  replace h := h _ rfl
  refine mj_auto2 [] 80 rfl ?_
  refine fn_gR fm_s219 rfl rfl rfl ?_
  refine mj_wVv h (fm_o fm_s219) rfl rfl rfl rfl rfl ⟨rfl, rfl⟩ (fun M2 L2 R2 h => ?_)
  refine mj_auto2 [] 80 rfl ?_
  refine fn_gR fm_s219 rfl rfl rfl ?_
  refine mj_auto2 [] 80 rfl ?_
  refine mj_wIv h (fm_o fm_s219) rfl rfl rfl rfl rfl ⟨rfl, rfl⟩ (fun v3 M3 L3 R3 h => ?_)
  refine mj_auto2 [] 80 rfl ?_
  refine fn_pI fm_s219 rfl rfl rfl rfl ?_
  replace h := h _ rfl
  refine mj_auto2 [] 80 rfl ?_
  refine fn_gI fm_s219 rfl rfl rfl ?_
  refine mj_wIs h rfl rfl rfl rfl rfl rfl (fun v5 M5 L5 R5 h => ?_)
  refine mj_auto2 [] 80 rfl ?_
  refine mj_wVv h (fm_o fm_s219) rfl rfl rfl rfl rfl ⟨rfl, rfl⟩ (fun M6 L6 R6 h => ?_)
  refine mj_auto2 [] 80 rfl ?_
  refine fn_gI fm_s219 rfl rfl rfl ?_
  refine mj_auto2 [] 80 rfl ?_
  refine mj_wVv h (fm_o fm_s219) rfl rfl rfl rfl rfl ⟨rfl, rfl⟩ (fun M7 L7 R7 h => ?_)
  refine mj_auto2 [] 80 rfl ?_
  exact mj_rt rfl rfl rfl ⟨_, _, _, _, rfl, rfl, h⟩
def H174_10 (d : Nat) (p : Nat) (x2 : Int32) (x3 : Int32) (x4 : Int32) (M : Nat → Nat → Int32) (ML : Nat → Nat → Int64) (R : Nat → Nat → Option Nat) (K : wK) : Prop := mj_Rn d (some .int) kX11_goSlots (wQ K) (fm_mk (M, ML, R)) 10 [some (.ref 219), some (.ref p), some (.int x2), some (.int x3), some (.int x4), none] []
set_option maxRecDepth 20000 in
theorem h174_10 {d : Nat} {p : Nat} (hp : fm_sh p = .inl (0, 43)) {x2 : Int32} {x3 : Int32} {x4 : Int32} {M : Nat → Nat → Int32} {ML : Nat → Nat → Int64} {R : Nat → Nat → Option Nat} {K : wK} (h : ((x2 ≤ x4 → K x3 M ML R) ∧ (¬ x2 ≤ x4 → (wI d 172 [.ref 219, .ref p, .int (-1 : Int32)] M ML R (fun v1 M1 L1 R1 => (wI d 236 [.int v1] M1 L1 R1 (fun v2 M2 L2 R2 => (((M2 p 40) ≤ v2 → (∀ M3, M3 = fm_u M2 219 24 ((M2 219 24) + (0 : Int32)) → H174_10 d p x2 (x3 + v2) (x4 + (1 : Int32)) M3 L2 R2 K)) ∧ (¬ (M2 p 40) ≤ v2 → (∀ M4, M4 = fm_u M2 219 24 ((M2 219 24) + (1 : Int32)) → H174_10 d p x2 (x3 + v2) (x4 + (1 : Int32)) M4 L2 R2 K)))))))))) : H174_10 d p x2 x3 x4 M ML R K := by
  unfold H174_10
  refine mj_begin6 [10] 80 rfl ?_
  refine mj_if rfl rfl (fun c => ?_) (fun c => ?_)
  · replace h := h.1 c
    refine mj_auto6 [10] 80 rfl ?_
    exact mj_rt rfl rfl rfl ⟨_, _, _, _, rfl, rfl, h⟩
  · replace h := h.2 c
    refine mj_auto6 [10] 80 rfl ?_
    refine mj_wIv h (fm_o fm_s219) rfl rfl rfl rfl rfl ⟨rfl, rfl⟩ (fun v1 M1 L1 R1 h => ?_)
    refine mj_wIs h rfl rfl rfl rfl rfl rfl (fun v2 M2 L2 R2 h => ?_)
    refine mj_auto6 [10] 80 rfl ?_
    refine fn_gI fm_s219 rfl rfl rfl ?_
    refine mj_auto6 [10] 80 rfl ?_
    refine fn_ldk (k := 40) rfl (by decide) rfl hp rfl ?_
    refine mj_if rfl rfl (fun c => ?_) (fun c => ?_)
    · replace h := h.1 c
      refine mj_auto6 [10] 80 rfl ?_
      refine fn_pI fm_s219 rfl rfl rfl rfl ?_
      replace h := h _ rfl
      refine mj_auto6 [10] 80 rfl ?_
      exact mj_less h (leS (leS (leS (leS (leS (leN le0))))))
    · replace h := h.2 c
      refine mj_auto6 [10] 80 rfl ?_
      refine fn_pI fm_s219 rfl rfl rfl rfl ?_
      replace h := h _ rfl
      refine mj_auto6 [10] 80 rfl ?_
      exact mj_less h (leS (leS (leS (leS (leS (leN le0))))))
set_option maxRecDepth 20000 in
theorem w174 {d : Nat} {p : Nat} (hp : fm_sh p = .inl (0, 43)) {a2 : Int32} {M : Nat → Nat → Int32} {ML : Nat → Nat → Int64} {R : Nat → Nat → Option Nat} {K : wK} (h : (∀ M1, M1 = fm_u M 219 24 (0 : Int32) → H174_10 d p a2 (0 : Int32) (0 : Int32) M1 ML R K)) : wI (d + 1) 174 [.ref 219, .ref p, .int a2] M ML R K := by
  refine mj_of _ _ rfl rfl rfl ?_
  refine mj_auto6 [10] 80 rfl ?_
  refine fn_pI fm_s219 rfl rfl rfl rfl ?_
  replace h := h _ rfl
  refine mj_auto6 [10] 80 rfl ?_
  exact h
set_option maxRecDepth 20000 in
theorem w175 {d : Nat} {a1 : Int32} {M : Nat → Nat → Int32} {ML : Nat → Nat → Int64} {R : Nat → Nat → Option Nat} {K : wK} (h : (∀ M1, M1 = fm_u M 219 5 (0 : Int32) → (wI d 132 [.int a1, .int (0 : Int32), .int (60 : Int32)] M1 ML R (fun v2 M2 L2 R2 => ((¬ v2 = 0 → (wV d 171 [.ref 219, .ref 220] M2 L2 R2 (fun M3 L3 R3 => (wI d 174 [.ref 219, .ref 220, .int a1] M3 L3 R3 (fun v4 M4 L4 R4 => (∀ M5, M5 = fm_u M4 219 4 (0 : Int32) → (wV d 135 [.ref 219, .long ((((M5 220 42) - (M3 220 42))).toInt64)] M5 L4 R4 (fun M6 L6 R6 => (wV d 135 [.ref 219, .long (((M6 219 24)).toInt64)] M6 L6 R6 (fun M7 L7 R7 => K v4 M7 L7 R7)))))))))) ∧ (v2 = 0 → K (-1 : Int32) M2 L2 R2)))))) : wI (d + 1) 175 [.ref 219, .int a1] M ML R K := by
  refine mj_of _ _ rfl rfl rfl ?_
  refine mj_auto4 [] 80 rfl ?_
  refine fn_pI fm_s219 rfl rfl rfl rfl ?_
  replace h := h _ rfl
  refine mj_auto4 [] 80 rfl ?_
  refine mj_wIs h rfl rfl rfl rfl rfl rfl (fun v2 M2 L2 R2 h => ?_)
  refine mj_if rfl rfl (fun c => ?_) (fun c => ?_)
  · replace h := h.1 c
    refine mj_auto4 [] 80 rfl ?_
    refine fn_gR fm_s219 rfl rfl rfl ?_
    refine mj_wVv h (fm_o fm_s219) rfl rfl rfl rfl rfl ⟨rfl, rfl⟩ (fun M3 L3 R3 h => ?_)
    refine mj_auto4 [] 80 rfl ?_
    refine fn_gR fm_s219 rfl rfl rfl ?_
    refine mj_auto4 [] 80 rfl ?_
    refine fn_ldk (k := 42) rfl (by decide) rfl fm_s220 rfl ?_
    refine mj_auto4 [] 80 rfl ?_
    refine fn_gR fm_s219 rfl rfl rfl ?_
    refine mj_auto4 [] 80 rfl ?_
    refine mj_wIv h (fm_o fm_s219) rfl rfl rfl rfl rfl ⟨rfl, rfl⟩ (fun v4 M4 L4 R4 h => ?_)
    refine mj_auto4 [] 80 rfl ?_
    refine fn_pI fm_s219 rfl rfl rfl rfl ?_
    replace h := h _ rfl
    refine mj_auto4 [] 80 rfl ?_
    refine fn_gR fm_s219 rfl rfl rfl ?_
    refine mj_auto4 [] 80 rfl ?_
    refine fn_ldk (k := 42) rfl (by decide) rfl fm_s220 rfl ?_
    refine mj_auto4 [] 80 rfl ?_
    refine mj_wVv h (fm_o fm_s219) rfl rfl rfl rfl rfl ⟨rfl, rfl⟩ (fun M6 L6 R6 h => ?_)
    refine mj_auto4 [] 80 rfl ?_
    refine fn_gI fm_s219 rfl rfl rfl ?_
    refine mj_auto4 [] 80 rfl ?_
    refine mj_wVv h (fm_o fm_s219) rfl rfl rfl rfl rfl ⟨rfl, rfl⟩ (fun M7 L7 R7 h => ?_)
    refine mj_auto4 [] 80 rfl ?_
    exact mj_rt rfl rfl rfl ⟨_, _, _, _, rfl, rfl, h⟩
  · replace h := h.2 (Classical.not_not.mp c)
    refine mj_auto4 [] 80 rfl ?_
    exact mj_rt rfl rfl rfl ⟨_, _, _, _, rfl, rfl, h⟩
set_option maxRecDepth 20000 in
theorem w176 {d : Nat} {a1 : Int32} {M : Nat → Nat → Int32} {ML : Nat → Nat → Int64} {R : Nat → Nat → Option Nat} {K : wK} (h : (wI d 132 [.int a1, .int (1 : Int32), .int (4 : Int32)] M ML R (fun v1 M1 L1 R1 => ((¬ v1 = 0 → ((¬ (M1 220 40) = a1 → (wV d 141 [.ref 219, .ref 220] M1 L1 R1 (fun M2 L2 R2 => (((lg_cmp (L2 219 9) (((a1).toInt64) * (L2 219 10))) ≤ 0 → K (0 : Int32) M2 L2 R2) ∧ (¬ (lg_cmp (L2 219 9) (((a1).toInt64) * (L2 219 10))) ≤ 0 → K (-3 : Int32) M2 L2 R2))))) ∧ ((M1 220 40) = a1 → K (-2 : Int32) M1 L1 R1))) ∧ (v1 = 0 → K (-1 : Int32) M1 L1 R1))))) : wI (d + 1) 176 [.ref 219, .int a1] M ML R K := by
  refine mj_of _ _ rfl rfl rfl ?_
  refine mj_auto2 [] 80 rfl ?_
  refine mj_wIs h rfl rfl rfl rfl rfl rfl (fun v1 M1 L1 R1 h => ?_)
  refine mj_if rfl rfl (fun c => ?_) (fun c => ?_)
  · replace h := h.1 c
    refine mj_auto2 [] 80 rfl ?_
    refine fn_gR fm_s219 rfl rfl rfl ?_
    refine mj_auto2 [] 80 rfl ?_
    refine fn_ldk (k := 40) rfl (by decide) rfl fm_s220 rfl ?_
    refine mj_auto2 [] 80 rfl ?_
    refine mj_if rfl rfl (fun c => ?_) (fun c => ?_)
    · replace h := h.1 c
      refine mj_auto2 [] 80 rfl ?_
      refine fn_gR fm_s219 rfl rfl rfl ?_
      refine mj_wVv h (fm_o fm_s219) rfl rfl rfl rfl rfl ⟨rfl, rfl⟩ (fun M2 L2 R2 h => ?_)
      refine mj_auto2 [] 80 rfl ?_
      refine fn_gL fm_s219 rfl rfl rfl ?_
      refine mj_auto2 [] 80 rfl ?_
      refine fn_gL fm_s219 rfl rfl rfl ?_
      refine mj_auto2 [] 80 rfl ?_
      refine mj_if rfl rfl (fun c => ?_) (fun c => ?_)
      · replace h := h.1 c
        refine mj_auto2 [] 80 rfl ?_
        exact mj_rt rfl rfl rfl ⟨_, _, _, _, rfl, rfl, h⟩
      · replace h := h.2 c
        refine mj_auto2 [] 80 rfl ?_
        exact mj_rt rfl rfl rfl ⟨_, _, _, _, rfl, rfl, h⟩
    · replace h := h.2 (Classical.not_not.mp c)
      refine mj_auto2 [] 80 rfl ?_
      exact mj_rt rfl rfl rfl ⟨_, _, _, _, rfl, rfl, h⟩
  · replace h := h.2 (Classical.not_not.mp c)
    refine mj_auto2 [] 80 rfl ?_
    exact mj_rt rfl rfl rfl ⟨_, _, _, _, rfl, rfl, h⟩
set_option maxRecDepth 20000 in
theorem w177 {d : Nat} {a1 : Int32} {M : Nat → Nat → Int32} {ML : Nat → Nat → Int64} {R : Nat → Nat → Option Nat} {K : wK} (h : (∀ M1, M1 = fm_u M 219 5 (0 : Int32) → (wI d 176 [.ref 219, .int a1] M1 ML R (fun v2 M2 L2 R2 => ((0 ≤ v2 → (wV d 171 [.ref 219, .ref 220] M2 L2 R2 (fun M3 L3 R3 => (∀ M4, M4 = fm_u M3 220 40 a1 → K ((10 : Int32) + (M3 220 40)) M4 L3 R3)))) ∧ (¬ 0 ≤ v2 → K v2 M2 L2 R2)))))) : wI (d + 1) 177 [.ref 219, .int a1] M ML R K := by
  refine mj_of _ _ rfl rfl rfl ?_
  refine mj_auto4 [] 80 rfl ?_
  refine fn_pI fm_s219 rfl rfl rfl rfl ?_
  replace h := h _ rfl
  refine mj_auto4 [] 80 rfl ?_
  refine mj_wIv h (fm_o fm_s219) rfl rfl rfl rfl rfl ⟨rfl, rfl⟩ (fun v2 M2 L2 R2 h => ?_)
  refine mj_auto4 [] 80 rfl ?_
  refine mj_if rfl rfl (fun c => ?_) (fun c => ?_)
  · replace h := h.1 c
    refine mj_auto4 [] 80 rfl ?_
    refine fn_gR fm_s219 rfl rfl rfl ?_
    refine mj_wVv h (fm_o fm_s219) rfl rfl rfl rfl rfl ⟨rfl, rfl⟩ (fun M3 L3 R3 h => ?_)
    refine mj_auto4 [] 80 rfl ?_
    refine fn_gR fm_s219 rfl rfl rfl ?_
    refine mj_auto4 [] 80 rfl ?_
    refine fn_ldk (k := 40) rfl (by decide) rfl fm_s220 rfl ?_
    refine mj_auto4 [] 80 rfl ?_
    refine fn_gR fm_s219 rfl rfl rfl ?_
    refine mj_auto4 [] 80 rfl ?_
    refine fn_stk (k := 40) rfl (by decide) rfl fm_s220 rfl ?_
    replace h := h _ rfl
    refine mj_auto4 [] 80 rfl ?_
    exact mj_rt rfl rfl rfl ⟨_, _, _, _, rfl, rfl, h⟩
  · replace h := h.2 c
    refine mj_auto4 [] 80 rfl ?_
    exact mj_rt rfl rfl rfl ⟨_, _, _, _, rfl, rfl, h⟩
set_option maxRecDepth 20000 in
theorem w180 {d : Nat} {a1 : Int32} {M : Nat → Nat → Int32} {ML : Nat → Nat → Int64} {R : Nat → Nat → Option Nat} {K : wK} (h : (∀ M1, M1 = fm_u M 219 5 (0 : Int32) → (wI d 178 [.ref 220, .int a1] M1 ML R (fun v2 M2 L2 R2 => ((0 ≤ v2 → (wV d 171 [.ref 219, .ref 220] M2 L2 R2 (fun M3 L3 R3 => (wI d 179 [.ref 220, .int a1] M3 L3 R3 (fun v4 M4 L4 R4 => K v4 M4 L4 R4))))) ∧ (¬ 0 ≤ v2 → K v2 M2 L2 R2)))))) : wI (d + 1) 180 [.ref 219, .int a1] M ML R K := by
  refine mj_of _ _ rfl rfl rfl ?_
  refine mj_auto3 [] 80 rfl ?_
  refine fn_pI fm_s219 rfl rfl rfl rfl ?_
  replace h := h _ rfl
  refine mj_auto3 [] 80 rfl ?_
  refine fn_gR fm_s219 rfl rfl rfl ?_
  refine mj_auto3 [] 80 rfl ?_
  refine mj_wIs h rfl rfl rfl rfl rfl rfl (fun v2 M2 L2 R2 h => ?_)
  refine mj_auto3 [] 80 rfl ?_
  refine mj_if rfl rfl (fun c => ?_) (fun c => ?_)
  · replace h := h.1 c
    refine mj_auto3 [] 80 rfl ?_
    refine fn_gR fm_s219 rfl rfl rfl ?_
    refine mj_wVv h (fm_o fm_s219) rfl rfl rfl rfl rfl ⟨rfl, rfl⟩ (fun M3 L3 R3 h => ?_)
    refine mj_auto3 [] 80 rfl ?_
    refine fn_gR fm_s219 rfl rfl rfl ?_
    refine mj_auto3 [] 80 rfl ?_
    refine mj_wIs h rfl rfl rfl rfl rfl rfl (fun v4 M4 L4 R4 h => ?_)
    exact mj_rt rfl rfl rfl ⟨_, _, _, _, rfl, rfl, h⟩
  · replace h := h.2 c
    refine mj_auto3 [] 80 rfl ?_
    exact mj_rt rfl rfl rfl ⟨_, _, _, _, rfl, rfl, h⟩
