/-! TIES told as a text -/
def tok (tx : List Nat) (k : Nat) : Bool := ltr (tx.getD k 0) && !(tx.take k).contains (tx.getD k 0)
/-- none, or where the first sign is that can't stand -/
def q_tp (tx : List Nat) : Nat → Nat → Option Nat
  | 0, _ => none
  | n + 1, k => if tok tx k = true then q_tp tx n (k + 1) else some k
def tmm (l : List Nat) : Nat := (if 98 ∈ l then 1 else 0) + (if 100 ∈ l then 1 else 0) + (if 103 ∈ l then 1 else 0) + (if 114 ∈ l then 1 else 0) + (if 119 ∈ l then 1 else 0)
theorem tmm_5 (l : List Nat) : tmm l ≤ 5 := by
  unfold tmm
  repeat' split
  all_goals omega
theorem ltr_c {c : Nat} (h : ltr c = true) : c = 98 ∨ c = 100 ∨ c = 103 ∨ c = 114 ∨ c = 119 := by
  simp only [ltr, Bool.or_eq_true, decide_eq_true_eq] at h
  omega
theorem tmm_s {l : List Nat} {c : Nat} (h : ltr c = true) (hc : ¬ c ∈ l) : tmm (l ++ [c]) = tmm l + 1 := by
  rcases ltr_c h with rfl | rfl | rfl | rfl | rfl <;> simp [tmm, hc] <;> omega
theorem tok_5 {tx : List Nat} : ∀ k, k ≤ tx.length → (∀ j, j < k → tok tx j = true) → k ≤ tmm (tx.take k) := by
  intro k
  induction k with
  | zero => intro _ _; exact Nat.zero_le _
  | succ k ih =>
    intro hk h
    have h1 := ih (by omega) (fun j hj => h j (by omega))
    have h2 := h k (by omega)
    simp only [tok, Bool.and_eq_true, Bool.not_eq_true', List.contains_eq_mem, decide_eq_false_iff_not] at h2
    rw [List.take_succ_eq_append_getElem (by omega), ← getD_lt tx k (by omega), tmm_s h2.1 h2.2]
    omega
theorem q_tp_none {tx : List Nat} : ∀ n k, k + n = tx.length → q_tp tx n k = none → ∀ j, k ≤ j → j < tx.length → tok tx j = true := by
  intro n
  induction n with
  | zero => intro k hk _ j h1 h2; omega
  | succ n ih =>
    intro k hk h j h1 h2
    rw [q_tp] at h
    split at h
    next hb =>
      by_cases e : j = k
      · subst e; exact hb
      · exact ih (k + 1) (by omega) h j (by omega) h2
    next => cases h
theorem q_tp_some {tx : List Nat} : ∀ n k f, k + n = tx.length → q_tp tx n k = some f → k ≤ f ∧ f < tx.length := by
  intro n
  induction n with
  | zero => intro k f _ h; cases h
  | succ n ih =>
    intro k f hk h
    rw [q_tp] at h
    split at h
    · have := ih (k + 1) f (by omega) h; omega
    · cases h; omega
theorem ts_ok {tx : List Nat} (h : q_tp tx tx.length 0 = none) : tsok tx := by
  have h1 := q_tp_none tx.length 0 (by omega) h
  refine ⟨?_, fun c hc => ?_⟩
  · have h2 := tok_5 (tx := tx) tx.length (by omega) (fun j hj => h1 j (by omega) hj)
    have := tmm_5 (tx.take tx.length)
    omega
  · obtain ⟨j, hj, e⟩ := List.mem_iff_getElem.mp hc
    have h2 := h1 j (by omega) hj
    simp only [tok, Bool.and_eq_true] at h2
    rw [getD_lt tx j hj, e] at h2
    exact ltr_c h2.1
def tpr (tx : List Nat) : Int32 := match q_tp tx tx.length 0 with
  | none => -1
  | some f => nI f
section ties
variable {d B b r : Nat} {g g' u : gr} {ts tx tx' : List Nat} {rw rw' : List Int64} {un un' : List gr} {kp kp' : Nat → Option gr} {he sa : List (Nat × Nat)} {M0 M M1 : Nat → Nat → Int32} {L0 ML L1 : Nat → Nat → Int64} {R0 R R1 : Nat → Nat → Option Nat}
theorem val_l : ∀ c, c < 256 → ti_val (nI c) = ltr c := by decide +kernel
theorem dup_l {f : Nat → Int32} {l : List Nat} {c : Nat} (hc : c < 256) (hl : ∀ x ∈ l, x < 256) : ∀ n k, k + n = l.length → (∀ j, j < l.length → f j = nI (l.getD j 0)) → ti_dup f (nI c) n k = (l.drop k).contains c := by
  intro n
  induction n with
  | zero => intro k hk _; rw [List.drop_eq_nil_of_le (by omega)]; rfl
  | succ n ih =>
    intro k hk hf
    have hk2 : k < l.length := by omega
    have hlk := hl _ (List.getElem_mem hk2)
    rw [ti_dup, hf k hk2, getD_lt l k hk2, ih (k + 1) (by omega) hf, List.drop_eq_getElem_cons hk2, List.contains_cons]
    by_cases e : l[k] = c
    · rw [if_neg (fun z => z (by rw [e])), e]; simp
    · rw [if_pos (fun z => e ((nI_eq (by omega) (by omega)).mp z))]
      have : (c == l[k]) = false := by simp; exact fun y => e y.symm
      rw [this, Bool.false_or]
theorem can_l {k : Nat} (hx : ∀ c ∈ tx, c < 256) (hk : k < tx.length) (hj : ∀ j, j < k → tok tx j = true) (h43 : ∀ j, j < k → M 43 j = nI (tx.getD j 0)) : ti_can M 42 k (nI (tx.getD k 0)) = tok tx k := by
  have hc : tx.getD k 0 < 256 := by rw [getD_lt tx k hk]; exact hx _ (List.getElem_mem hk)
  have hl : (tx.take k).length = k := by rw [List.length_take]; omega
  have hd := dup_l (f := M 43) (l := tx.take k) hc (fun x y => hx x (List.mem_of_mem_take y)) k 0 (by rw [hl]; omega) (fun j h => by rw [hl] at h; rw [tk_get h]; exact h43 j h)
  rw [ti_can, val_l _ hc, show (42 : Nat) + 1 = 43 from rfl, hd, List.drop_zero, tok]
  by_cases z : (ltr (tx.getD k 0) && !(tx.take k).contains (tx.getD k 0)) = true
  · have h5 : k + 1 ≤ 5 := by
      have h6 := tok_5 (tx := tx) (k + 1) (by omega) (fun j y => by
        by_cases e : j = k
        · subst e; exact z
        · exact hj j (by omega))
      have := tmm_5 (tx.take (k + 1))
      omega
    rw [z, decide_eq_true (show k < 5 by omega)]
    rfl
  · rw [Bool.eq_false_iff.mpr z]
    rfl
theorem c_rt (hx : ∀ c ∈ tx, c < 256) : ∀ n k, k + n = tx.length → ∀ {M : Nat → Nat → Int32}, (∀ j, j < tx.length → M 39 j = nI (tx.getD j 0)) → M 42 1 = nI k → (∀ j, j < k → M 43 j = nI (tx.getD j 0)) → (∀ j, j < k → tok tx j = true) → ∃ M1, sc_rt 42 n k k M = ((match q_tp tx n k with | none => -1 | some f => nI f), M1) ∧ fr (fun a _ => a = 42 ∨ a = 43) M M1 ∧ (q_tp tx n k = none → tr M1 42 tx) := by
  intro n
  induction n with
  | zero =>
    intro k hk M h39 h42 h43 hj
    exact ⟨M, rfl, fr.rfl, fun _ => ⟨by rw [h42]; congr 1, fun j h => h43 j (by omega)⟩⟩
  | succ n ih =>
    intro k hk M h39 h42 h43 hj
    have hcan := can_l (M := M) hx (show k < tx.length by omega) hj h43
    rw [sc_rt, h39 k (by omega), hcan, q_tp]
    by_cases z : tok tx k = true
    · rw [if_pos z, if_pos z, ti_addM, hcan, if_pos z]
      have f : fr (fun a _ => a = 42 ∨ a = 43) M (fm_u (fm_u M (42 + 1) k (nI (tx.getD k 0))) 42 1 (nI (k + 1))) := fr_u2 (fr_u (Or.inr rfl)) (Or.inl rfl)
      obtain ⟨M1, e1, f1, t1⟩ := ih (k + 1) (by omega) (M := fm_u (fm_u M (42 + 1) k (nI (tx.getD k 0))) 42 1 (nI (k + 1))) (fun j h => by rw [f 39 j (by omega)]; exact h39 j h) fm_u_at (fun j h => by
        rw [fm_u_off (by decide)]
        by_cases e : j = k
        · subst e; exact fm_u_at
        · rw [show (43 : Nat) = 42 + 1 from rfl, fm_u_ix e]; exact h43 j (by omega)) (fun j h => by
        by_cases e : j = k
        · subst e; exact z
        · exact hj j (by omega))
      exact ⟨M1, e1, f.tr f1, t1⟩
    · rw [if_neg z, if_neg z]
      exact ⟨M, rfl, fr.rfl, fun y => by cases y⟩
theorem C_readTies {K : wK} (hd : 2 ≤ d) (hx : IX M tx) (hK : ∀ M1, fr (fun a _ => a = 42 ∨ a = 43) M M1 → (q_tp tx tx.length 0 = none → tr M1 42 tx) → K (tpr tx) M1 ML R) : wI d 24 [.ref 38, .ref 42] M ML R K := by
  obtain ⟨x1, x2, x3, x4⟩ := hx
  have t := t_readTies fm_T42 (by decide) (M, ML, R) tx.length x1 x3
  have f0 : fr (fun a _ => a = 42 ∨ a = 43) M (fm_u M 42 1 0) := fr_u (Or.inl rfl)
  obtain ⟨M1, e1, f1, t1⟩ := c_rt x2 tx.length 0 (by omega) (M := fm_u M 42 1 0) (fun j h => by rw [f0 39 j (by omega)]; exact x4 j h) fm_u_at (fun j h => absurd h (by omega)) (fun j h => absurd h (by omega))
  dsimp only at t
  rw [e1] at t
  exact wI_of t hd (hK M1 (f0.tr f1) t1)
/-- TIES alone have changed -/
theorem IC.t {ts' : List Nat} (h : IC g un kp tx ts rw he sa M ML R) (f : fr (fun a _ => a = 40 ∨ a = 41) M M1) (x : tr M1 40 ts') : IC g un kp tx ts' rw he sa M1 ML R := by
  obtain ⟨h1, h2, h3, h4, h5, h6, h7, h8, h9⟩ := h
  exact ⟨h1, cr_fr h2 (fun a i y1 y2 _ => f a i (by omega)), IP_fr h3 (fun a i y => f a i (by omega)), IX_fr h4 (fun a i y => f a i (by omega)), x, IW_fr h6 (fun i => f _ i (by omega)) (fun _ => rfl), IH_fr h7 (fun a i y => f a i (by omega)), IS_fr h8 (fun a i y => f a i (by omega)), IZ_fr h9 (fun a i y => f a i (by omega))⟩
theorem IX_0 (h : M 38 1 = 0) : IX M [] := ⟨by decide, fun c hc => absurd hc (by simp), by rw [h]; rfl, fun k hk => absurd hk (by simp)⟩
theorem C_xclear {K : wKv} (hd : 1 ≤ d) (h : IC g un kp tx ts rw he sa M ML R) (hK : ∀ M1, IC g un kp [] ts rw he sa M1 ML R → fr (fun a i => a = 38 ∧ i = 1) M M1 → K M1 ML R) : wV d 21 [.ref 38] M ML R K := by
  have f : fr (fun a i => a = 38 ∧ i = 1) M (fm_u M 38 1 0) := fr_u ⟨rfl, rfl⟩
  exact wV_of (t_sclear (M, ML, R)) hd (hK _ (h.x (f.mono (fun a i z => by omega)) (IX_0 fm_u_at)) f)
def q_tiA (tx : List Nat) : Int32 := match q_tp tx tx.length 0 with
  | none => nI tx.length
  | some f => -1 - nI f
def q_tits (ts tx : List Nat) : List Nat := match q_tp tx tx.length 0 with
  | none => tx
  | some _ => ts
theorem C_ties (hd : 2 ≤ d) (h : IC g un kp tx ts rw he sa M ML R) : wI (d + 1) 77 [.ref 0] M ML R (CK (q_tiA tx) g un kp [] (q_tits ts tx) rw he sa M ML R) := by
  refine w77 (C_readTies hd h.2.2.2.1 (fun M1 f1 t1 => ?_))
  have h1 : IC g un kp tx ts rw he sa M1 ML R := h.w0 (f1.mono (fun a i z => by omega)) (fun i => f1 _ i (by omega)) (cr_fr h.2.1 (fun a i y1 y2 _ => f1 a i (by omega))) (IP_fr h.p (fun a i y => f1 a i (by omega)))
  refine C_xclear (by omega) h1 (fun M2 h2 f2 => ?_)
  have hx := h.xl
  unfold tpr q_tiA q_tits
  cases e : q_tp tx tx.length 0 with
  | none =>
    refine ⟨fun _ => ?_, fun y => absurd rfl y⟩
    have t2 : tr M2 42 tx := tr_fr (t1 e) (fun a i y => f2 a i (by omega))
    have h5 := (ts_ok e).1
    refine wV_of (t_tcopy fm_T40 fm_T42 (by decide) (M2, ML, R)) (by omega) ?_
    dsimp only
    have f3 : fr (fun a _ => a = 40 ∨ a = 41) M2 (ti_copy M2 40 42) := fr_u2 (fr_row (fun i => Or.inr rfl)) (Or.inl rfl)
    have t3 : tr (ti_copy M2 40 42) 40 tx := by
      refine ⟨by rw [ti_copy, fm_u_at]; exact t2.1, fun k hk => ?_⟩
      rw [ti_copy, fm_u_off (by decide), fm_row_row, va_cpy, if_pos (by omega), Nat.zero_add, Nat.sub_zero]
      exact t2.2 k hk
    rw [t3.1]
    exact ⟨rfl, h2.t f3 t3, ((f1.mono (fun a i z => by omega)).tr (f2.mono (fun a i z => by omega))).tr (f3.mono (fun a i z => by omega)), fr.rfl, rfl⟩
  | some f =>
    have hf := q_tp_some _ _ _ (by omega) e
    refine ⟨fun y => absurd (show nI f = -1 from y) (nI_nm1 (by omega)), fun _ => ?_⟩
    exact ⟨rfl, h2, (f1.mono (fun a i z => by omega)).tr (f2.mono (fun a i z => by omega)), fr.rfl, rfl⟩
/-! the reference -/
def tpn (tx : List Nat) : Nat := match q_tp tx tx.length 0 with
  | none => tx.length
  | some f => f
theorem R_isTie {K : wK} (hd : 1 ≤ d) {c : Nat} (hc : c < 256) (hK : K (if ltr c = true then 1 else 0) M ML R) : wI d 164 [.int (by8 c)] M ML R K := by
  obtain ⟨d, rfl⟩ : ∃ e, d = e + 1 := ⟨d - 1, by omega⟩
  obtain ⟨e1, e2, e3, e4, e5⟩ := by8_l c hc
  refine w164 ⟨fun z => ?_, fun z1 => ⟨fun z => ?_, fun z2 => ⟨fun z => ?_, fun z3 => ⟨fun z => ?_, fun z4 => ⟨fun z5 => ?_, fun z => ?_⟩⟩⟩⟩⟩
  · rw [if_pos (by simp [ltr, e2.mp z])] at hK; exact hK
  · rw [if_pos (by simp [ltr, e1.mp z])] at hK; exact hK
  · rw [if_pos (by simp [ltr, e3.mp z])] at hK; exact hK
  · rw [if_pos (by simp [ltr, e5.mp z])] at hK; exact hK
  · rw [if_neg (by simp only [ltr, Bool.or_eq_true, decide_eq_true_eq]; rintro ((((y | y) | y) | y) | y); exact z2 (e1.mpr y); exact z1 (e2.mpr y); exact z3 (e3.mpr y); exact z5 (e4.mpr y); exact z4 (e5.mpr y))] at hK; exact hK
  · rw [if_pos (by simp [ltr, e4.mp z])] at hK; exact hK
theorem R_right1 {K : wK} (hd : 1 ≤ d) (hl : tx.length ≤ 80) (hx : ∀ c ∈ tx, c < 256) (h : ∀ j, j < tx.length → M 221 j = by8 (tx.getD j 0)) {k : Nat} (hk : k < tx.length) (hy : (tx.take k).contains (tx.getD k 0) = false → H165_2 d (nI tx.length) (nI (k + 1)) M ML R K) (hn : (tx.take k).contains (tx.getD k 0) = true → K (nI k) M ML R) : ∀ n j, j + n = k → (∀ i, i < j → ¬ tx.getD i 0 = tx.getD k 0) → H165_23 d (nI tx.length) (nI k) (nI j) M ML R K := by
  have hxk : ∀ j, j < tx.length → tx.getD j 0 < 256 := fun j hj => by rw [getD_lt tx j hj]; exact hx _ (List.getElem_mem hj)
  intro n
  induction n with
  | zero =>
    intro j hj hi
    refine h165_23 ⟨fun _ => ?_, fun z => absurd ((nI_leI (by omega) (by omega)).mpr (by omega)) z⟩
    rw [nI_1]
    refine hy ?_
    rw [List.contains_eq_mem, decide_eq_false_iff_not]
    intro hm
    obtain ⟨i, h1, e⟩ := List.mem_iff_getElem.mp hm
    rw [List.length_take] at h1
    rw [List.getElem_take] at e
    exact hi i (by omega) (by rw [getD_lt tx i (by omega)]; exact e)
  | succ n ih =>
    intro j hj hi
    refine h165_23 ⟨fun z => absurd ((nI_leI (by omega) (by omega)).mp z) (by omega), fun _ => ⟨j, rfl, by omega, k, rfl, by omega, ?_⟩⟩
    rw [h j (by omega), h k hk, nI_1]
    have he := by8_eq (hxk j (by omega)) (hxk k hk)
    refine ⟨fun z => ih (j + 1) (by omega) (fun i y => ?_), fun z => hn ?_⟩
    · by_cases e : i = j
      · subst e; exact fun w => z (he.mpr w)
      · exact hi i (by omega)
    · rw [List.contains_eq_mem, decide_eq_true_eq, ← he.mp z, getD_lt tx j (by omega)]
      exact List.mem_iff_getElem.mpr ⟨j, by rw [List.length_take]; omega, by rw [List.getElem_take]⟩
theorem R_right2 {K : wK} (hd : 1 ≤ d) (hl : tx.length ≤ 80) (hx : ∀ c ∈ tx, c < 256) (h : ∀ j, j < tx.length → M 221 j = by8 (tx.getD j 0)) (F : Nat) (hK : K (nI F) M ML R) : ∀ n k, k + n = tx.length → (match q_tp tx n k with | none => tx.length | some f => f) = F → H165_2 d (nI tx.length) (nI k) M ML R K := by
  intro n
  induction n with
  | zero =>
    intro k hk e
    have e : tx.length = F := e
    subst e
    exact h165_2 ⟨fun _ => hK, fun z => absurd ((nI_leI (by omega) (by omega)).mpr (by omega)) z⟩
  | succ n ih =>
    intro k hk e
    have hk2 : k < tx.length := by omega
    refine h165_2 ⟨fun z => absurd ((nI_leI (by omega) (by omega)).mp z) (by omega), fun _ => ⟨k, rfl, by omega, ?_⟩⟩
    rw [h k hk2]
    have hc : tx.getD k 0 < 256 := by rw [getD_lt tx k hk2]; exact hx _ (List.getElem_mem hk2)
    refine R_isTie hd hc ?_
    rw [q_tp, tok] at e
    by_cases z : ltr (tx.getD k 0) = true
    · rw [if_pos z]
      refine ⟨fun _ => ?_, fun y => absurd y (by decide)⟩
      refine R_right1 hd hl hx h hk2 (fun y => ?_) (fun y => ?_) k 0 (by omega) (fun i y => absurd y (by omega))
      · rw [if_pos (by rw [z, y]; rfl)] at e
        exact ih (k + 1) (by omega) e
      · rw [if_neg (by rw [y]; simp)] at e
        have e : k = F := e
        subst e
        exact hK
    · rw [if_neg z]
      rw [if_neg (by rw [Bool.eq_false_iff.mpr z]; simp)] at e
      have e : k = F := e
      subst e
      exact ⟨fun y => absurd rfl y, fun _ => hK⟩
theorem R_right {K : wK} (hd : 2 ≤ d) (hl : tx.length ≤ 80) (hx : ∀ c ∈ tx, c < 256) (h : ∀ j, j < tx.length → M 221 j = by8 (tx.getD j 0)) (hK : K (nI (tpn tx)) M ML R) : wI d 165 [.ref 219, .int (nI tx.length)] M ML R K := by
  obtain ⟨d, rfl⟩ : ∃ e, d = e + 1 := ⟨d - 1, by omega⟩
  exact w165 (R_right2 (by omega) hl hx h (tpn tx) hK tx.length 0 (by omega) rfl)
theorem nar_s : ∀ c, c < 128 → vp_nar .byte (by8 c) = nI c := by decide +kernel
theorem R_ties1 {K : wK} (hl : tx.length ≤ 5) (hx : ∀ c ∈ tx, c < 128) (h6 : R 219 6 = some 244) {x2 : Int32} (hK : ∀ M1, fr (fun a i => a = 244) M0 M1 → (∀ j, j < tx.length → M1 244 j = nI (tx.getD j 0)) → ∀ M2, M2 = fm_u M1 219 8 (nI tx.length) → K (nI tx.length) M2 ML R) (h : ∀ j, j < tx.length → M0 221 j = by8 (tx.getD j 0)) : ∀ n k, k + n = tx.length → ∀ {M : Nat → Nat → Int32}, fr (fun a i => a = 244) M0 M → (∀ j, j < k → M 244 j = nI (tx.getD j 0)) → H166_32 d (nI tx.length) x2 (nI k) M ML R K := by
  intro n
  induction n with
  | zero =>
    intro k hk M f hj
    exact h166_32 ⟨fun _ M1 e1 => hK M f (fun j y => hj j (by omega)) M1 e1, fun z => absurd ((nI_leI (by omega) (by omega)).mpr (by omega)) z⟩
  | succ n ih =>
    intro k hk M f hj
    have hk2 : k < tx.length := by omega
    have hc : tx.getD k 0 < 128 := by rw [getD_lt tx k hk2]; exact hx _ (List.getElem_mem hk2)
    refine h166_32 ⟨fun z => absurd ((nI_leI (by omega) (by omega)).mp z) (by omega), fun _ => ⟨h6, k, rfl, by omega, k, rfl, by omega, fun M3 e3 => ?_⟩⟩
    subst e3
    rw [nI_1]
    refine ih (k + 1) (by omega) (fr_u2 f rfl) (fun j y => ?_)
    by_cases e : j = k
    · subst e
      rw [fm_u_at, f 221 j (by omega), h j hk2, nar_s _ hc]
    · rw [fm_u_ix e]; exact hj j (by omega)
/-- TIES alone have changed -/
theorem IR.t {ts' : List Nat} (h : IR g un kp tx ts rw he sa M ML R) (f : fr (fun a i => (a = 219 ∧ i = 8) ∨ a = 244) M M1) (x : JT M1 R ts') : IR g un kp tx ts' rw he sa M1 ML R := by
  obtain ⟨h1, h2, h3, h4, h5, h6, h7⟩ := h
  exact ⟨rr_fr h1 (fun i => f _ i (by omega)), JP_fr h2 (fun a i y => f a i (by omega)), JX_fr h3 (fun a i y => f a i (by omega)), x, JW_fr h5 (f _ _ (by omega)) (fun _ => rfl), JH_fr h6 (fun a i y => f a i (by omega)), JS_fr h7 (fun a i y => f a i (by omega))⟩
theorem ltr_128 {c : Nat} (h : c = 98 ∨ c = 100 ∨ c = 103 ∨ c = 114 ∨ c = 119) : c < 128 := by omega
theorem R_ties (hd : 2 ≤ d) (hl : tx.length ≤ 80) (hx : ∀ c ∈ tx, c < 256) (h : IR g un kp tx ts rw he sa M ML R) : wI (d + 1) 166 [.ref 219] M ML R (RK (q_tiA tx) g un kp [] (q_tits ts tx) rw he sa M ML R) := by
  refine w166 (fun M1 e1 M2 e2 => ?_)
  subst e1
  have f2 : fr (fun a i => a = 219 ∧ (i = 2 ∨ i = 5)) M M2 := by subst e2; exact fr_u2 (fr_u (by omega)) (by omega)
  have e22 : M2 219 2 = 0 := by subst e2; exact fm_u_at
  have k2 : fm_u M 219 5 0 219 2 = nI tx.length := by rw [fm_u_ix (by decide)]; exact h.2.2.1.1
  have x2 : ∀ j, j < tx.length → M2 221 j = by8 (tx.getD j 0) := fun j hj => by rw [f2 221 j (by omega)]; exact h.2.2.1.2 j hj
  rw [k2]
  have h2 : IR g un kp [] ts rw he sa M2 ML R := h.x (f2.mono (fun a i z => by omega)) ⟨by rw [e22]; rfl, fun k hk => absurd hk (by simp)⟩
  refine R_right hd hl hx x2 ?_
  unfold tpn q_tiA q_tits
  cases e : q_tp tx tx.length 0 with
  | none =>
    refine ⟨fun _ => ?_, fun y => absurd (Int32.le_refl _) y⟩
    have hts := ts_ok e
    refine R_ties1 hts.1 (fun c hc => ltr_128 (hts.2 c hc)) h2.2.2.2.1.1 (fun M3 f3 j3 M4 e4 => ?_) x2 tx.length 0 (by omega) fr.rfl (fun j y => absurd y (by omega))
    subst e4
    have F : fr (fun a i => (a = 219 ∧ i = 8) ∨ a = 244) M2 (fm_u M3 219 8 (nI tx.length)) := fr_u2 (f3.mono (fun a i z => by omega)) (Or.inl ⟨rfl, rfl⟩)
    exact ⟨rfl, h2.t F ⟨h2.2.2.2.1.1, h2.2.2.2.1.2.1, fm_u_at, fun k hk => by rw [fm_u_off (by decide)]; exact j3 k hk⟩, (f2.mono (fun a i z => by omega)).tr (F.mono (fun a i z => by omega)), fr.rfl, fr.rfl⟩
  | some f =>
    have hf := q_tp_some _ _ _ (by omega) e
    dsimp only
    exact ⟨fun y => absurd ((nI_leI (by omega) (by omega)).mp y) (by omega), fun _ => ⟨rfl, h2, f2.mono (fun a i z => by omega), fr.rfl, fr.rfl⟩⟩
end ties
