/-! a SLOT of the class's world -/
def sg_eq (v : Int32) (z : Int) : Prop := (v = 0 ↔ z = 0) ∧ (v ≤ 0 ↔ z ≤ 0)
theorem cmp_sg {x y : Nat} (hx : x < 2 ^ 31) (hy : y < 2 ^ 31) : sg_eq (jd_cmp (nI x) (nI y)) ((x : Int) - y) := by
  unfold sg_eq jd_cmp
  rcases Nat.lt_trichotomy x y with h | h | h
  · rw [if_neg (fun q => absurd ((nI_leI hy hx).mp q) (by omega))]
    exact ⟨⟨fun q => absurd q (by decide), fun q => by omega⟩, ⟨fun _ => by omega, fun _ => by decide⟩⟩
  · subst h
    rw [if_pos (Int32.le_refl _), if_neg (fun q => q rfl)]
    exact ⟨⟨fun _ => by omega, fun _ => rfl⟩, ⟨fun _ => by omega, fun _ => by decide⟩⟩
  · rw [if_pos ((nI_leI hy hx).mpr (by omega)), if_pos (fun q => absurd ((nI_eq hx hy).mp q) (by omega))]
    exact ⟨⟨fun q => absurd q (by decide), fun q => by omega⟩, ⟨fun q => absurd q (by decide), fun q => by omega⟩⟩
theorem wt_mul {g : gr} {B q : Nat} (h : gok g B) (hq : q < 8) (h0 : 0 < g q) : g_wt g q * g (8 + q) = 27720 * g q := by
  have h1 := h.p hq h0
  have hd : ∀ x, x < 13 → 1 ≤ x → 27720 / x * x = 27720 := by decide +kernel
  rw [g_wt, Nat.mul_assoc, hd _ (by have := h1.2.2.1; omega) (by have := h1.1; have := h1.2.1; omega), Nat.mul_comm]
theorem wt_lt {g : gr} {B p q : Nat} (h : gok g B) (hp : p < 8) (hq : q < 8) (p0 : 0 < g p) (q0 : 0 < g q) : g_wt g p < g_wt g q ↔ g p * g (8 + q) < g q * g (8 + p) := by
  have e1 := wt_mul h hp p0
  have e2 := wt_mul h hq q0
  have lp : 0 < g (8 + p) := (h.lo0 hp).mpr p0
  have lq : 0 < g (8 + q) := (h.lo0 hq).mpr q0
  have h1 : g_wt g p < g_wt g q ↔ g_wt g p * (g (8 + p) * g (8 + q)) < g_wt g q * (g (8 + p) * g (8 + q)) := (Nat.mul_lt_mul_right (Nat.mul_pos lp lq)).symm
  have h2 : g_wt g p * (g (8 + p) * g (8 + q)) = 27720 * (g p * g (8 + q)) := by rw [← Nat.mul_assoc, e1, Nat.mul_assoc]
  have h3 : g_wt g q * (g (8 + p) * g (8 + q)) = 27720 * (g q * g (8 + p)) := by rw [Nat.mul_comm (g (8 + p)), ← Nat.mul_assoc, e2, Nat.mul_assoc]
  rw [h1, h2, h3]
  exact Nat.mul_lt_mul_left (by decide)
theorem getD_lt (l : List Nat) (k : Nat) (h : k < l.length) : l.getD k 0 = l[k] := by simp [List.getD_eq_getElem?_getD, h]
section cgo
variable {M : Nat → Nat → Int32} {b t B : Nat} {g : gr} {ts : List Nat}
theorem c_lead (hc : cr M b g) (hg : gok g B) (hB : B < 2 ^ 22) {p q : Nat} (hp : p < 8) (hq : q < 8) (p0 : 0 < g p) (q0 : 0 < g q) {c : Nat} (hv : c = 98 ∨ c = 100 ∨ c = 103 ∨ c = 114 ∨ c = 119) : sg_eq (ti_lead M b (nI c) p q) (g_ld g c p q) := by
  obtain ⟨-, -, -, hc⟩ := hc
  obtain ⟨-, wp, -, -, cp⟩ := hc p hp
  obtain ⟨-, wq, -, -, cq⟩ := hc q hq
  obtain ⟨-, -, -, -, rp, dp, op, gp⟩ := cp p0
  obtain ⟨-, -, -, -, rq, dq, oq, gq⟩ := cq q0
  have np := g_nx_lt hg hB hp
  have nq := g_nx_lt hg hB hq
  have b1 := g_ov_lt g p (g_nx g p)
  have b2 := g_ov_lt g q (g_nx g q)
  have b3 := g_dl_lt hg hB hp np
  have b4 := g_dl_lt hg hB hq nq
  have b5 := g_rel_lt hg hB hp np
  have b6 := g_rel_lt hg hB hq nq
  have b7 := g_gp_lt hg hB hp np
  have b8 := g_gp_lt hg hB hq nq
  have b9 := hg.wt hp
  have b10 := hg.wt hq
  rcases hv with rfl | rfl | rfl | rfl | rfl
  · rw [ti_lead, if_pos (by decide), g_ld, if_pos rfl, op, oq]
    exact cmp_sg (by omega) (by omega)
  · rw [ti_lead, if_neg (by decide), if_pos (by decide), g_ld, if_neg (by decide), if_pos rfl, dp, dq]
    exact cmp_sg (by omega) (by omega)
  · rw [g_ld, if_neg (show ¬ (103 : Nat) = 98 by decide), if_neg (show ¬ (103 : Nat) = 100 by decide), if_pos (show (103 : Nat) = 103 from rfl), ti_lead, if_neg (show ¬ nI 103 = 98 by decide), if_neg (show ¬ nI 103 = 100 by decide), if_pos (show nI 103 = 103 by decide), op, oq, gp, gq]
    by_cases z1 : g_ov g p (g_nx g p) = 0
    · rw [if_pos z1, z1, if_pos (by decide)]
      exact ⟨by simp, by simp⟩
    · rw [if_neg z1, if_neg (nI_ne0 (by omega) (by omega))]
      by_cases z2 : g_ov g q (g_nx g q) = 0
      · rw [if_pos z2, z2, if_neg (by decide)]
        exact ⟨by simp, by simp⟩
      · rw [if_neg z2, if_pos (nI_ne0 (by omega) (by omega))]
        exact cmp_sg (by omega) (by omega)
  · rw [ti_lead, if_neg (by decide), if_neg (by decide), if_neg (by decide), if_pos (by decide), g_ld, if_neg (by decide), if_neg (by decide), if_neg (by decide), if_neg (by decide), rp, rq]
    exact cmp_sg (by omega) (by omega)
  · rw [ti_lead, if_neg (by decide), if_neg (by decide), if_neg (by decide), if_neg (by decide), if_pos (by decide), g_ld, if_neg (by decide), if_neg (by decide), if_neg (by decide), if_pos rfl, wp, wq]
    have h1 := cmp_sg (x := g_wt g p) (y := g_wt g q) (by omega) (by omega)
    have w1 := wt_lt hg hp hq p0 q0
    have w2 := wt_lt hg hq hp q0 p0
    refine ⟨h1.1.trans ?_, h1.2.trans ?_⟩
    · constructor <;> intro z <;> omega
    · constructor <;> intro z <;> omega
theorem c_ah (hc : cr M b g) (hg : gok g B) (hB : B < 2 ^ 22) (ht : tr M t ts) (hts : tsok ts) {p q : Nat} (hp : p < 8) (hq : q < 8) (p0 : 0 < g p) (q0 : 0 < g q) : ∀ n k, k + n = ts.length → ti_ah M b t p q n k = if g_ah g p q (ts.drop k) = true then 1 else 0 := by
  intro n
  induction n with
  | zero =>
    intro k hk
    rw [List.drop_eq_nil_of_le (by omega), ti_ah, g_ah]
    by_cases h : p < q
    · rw [if_neg (fun z => absurd ((nI_leI (by omega) (by omega)).mp z) (by omega)), if_pos (by simp [h])]
    · rw [if_pos ((nI_leI (by omega) (by omega)).mpr (by omega)), if_neg (by simp [h])]
  | succ n ih =>
    intro k hk
    have hkl : k < ts.length := by omega
    rw [List.drop_eq_getElem_cons hkl, ti_ah, g_ah, ht.2 k hkl, getD_lt ts k hkl]
    obtain ⟨s1, s2⟩ := c_lead hc hg hB hp hq p0 q0 (hts.2 _ (List.getElem_mem hkl))
    by_cases h : g_ld g ts[k] p q = 0
    · rw [if_pos (s1.mpr h), if_pos h, ih (k + 1) (by omega)]
    · rw [if_neg (fun z => h (s1.mp z)), if_neg h]
      by_cases h2 : g_ld g ts[k] p q ≤ 0
      · rw [if_pos (s2.mpr h2), if_neg (by simp; omega)]
      · rw [if_neg (fun z => h2 (s2.mp z)), if_pos (by simp; omega)]
theorem g_pk_some {w : Nat} : ∀ k j, g_pk g ts w k = some j → j < k ∧ w.testBit j = true := by
  intro k
  induction k with
  | zero => intro j h; cases h
  | succ k ih =>
    intro j h
    rw [g_pk] at h
    split at h
    next hb =>
      split at h
      · cases h; exact ⟨by omega, hb⟩
      next i hi =>
        have := ih i hi
        split at h
        · cases h; exact ⟨by omega, hb⟩
        · cases h; exact ⟨by omega, this.2⟩
    next => have := ih j h; exact ⟨by omega, this.2⟩
theorem g_pk_none {w : Nat} : ∀ k, g_pk g ts w k = none → ∀ j, j < k → w.testBit j = false := by
  intro k
  induction k with
  | zero => intro _ j h; omega
  | succ k ih =>
    intro h j hj
    rw [g_pk] at h
    split at h
    next hb =>
      split at h
      · cases h
      · split at h <;> cases h
    next hb =>
      by_cases e : j = k
      · subst e; simpa using hb
      · exact ih h j (by omega)
theorem c_pk (hc : cr M b g) (hg : gok g B) (hB : B < 2 ^ 22) (ht : tr M t ts) (hts : tsok ts) {w : Nat} (hw : w < 256) (hp : ∀ j, j < 8 → w.testBit j = true → 0 < g j) : ∀ k, k ≤ 8 → wd_fo M b t ts.length (nI w) k = g_pk g ts w k := by
  intro k
  induction k with
  | zero => intro _; rfl
  | succ k ih =>
    intro hk
    have ih := ih (by omega)
    rw [wd_fo, g_pk, bt_get w hw k (by omega), ih]
    by_cases h : w.testBit k = true
    · rw [if_pos h, if_pos h, if_neg (by decide)]
      cases hz : g_pk g ts w k with
      | none => rfl
      | some j =>
        have hj := g_pk_some k j hz
        dsimp only
        rw [c_ah hc hg hB ht hts (by omega) (by omega) (hp k (by omega) h) (hp j (by omega) hj.2) ts.length 0 (by omega), List.drop_zero]
        by_cases h2 : g_ah g k j ts = true
        · rw [if_pos h2, if_pos h2, if_neg (by decide)]
        · rw [if_neg h2, if_neg h2, if_pos rfl]
    · rw [if_neg h, if_neg h, if_pos rfl]
theorem g_or_mem : ∀ n w j, j ∈ g_or g ts n w → j < 8 ∧ w.testBit j = true := by
  intro n
  induction n with
  | zero => intro w j h; simp [g_or] at h
  | succ n ih =>
    intro w j h
    rw [g_or] at h
    split at h
    · cases h
    next i hi =>
      have h1 := g_pk_some 8 i hi
      rcases List.mem_cons.mp h with rfl | h
      · exact h1
      · have h2 := ih _ j h
        rw [Nat.testBit_and] at h2
        exact ⟨h2.1, by have := h2.2; simp at this; exact this.1⟩
theorem c_pick (hc : cr M b g) (hg : gok g B) (hB : B < 2 ^ 22) (ht : tr M t ts) (hts : tsok ts) : ∀ n w r, w < 256 → r < 256 → (∀ j, j < 8 → w.testBit j = true → 0 < g j) → wd_pick M b t ts.length n (nI w) (nI r) = nI (r ||| bl (g_or g ts n w)) := by
  intro n
  induction n with
  | zero => intro w r _ _ _; simp [wd_pick, g_or, bl]
  | succ n ih =>
    intro w r hw hr hp
    rw [wd_pick, g_or]
    by_cases h : w = 0
    · subst h
      have hz : g_pk g ts 0 8 = none := by
        cases hz : g_pk g ts 0 8 with
        | none => rfl
        | some j => have := (g_pk_some 8 j hz).2; simp at this
      rw [if_pos (by decide), hz]
      simp [bl]
    · rw [if_neg (nI_ne0 (by omega) (by omega)), c_pk hc hg hB ht hts hw hp 8 (by omega)]
      cases hz : g_pk g ts w 8 with
      | none => exact absurd ((bt_z hw).mpr (g_pk_none 8 hz)) h
      | some j =>
        have hj := g_pk_some 8 j hz
        dsimp only [ov]
        rw [bt_out w hw j hj.1, bt_or r hr j hj.1, ih _ _ (bt_al hw) (bt_lt hr (bt_o8 j hj.1)) (fun i hi hb => hp i hi (by rw [Nat.testBit_and] at hb; simp at hb; exact hb.1)), bl, Nat.or_assoc]
theorem c_there (hc : cr M b g) (hg : gok g B) {q : Nat} (hq : q < 8) : wd_there M b (nI q) = if 0 < g q then 1 else 0 := by
  rw [wd_there_nI hq, (hc.2.2.2 q hq).1]
  have h1 := hg.lo hq
  have h2 := hg.lo0 hq
  by_cases h : 0 < g q
  · rw [if_pos h, if_neg (nI_nle (h2.mpr h) (by omega))]
  · rw [if_neg h, show g (8 + q) = 0 by omega]
    rfl
theorem c_rdy (hc : cr M b g) (hg : gok g B) (hB : B < 2 ^ 22) {q : Nat} (hq : q < 8) : wd_rdy M b (nI q) = if g_rd g q = true then 1 else 0 := by
  rw [wd_rdy, c_there hc hg hq, nI_clamp (by omega), g_rd]
  by_cases h : 0 < g q
  · obtain ⟨-, -, c5, -, c7, -⟩ := (hc.2.2.2 q hq).2.2.2.2 h
    have h1 := hg.p hq h
    have h3 := h1.2.2.2.1
    have h4 := hg.2.2.1
    have h5 := g_rel_lt hg hB hq (g_nx_lt hg hB hq)
    rw [if_pos h, if_neg (by decide), c5, c7, hc.2.1]
    by_cases h2 : g (24 + q) = 1
    · rw [h2, if_pos (by decide), if_pos (by simp [h])]
    · rw [show g (24 + q) = 0 by omega, if_neg (by decide)]
      by_cases h6 : g_rel g q (g_nx g q) ≤ g 41
      · rw [if_neg (fun z => absurd ((nI_ltI (by omega) (by omega)).mp z) (by omega)), if_pos (by simp [h, h6])]
      · rw [if_pos ((nI_ltI (by omega) (by omega)).mpr (by omega)), if_neg (by simp [h6])]
  · rw [if_neg h, if_pos rfl, if_neg (by simp [h])]
theorem c_rset (hc : cr M b g) (hg : gok g B) (hB : B < 2 ^ 22) (held : Int32) : ∀ k, k ≤ 8 → wd_rset M b held k = nI (bm (fun q => decide (¬ nI q = held) && g_rd g q) k) := by
  intro k
  induction k with
  | zero => intro _; rfl
  | succ k ih =>
    intro hk
    have ih := ih (by omega)
    rw [wd_rset, ih, c_rdy hc hg hB (by omega), bm]
    by_cases h1 : nI k = held
    · rw [if_pos h1, if_neg (by simp [h1])]
    · rw [if_neg h1]
      by_cases h2 : g_rd g k = true
      · rw [if_pos h2, if_neg (by decide), if_pos (by simp [h1, h2]), bt_or _ (bm_lt _ k (by omega)) k (by omega)]
      · rw [if_neg h2, if_pos rfl, if_neg (by simp [h2])]
theorem g_w_p {held : Int32} {j : Nat} (hj : j < 8) (h : (g_w g held).testBit j = true) : 0 < g j := by
  rw [g_w, bm_8 _ hj, g_rd] at h
  simp at h
  exact h.2.1
theorem g_w_lt (g : gr) (held : Int32) : g_w g held < 256 := bm_lt _ 8 (by omega)
theorem g_rn_lt (g : gr) (ts : List Nat) (held : Int32) : g_rn g ts held < 256 := bl_lt _ (fun j hj => (g_or_mem _ _ j hj).1)
theorem g_rn_p {held : Int32} {j : Nat} (hj : j < 8) (h : (g_rn g ts held).testBit j = true) : 0 < g j := by
  rw [g_rn, bl_tb] at h
  exact g_w_p hj (g_or_mem _ _ j (by simpa using h)).2
/-- what waits and who is run -/
theorem c_who (hc : cr M b g) (hg : gok g B) (hB : B < 2 ^ 22) (ht : tr M t ts) (hts : tsok ts) (held : Int32) : wd_rset M b held 8 = nI (g_w g held) ∧ wd_pick M b t ts.length (g 40) (wd_rset M b held 8) 0 = nI (g_rn g ts held) := by
  have h1 := c_rset hc hg hB held 8 (by omega)
  refine ⟨h1, ?_⟩
  rw [h1]
  have h2 := c_pick hc hg hB ht hts (g 40) (g_w g held) 0 (g_w_lt g held) (by decide) (fun j hj h => g_w_p hj h)
  rw [Nat.zero_or] at h2
  exact h2
end cgo
