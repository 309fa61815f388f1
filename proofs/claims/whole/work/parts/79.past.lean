/-! what can be undone, what is kept -/
def CK (A : Int32) (g : gr) (un : List gr) (kp : Nat → Option gr) (tx ts : List Nat) (rw : List Int64) (he sa : List (Nat × Nat)) (M : Nat → Nat → Int32) (ML : Nat → Nat → Int64) (R : Nat → Nat → Option Nat) : wK := fun v M1 L1 R1 => v = A ∧ IC g un kp tx ts rw he sa M1 L1 R1 ∧ fr (fun a _ => a < 219) M M1 ∧ fr (fun a _ => a < 219) ML L1 ∧ R1 = R
def RK (A : Int32) (g : gr) (un : List gr) (kp : Nat → Option gr) (tx ts : List Nat) (rw : List Int64) (he sa : List (Nat × Nat)) (M : Nat → Nat → Int32) (ML : Nat → Nat → Int64) (R : Nat → Nat → Option Nat) : wK := fun v M1 L1 R1 => v = A ∧ IR g un kp tx ts rw he sa M1 L1 R1 ∧ fr (fun a _ => 219 ≤ a ∧ a ≤ 245) M M1 ∧ fr (fun a _ => 219 ≤ a ∧ a ≤ 245) ML L1 ∧ fr (fun a _ => a = 219) R R1
abbrev CW (a i : Nat) : Prop := a ≤ 37 ∨ (a = 38 ∧ 2 ≤ i) ∨ a = 42 ∨ a = 43 ∨ a = 44 ∨ (52 ≤ a ∧ a ≤ 218)
abbrev RW (a i : Nat) : Prop := (a = 219 ∧ ¬ i = 2 ∧ ¬ i = 8 ∧ ¬ i = 36 ∧ ¬ i = 39) ∨ a = 220 ∨ (223 ≤ a ∧ a ≤ 235) ∨ (240 ≤ a ∧ a ≤ 243) ∨ a = 245
def push (un : List gr) (u : gr) : List gr := if un.length < 12 then un ++ [u] else un.drop 1 ++ [u]
theorem push_len {un : List gr} {u : gr} (h : un.length ≤ 12) : (push un u).length = min (un.length + 1) 12 := by
  unfold push
  split
  · simp; omega
  · simp; omega
theorem push_get {un : List gr} {u : gr} (h : un.length ≤ 12) {k : Nat} (hk : k < (push un u).length) : (push un u).getD k g0 = if k + 1 = (push un u).length then u else un.getD (if un.length < 12 then k else k + 1) g0 := by
  have hl := push_len (u := u) h
  unfold push at hk ⊢
  by_cases z : un.length < 12
  · rw [if_pos z] at hk ⊢
    rw [if_pos z]
    simp at hk
    by_cases e : k = un.length
    · subst e
      simp
    · have : k < un.length := by omega
      rw [if_neg (by simp; omega)]
      simp [List.getD_eq_getElem?_getD, List.getElem?_append_left this]
  · rw [if_neg z] at hk ⊢
    rw [if_neg z]
    simp at hk
    have e12 : un.length = 12 := by omega
    by_cases e : k = 11
    · subst e
      have : (un.drop 1).length = 11 := by simp; omega
      rw [if_pos (by simp; omega), List.getD_eq_getElem?_getD, List.getElem?_append_right (by omega), this]
      simp
    · have : k < (un.drop 1).length := by simp; omega
      rw [if_neg (by simp; omega), List.getD_eq_getElem?_getD, List.getElem?_append_left this, List.getElem?_drop, List.getD_eq_getElem?_getD, Nat.add_comm]
section past
variable {d B b : Nat} {g g' u : gr} {ts tx : List Nat} {rw rw' : List Int64} {un un' : List gr} {kp kp' : Nat → Option gr} {he sa : List (Nat × Nat)} {M0 M M1 : Nat → Nat → Int32} {L0 ML L1 : Nat → Nat → Int64} {R0 R R1 : Nat → Nat → Option Nat}
theorem IC.w (h : IC g un kp tx ts rw he sa M ML R) (f : fr CW M M1) (c : cr M1 1 g') (p : IP M1 un' kp') (w : IW M1 L1 rw') : IC g' un' kp' tx ts rw' he sa M1 L1 R := by
  obtain ⟨h1, h2, h3, h4, h5, h6, h7, h8, h9⟩ := h
  exact ⟨h1, c, p, IX_fr h4 (fun a i y => f a i (by omega)), tr_fr h5 (fun a i y => f a i (by omega)), w, IH_fr h7 (fun a i y => f a i (by omega)), IS_fr h8 (fun a i y => f a i (by omega)), IZ_fr h9 (fun a i y => f a i (by omega))⟩
theorem IR.w (h : IR g un kp tx ts rw he sa M ML R) (f : fr RW M M1) (c : rr (M1 220) g') (p : JP M1 un' kp') (w : JW M1 L1 rw') : IR g' un' kp' tx ts rw' he sa M1 L1 R := by
  obtain ⟨h1, h2, h3, h4, h5, h6, h7⟩ := h
  exact ⟨c, p, JX_fr h3 (fun a i y => f a i (by omega)), JT_fr h4 (fun a i y => f a i (by omega)) rfl rfl, w, JH_fr h6 (fun a i y => f a i (by omega)), JS_fr h7 (fun a i y => f a i (by omega))⟩
theorem copy_cr (hc : cr M b u) {o : Nat} : cr (wd_copy M o b) o u := by
  obtain ⟨h1, h2, h3, h4⟩ := hc
  refine ⟨?_, ?_, ?_, fun q hq => ?_⟩
  · rw [wd_copy_ix, if_neg (by decide), if_neg (by decide), if_pos rfl]; exact h1
  · rw [wd_copy_ix, if_neg (by decide), if_pos rfl]; exact h2
  · rw [wd_copy_ix, if_pos rfl]; exact h3
  · have h := h4 q hq
    unfold ct at h ⊢
    rw [wd_copy_row (by omega) hq, wd_copy_row (by omega) hq, wd_copy_row (by omega) hq, wd_copy_row (by omega) hq, wd_copy_row (by omega) hq, wd_copy_row (by omega) hq, wd_copy_row (by omega) hq, wd_copy_row (by omega) hq, wd_copy_row (by omega) hq, wd_copy_row (by omega) hq]
    exact h
theorem C_rem {K : wKv} (hd : 2 ≤ d) (hb : fm_W b) (hb2 : b + 10 < 34) (hR : pa_R R) (hp : IP M un kp) (hc : cr M b u) (hK : ∀ M1, IP M1 (push un u) kp → fr (fun a _ => a = 34 ∨ (65 ≤ a ∧ a ≤ 196)) M M1 → K M1 ML R) : wV d 11 [.ref 34, .ref b] M ML R K := by
  obtain ⟨⟨o, h1, h2, h3, h4, h5⟩, h6⟩ := hp
  have hm := Nat.mod_lt (o + un.length) (show 0 < 12 by decide)
  have t := t_remember hb hb2 M ML R hR o un.length h1 h2 h3 h4
  have hl := push_len (u := u) h2
  have hcp := copy_cr (o := 65 + 11 * ((o + un.length) % 12)) hc
  have hoff : ∀ a, ¬ (65 + 11 * ((o + un.length) % 12) ≤ a ∧ a ≤ 65 + 11 * ((o + un.length) % 12) + 10) → wd_copy M (65 + 11 * ((o + un.length) % 12)) b a = M a := fun a ha => wd_copy_off (by omega)
  rw [pa_rem] at t
  generalize wd_copy M (65 + 11 * ((o + un.length) % 12)) b = MC at t hcp hoff
  have f1 : fr (fun a _ => a = 34 ∨ (65 ≤ a ∧ a ≤ 196)) M MC := fun a i z => by rw [hoff a (by omega)]
  have hkp : ∀ M2 : Nat → Nat → Int32, (∀ a, ¬ a = 34 → M2 a = MC a) → ∀ i, i < 2 → (kp i = none → M2 37 i = 0) ∧ ∀ u, kp i = some u → M2 37 i = 1 ∧ cr M2 (65 + 11 * (12 + i)) u := fun M2 hM i hi => by
    have e : ∀ a j, a = 37 ∨ (197 ≤ a ∧ a ≤ 218) → M2 a j = M a j := fun a j ha => by rw [hM a (by omega), hoff a (by omega)]
    refine ⟨fun z => ?_, fun v z => ⟨?_, cr_fr ((h6 i hi).2 v z).2 (fun a j y1 y2 _ => e a j (by omega))⟩⟩
    · rw [e _ _ (by omega)]; exact (h6 i hi).1 z
    · rw [e _ _ (by omega)]; exact ((h6 i hi).2 v z).1
  by_cases z : un.length < 12
  · rw [if_pos z] at t
    have hM : ∀ a, ¬ a = 34 → fm_u MC 34 2 (nI (un.length + 1)) a = MC a := fun a ha => fm_u_off ha
    refine wV_of t hd (hK _ ⟨⟨o, h1, by omega, ?_, ?_, fun k hk => ?_⟩, hkp _ hM⟩ (fr_u2 f1 (Or.inl rfl)))
    · rw [fm_u_ix (by decide), hoff _ (by omega)]; exact h3
    · rw [fm_u_at, hl]; congr 1; omega
    · rw [push_get h2 hk, if_pos z]
      by_cases e : k + 1 = (push un u).length
      · rw [if_pos e]
        have : k = un.length := by omega
        subst this
        exact cr_fr hcp (fun a j y1 y2 _ => by rw [hM a (by omega)])
      · rw [if_neg e]
        exact cr_fr (h5 k (by omega)) (fun a j y1 y2 _ => by rw [hM a (by omega), hoff a (by omega)])
  · rw [if_neg z] at t
    have e12 : un.length = 12 := by omega
    have hM : ∀ a, ¬ a = 34 → fm_u MC 34 1 (nI ((o + 1) % 12)) a = MC a := fun a ha => fm_u_off ha
    refine wV_of t hd (hK _ ⟨⟨(o + 1) % 12, by omega, by omega, fm_u_at, ?_, fun k hk => ?_⟩, hkp _ hM⟩ (fr_u2 f1 (Or.inl rfl)))
    · rw [fm_u_ix (by decide), hoff _ (by omega), h4, hl]; congr 1; omega
    · rw [push_get h2 hk, if_neg z]
      by_cases e : k + 1 = (push un u).length
      · rw [if_pos e]
        have : ((o + 1) % 12 + k) % 12 = (o + un.length) % 12 := by omega
        rw [this]
        exact cr_fr hcp (fun a j y1 y2 _ => by rw [hM a (by omega)])
      · rw [if_neg e]
        have e2 : ((o + 1) % 12 + k) % 12 = (o + (k + 1)) % 12 := by omega
        rw [e2]
        exact cr_fr (h5 (k + 1) (by omega)) (fun a j y1 y2 _ => by rw [hM a (by omega), hoff a (by omega)])
theorem R_rem {K : wKv} {r : Nat} (hr : fm_N r) (hr2 : ¬ r = 219 ∧ ¬ r = 225) (hd : 2 ≤ d) (hul : un.length ≤ 12) (hp : JP M un kp) (hc : rr (M r) u) (hK : ∀ M1, JP M1 (push un u) kp → fr (fun a i => (a = 219 ∧ i = 19) ∨ a = 225) M M1 → K M1 ML R) : wV d 171 [.ref 219, .ref r] M ML R K := by
  obtain ⟨⟨h1, h2⟩, h3⟩ := hp
  have t := t_mremember hr M ML R un.length hul h1
  have hl := push_len (u := u) hul
  have f : fr (fun a i => (a = 219 ∧ i = 19) ∨ a = 225) M (md_reM M r un.length) := fun a i z => by
    rw [md_reM, fm_row_off (fun e => z (Or.inr e))]
    by_cases e : a = 219
    · subst e
      exact fm_u_ix (fun e2 => z (Or.inl ⟨rfl, e2⟩))
    · rw [fm_u_off e]
  refine wV_of t hd (hK _ ⟨⟨?_, fun k hk j hj => ?_⟩, fun i hi => ?_⟩ f)
  · rw [md_reM, fm_row_off (by decide), fm_u_at, hl]
  · rw [md_reM, fm_row_row, push_get hul hk, md_re]
    by_cases z : un.length = 12
    · rw [if_pos z, if_neg (show ¬ un.length < 12 by omega), md_lay]
      by_cases e : k + 1 = (push un u).length
      · have : k = 11 := by omega
        subst this
        rw [if_pos (by omega), if_pos e, show 43 * 11 + j - 43 * 11 = j by omega]
        exact hc j hj
      · rw [if_neg (by omega), if_neg e, md_sh, if_pos (by omega), show 43 * k + j + 43 = 43 * (k + 1) + j by omega]
        exact h2 (k + 1) (by omega) j hj
    · rw [if_neg z, if_pos (show un.length < 12 by omega), md_lay]
      by_cases e : k + 1 = (push un u).length
      · have : k = un.length := by omega
        subst this
        rw [if_pos (by omega), if_pos e, show 43 * un.length + j - 43 * un.length = j by omega]
        exact hc j hj
      · rw [if_neg (by omega), if_neg e]
        exact h2 k (by omega) j hj
  · refine ⟨fun z => ?_, fun v z => ⟨?_, fun j hj => ?_⟩⟩
    · rw [f 243 i (by omega)]; exact (h3 i hi).1 z
    · rw [f 243 i (by omega)]; exact ((h3 i hi).2 v z).1
    · rw [f 242 _ (by omega)]; exact ((h3 i hi).2 v z).2 j hj
/-! undo -/
def pop (un : List gr) : List gr := un.take (un.length - 1)
def q_ung (g : gr) (un : List gr) : gr := if un.length = 0 then g else un.getD (un.length - 1) g0
def q_unA (un : List gr) : Int32 := if un.length = 0 then -1 else nI (un.length - 1)
theorem pop_len : (pop un).length = un.length - 1 := by simp [pop]
theorem pop_get {k : Nat} (hk : k < un.length - 1) : (pop un).getD k g0 = un.getD k g0 := by
  rw [List.getD_eq_getElem?_getD, List.getD_eq_getElem?_getD, pop, List.getElem?_take, if_pos hk]
theorem C_undo (hd : 3 ≤ d) (h : IC g un kp tx ts rw he sa M ML R) : wI d 90 [.ref 0] M ML R (CK (q_unA un) (q_ung g un) (pop un) kp tx ts rw he sa M ML R) := by
  have h0 := h
  obtain ⟨k1, k2, ⟨⟨o, h1, h2, h3, h4, h5⟩, h6⟩, k4, k5, k6, k7, k8, k9⟩ := h
  have hm := Nat.mod_lt (o + (un.length - 1)) (show 0 < 12 by decide)
  have t := t_undo M ML R k1 o un.length h1 h2 h3 h4
  rw [pa_bbA, pa_bbM] at t
  by_cases z : un.length = 0
  · rw [if_pos z, if_pos z] at t
    refine wI_of t hd ⟨by rw [q_unA, if_pos z], ?_, fr.rfl, fr.rfl, rfl⟩
    have e : pop un = un := by
      have : un = [] := List.length_eq_zero_iff.mp z
      subst this
      rfl
    rw [q_ung, if_pos z, e]
    exact h0
  · rw [if_neg z, if_neg z] at t
    have hu : ∀ a j, ¬ (a = 34 ∧ j = 2) → fm_u M 34 2 (nI (un.length - 1)) a j = M a j := fun a j ha => by
      by_cases e : a = 34
      · subst e; exact fm_u_ix (fun y => ha ⟨rfl, y⟩)
      · rw [fm_u_off e]
    have hcp : cr (wd_copy (fm_u M 34 2 (nI (un.length - 1))) 1 (65 + 11 * ((o + (un.length - 1)) % 12))) 1 (un.getD (un.length - 1) g0) := copy_cr (cr_fr (h5 (un.length - 1) (by omega)) (fun a j y1 y2 _ => hu a j (by omega)))
    have hoff : ∀ a, ¬ (1 ≤ a ∧ a ≤ 11) → wd_copy (fm_u M 34 2 (nI (un.length - 1))) 1 (65 + 11 * ((o + (un.length - 1)) % 12)) a = fm_u M 34 2 (nI (un.length - 1)) a := fun a ha => wd_copy_off (by omega)
    have hun : (fm_u M 34 2 (nI (un.length - 1))) 34 2 = nI (un.length - 1) := fm_u_at
    generalize wd_copy (fm_u M 34 2 (nI (un.length - 1))) 1 (65 + 11 * ((o + (un.length - 1)) % 12)) = M1 at t hcp hoff
    have ff : ∀ a j, ¬ (1 ≤ a ∧ a ≤ 11) → ¬ (a = 34 ∧ j = 2) → M1 a j = M a j := fun a j y1 y2 => by rw [hoff a y1, hu a j y2]
    refine wI_of t hd ⟨by rw [q_unA, if_neg z], ?_, fun a j y => ff a j (by omega) (by omega), fr.rfl, rfl⟩
    refine IC.w h0 (fun a j y => ff a j (by omega) (by omega)) (by rw [q_ung, if_neg z]; exact hcp) ⟨⟨o, h1, by rw [pop_len]; omega, by rw [ff _ _ (by omega) (by omega)]; exact h3, by rw [hoff _ (by omega), hun, pop_len], fun k hk => ?_⟩, fun i hi => ⟨fun y => by rw [ff _ _ (by omega) (by omega)]; exact (h6 i hi).1 y, fun v y => ⟨by rw [ff _ _ (by omega) (by omega)]; exact ((h6 i hi).2 v y).1, cr_fr ((h6 i hi).2 v y).2 (fun a j y1 y2 _ => ff a j (by omega) (by omega))⟩⟩⟩ (IW_fr k6 (fun i => ff _ _ (by omega) (by omega)) (fun _ => rfl))
    rw [pop_len] at hk
    rw [pop_get hk]
    exact cr_fr (h5 k (by omega)) (fun a j y1 y2 _ => ff a j (by omega) (by omega))
theorem R_undo (hd : 1 ≤ d) (hul : un.length ≤ 12) (h : IR g un kp tx ts rw he sa M ML R) : wI d 185 [.ref 219] M ML R (RK (q_unA un) (q_ung g un) (pop un) kp tx ts rw he sa M ML R) := by
  have h0 := h
  obtain ⟨k1, ⟨⟨h1, h2⟩, h3⟩, k3, k4, k5, k6, k7⟩ := h
  have t := t_mundo M ML R un.length hul h1
  rw [md_unA, md_unM] at t
  have f5 : fr (fun a i => a = 219 ∧ i = 5) M (fm_u M 219 5 0) := fr_u ⟨rfl, rfl⟩
  by_cases z : un.length = 0
  · rw [if_pos z, if_pos z] at t
    refine wI_of t hd ⟨by rw [q_unA, if_pos z], ?_, f5.mono (fun a i y => by omega), fr.rfl, fr.rfl⟩
    have e : pop un = un := by
      have : un = [] := List.length_eq_zero_iff.mp z
      subst this
      rfl
    rw [q_ung, if_pos z, e]
    exact IR.w h0 (f5.mono (fun a i y => by omega)) (rr_fr k1 (fun i => f5 _ i (by omega))) (JP_fr ⟨⟨h1, h2⟩, h3⟩ (fun a i y => f5 a i (by omega))) (JW_fr k5 (f5 _ _ (by omega)) (fun _ => rfl))
  · rw [if_neg z, if_neg z] at t
    have f : fr (fun a i => (a = 219 ∧ (i = 5 ∨ i = 19)) ∨ a = 220) M (fm_row (fm_u (fm_u M 219 5 0) 219 19 (nI (un.length - 1))) 220 (md_lay (fun j => M 225 (43 * (un.length - 1) + j)) (M 220) 0 43)) := (((f5.mono (fun a i y => by omega)).tr (fr_u (by omega)))).tr (fr_row (fun i => by omega))
    have e19 : (fm_row (fm_u (fm_u M 219 5 0) 219 19 (nI (un.length - 1))) 220 (md_lay (fun j => M 225 (43 * (un.length - 1) + j)) (M 220) 0 43)) 219 19 = nI (un.length - 1) := by rw [fm_row_off (by decide), fm_u_at]
    refine wI_of t hd ⟨by rw [q_unA, if_neg z], ?_, f.mono (fun a i y => by omega), fr.rfl, fr.rfl⟩
    refine IR.w h0 (f.mono (fun a i y => by omega)) (fun j hj => ?_) ⟨⟨by rw [e19, pop_len], fun k hk j hj => ?_⟩, fun i hi => ⟨fun y => by rw [f _ _ (by omega)]; exact (h3 i hi).1 y, fun v y => ⟨by rw [f _ _ (by omega)]; exact ((h3 i hi).2 v y).1, fun j hj => by rw [f _ _ (by omega)]; exact ((h3 i hi).2 v y).2 j hj⟩⟩⟩ (JW_fr k5 (f _ _ (by omega)) (fun _ => rfl))
    · rw [fm_row_row, md_lay, if_pos (by omega), q_ung, if_neg z]
      exact h2 (un.length - 1) (by omega) j hj
    · rw [pop_len] at hk
      rw [f _ _ (by omega), pop_get hk]
      exact h2 k (by omega) j hj
end past
