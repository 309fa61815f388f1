/-! a call of the law: both answer alike, and the invariant goes on -/
def IV (B : Nat) (M : Nat → Nat → Int32) (ML : Nat → Nat → Int64) (R : Nat → Nat → Option Nat) : Prop := ∃ g un kp tx ts rw he sa, IC g un kp tx ts rw he sa M ML R ∧ IR g un kp tx ts rw he sa M ML R ∧ SO g un kp ts B
def PRd (B kC kR : Nat) (as : List Value) (M : Nat → Nat → Int32) (ML : Nat → Nat → Int64) (R : Nat → Nat → Option Nat) : Prop := ∃ v M1 L1 R1 M2 L2 R2, mj_big 110 kC (.ref 0 :: as) (fm_mk (M, ML, R)) (some (.int v)) (fm_mk (M1, L1, R1)) ∧ mj_big 110 kR (.ref 219 :: as) (fm_mk (M1, L1, R1)) (some (.int v)) (fm_mk (M2, L2, R2)) ∧ IV B M2 L2 R2
section pair
variable {B C : Nat} {g g' : gr} {un un' : List gr} {kp kp' : Nat → Option gr} {tx tx' ts ts' : List Nat} {rw rw' W : List Int64} {he he' sa sa' : List (Nat × Nat)} {M M1 : Nat → Nat → Int32} {ML L1 : Nat → Nat → Int64} {R R1 : Nat → Nat → Option Nat} {kC kR : Nat} {as : List Value} {A : Int32}
theorem IR.cf (h : IR g un kp tx ts rw he sa M ML R) (f : fr (fun a _ => a < 219) M M1) (fl : fr (fun a _ => a < 219) ML L1) : IR g un kp tx ts rw he sa M1 L1 R := by
  obtain ⟨h1, h2, h3, h4, h5, h6, h7⟩ := h
  exact ⟨rr_fr h1 (fun i => f _ i (by omega)), JP_fr h2 (fun a i y => f a i (by omega)), JX_fr h3 (fun a i y => f a i (by omega)), JT_fr h4 (fun a i y => f a i (by omega)) rfl rfl, JW_fr h5 (f _ _ (by omega)) (fun i => fl _ i (by omega)), JH_fr h6 (fun a i y => f a i (by omega)), JS_fr h7 (fun a i y => f a i (by omega))⟩
theorem IC.rf (h : IC g un kp tx ts rw he sa M ML R) (f : fr (fun a _ => 219 ≤ a ∧ a ≤ 245) M M1) (fl : fr (fun a _ => 219 ≤ a ∧ a ≤ 245) ML L1) (fR : fr (fun a _ => a = 219) R R1) : IC g un kp tx ts rw he sa M1 L1 R1 := by
  obtain ⟨h1, h2, h3, h4, h5, h6, h7, h8, h9⟩ := h
  exact ⟨⟨fun k hk => by rw [fR _ _ (by omega)]; exact h1.1 k hk, fun k hk => by rw [fR _ _ (by omega)]; exact h1.2 k hk⟩, cr_fr h2 (fun a i y1 y2 y3 => f a i (by omega)), IP_fr h3 (fun a i y => f a i (by omega)), IX_fr h4 (fun a i y => f a i (by omega)), tr_fr h5 (fun a i y => f a i (by omega)), IW_fr h6 (fun i => f _ i (by omega)) (fun i => fl _ i (by omega)), IH_fr h7 (fun a i y => f a i (by omega)), IS_fr h8 (fun a i y => f a i (by omega)), IZ_fr h9 (fun a i y => f a i (by omega))⟩
theorem SO.up (h : SO g un kp ts B) (hC : B ≤ C) : SO g un kp ts C := ⟨gok_up h.1 hC, fun u hu => gok_up (h.2.1 u hu) hC, fun i u e => gok_up (h.2.2.1 i u e) hC, h.2.2.2⟩
theorem SO.gg (h : SO g un kp ts B) (hC : B ≤ C) (hg : gok g' C) : SO g' un kp ts C := ⟨hg, fun u hu => gok_up (h.2.1 u hu) hC, fun i u e => gok_up (h.2.2.1 i u e) hC, h.2.2.2⟩
theorem push_mem {u v : gr} (h : u ∈ push un v) : u ∈ un ∨ u = v := by
  unfold push at h
  split at h
  · rcases List.mem_append.mp h with h | h
    · exact Or.inl h
    · exact Or.inr (by simpa using h)
  · rcases List.mem_append.mp h with h | h
    · exact Or.inl (List.mem_of_mem_drop h)
    · exact Or.inr (by simpa using h)
theorem SO.p (h : SO g un kp ts B) (hC : B ≤ C) (hg : gok g' C) : SO g' (push un g) kp ts C := ⟨hg, fun u hu => by
  rcases push_mem hu with hu | hu
  · exact gok_up (h.2.1 u hu) hC
  · rw [hu]; exact gok_up h.1 hC, fun i u e => gok_up (h.2.2.1 i u e) hC, h.2.2.2⟩
theorem prK (hr : IR g un kp tx ts rw he sa M ML R) (c : wI 110 kC (.ref 0 :: as) M ML R (CK A g' un' kp' tx' ts' rw' he' sa' M ML R)) (r : ∀ M1 L1, IR g un kp tx ts rw he sa M1 L1 R → wI 110 kR (.ref 219 :: as) M1 L1 R (RK A g' un' kp' tx' ts' rw' he' sa' M1 L1 R)) (hs : SO g' un' kp' ts' C) : PRd C kC kR as M ML R := by
  obtain ⟨r1, h1, hb, v, M1, L1, R1, e1, e2, hv, i1, f1, l1, eR⟩ := c
  subst e1 e2 hv eR
  obtain ⟨r2, h2, hb2, v2, M2, L2, R2, e3, e4, hv2, i2, f2, l2, rR⟩ := r M1 L1 (hr.cf f1 l1)
  subst e3 e4 hv2
  exact ⟨_, M1, L1, _, M2, L2, R2, hb, hb2, _, _, _, _, _, _, _, _, i1.rf f2 l2 rR, i2, hs⟩
theorem prQ (hi : IC g un kp tx ts rw he sa M ML R) (hr : IR g un kp tx ts rw he sa M ML R) (hs : SO g un kp ts B) (hC : B ≤ C) (c : wI 110 kC (.ref 0 :: as) M ML R (CQ A W M ML R)) (r : ∀ M1 L1, IR g un kp tx ts rw he sa M1 L1 R → wI 110 kR (.ref 219 :: as) M1 L1 R (RQ A W M1 L1 R)) : PRd C kC kR as M ML R := by
  obtain ⟨r1, h1, hb, v, M1, L1, R1, e1, e2, hv, w1, f1, l1, eR⟩ := c
  subst e1 e2 hv eR
  have i1 := hi.q f1 w1
  have hr1 := hr.cf (f1.mono (fun a i z => by omega)) (l1.mono (fun a i z => by omega))
  obtain ⟨r2, h2, hb2, v2, M2, L2, R2, e3, e4, hv2, w2, f2, l2, rR⟩ := r M1 L1 hr1
  subst e3 e4 hv2
  exact ⟨_, M1, L1, _, M2, L2, R2, hb, hb2, _, _, _, _, _, _, _, _, i1.rf (f2.mono (fun a i z => by omega)) (l2.mono (fun a i z => by omega)) (rR.mono (fun a i z => by omega)), hr1.q f2 w2 rR, hs.up hC⟩
theorem IC.hl (h : IC g un kp tx ts rw he sa M ML R) : he.length ≤ 12 ∧ ∀ p ∈ he, p.1 < 5 ∧ p.2 ≤ 20 := ⟨h.2.2.2.2.2.2.1.1, h.2.2.2.2.2.2.1.2.1⟩
theorem IC.sl (h : IC g un kp tx ts rw he sa M ML R) : sa.length ≤ 10 ∧ ∀ p ∈ sa, 1 ≤ p.1 ∧ p.1 ≤ 12 ∧ p.2 ≤ 150 := ⟨h.2.2.2.2.2.2.2.1.1, h.2.2.2.2.2.2.2.1.2.1⟩
theorem rdS_gpk {bd : Nat} : ∀ m p k (gk : gr) x, p ≤ bd → gpk gk B → rdS tx bd m p gk k = .inr x → gpk x.2 B := by
  intro m
  induction m with
  | zero => intro p k gk x _ _ h; rw [rdS] at h; cases h
  | succ m ih =>
    intro p k gk x hp hg h
    rw [rdS] at h
    cases e : g_lf gk 8 0 with
    | none => rw [e] at h; cases h
    | some q =>
      obtain ⟨q1, q2, q3⟩ := g_lf_some 8 0 q e
      rw [e] at h
      dsimp only at h
      cases e2 : (rdL tx bd p).2.2 with
      | none => rw [e2] at h; cases h
      | some t =>
        obtain ⟨ht, _⟩ := rdL_ok hp e2
        rw [e2] at h
        dsimp only at h
        have g2 := gpk_en (q := q) hg (by omega) ht
        split at h
        · split at h
          · exact ih _ _ _ _ (by omega) g2 h
          · cases h
        · split at h
          · cases h; exact g2
          · cases h
theorem SO.jn (h : SO g un kp ts B) (hC : B ≤ C) : SO (q_jng g tx) (q_jnun un g tx) kp ts C := by
  unfold q_jng q_jnun
  by_cases z : tx.length = 0
  · rw [if_pos z, if_pos z]; exact h.up hC
  · rw [if_neg z, if_neg z]
    cases e : q_jn g tx with
    | inl f => exact h.up hC
    | inr x =>
      dsimp only
      by_cases y : g_ws x.2 8 ≤ 27720 * g 40
      · rw [if_pos y, if_pos y]
        have x40 := rdS_40 _ _ _ _ _ e
        exact h.p hC (gok_up ((rdS_gpk _ _ _ _ _ (Nat.zero_le _) h.1.k e).ok (by rw [x40]; exact y)) hC)
      · rw [if_neg y, if_neg y]; exact h.up hC
theorem rns_ok {c : Nat} : ∀ f p (gk : gr) k, p ≤ tx.length + 2 → k + f ≤ 60 → gok gk (c + 20 * p + k) → gok (rns tx ts f p gk k).2.1 (c + 20 * (tx.length + 2) + 60) := by
  intro f
  induction f with
  | zero => intro p gk k hp hk hg; exact gok_up hg (by omega)
  | succ f ih =>
    intro p gk k hp hk hg
    rw [rns]
    by_cases z : tx.length ≤ p
    · rw [if_pos z]; exact gok_up hg (by omega)
    · rw [if_neg z]
      cases e : act gk ts (dec tx p) with
      | none => exact gok_up hg (by omega)
      | some g2 =>
        have h2 := act_ok hg e
        have h3 := alen_3 (cp tx p)
        refine ih _ _ _ (by omega) (by omega) (gok_up h2 ?_)
        show c + 20 * p + k + (if cp tx p = 110 then 60 else 1) ≤ _
        by_cases w : cp tx p = 110
        · rw [if_pos w, w]
          have : alen 110 = 3 := rfl
          omega
        · rw [if_neg w]; omega
theorem SO.sf (h : SO g un kp ts B) (hx : tx.length ≤ 80) : SO (q_sfg g ts tx) (q_sfun un g ts tx) kp ts (B + 1700) := by
  unfold q_sfg q_sfun
  cases fbA tx with
  | some f => exact h.up (by omega)
  | none =>
    dsimp only
    have hg := gok_up (rns_ok (tx := tx) (ts := ts) 60 0 g 0 (by omega) (by omega) (c := B) (gok_up h.1 (by omega))) (show _ ≤ B + 1700 by omega)
    unfold q_sfu
    split
    · exact h.gg (by omega) hg
    · exact h.p (by omega) hg
theorem SO.uu (h : SO g un kp ts B) (hC : B ≤ C) : SO (q_ung g un) (pop un) kp ts C := by
  refine ⟨?_, fun u hu => gok_up (h.2.1 u (List.mem_of_mem_take hu)) hC, fun i u e => gok_up (h.2.2.1 i u e) hC, h.2.2.2⟩
  unfold q_ung
  split
  · exact gok_up h.1 hC
  · refine gok_up (h.2.1 _ ?_) hC
    rw [List.getD_eq_getElem?_getD, List.getElem?_eq_getElem (show un.length - 1 < un.length by omega), Option.getD_some]
    exact List.getElem_mem _
theorem SO.ti (h : SO g un kp ts B) (hC : B ≤ C) : SO g un kp (q_tits ts tx) C := by
  refine ⟨gok_up h.1 hC, fun u hu => gok_up (h.2.1 u hu) hC, fun i u e => gok_up (h.2.2.1 i u e) hC, ?_⟩
  unfold q_tits
  cases e : q_tp tx tx.length 0 with
  | none => exact ts_ok e
  | some f => exact h.2.2.2
theorem SO.kk (h : SO g un kp ts B) (hC : B ≤ C) (i : Nat) : SO g un (kset kp i g) ts C := by
  refine ⟨gok_up h.1 hC, fun u hu => gok_up (h.2.1 u hu) hC, fun j u e => ?_, h.2.2.2⟩
  unfold kset at e
  split at e
  · cases e; exact gok_up h.1 hC
  · exact gok_up (h.2.2.1 j u e) hC
theorem SO.ag {u : gr} {i : Nat} (h : SO g un kp ts B) (hC : B ≤ C) (e : kp i = some u) : SO u [] kp ts C := ⟨gok_up (h.2.2.1 i u e) hC, fun u hu => (by cases hu), fun i u e => gok_up (h.2.2.1 i u e) hC, h.2.2.2⟩
end pair
