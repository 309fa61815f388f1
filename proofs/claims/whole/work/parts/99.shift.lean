/-! shift of the reference -/
section shift3
variable {d B b r : Nat} {g gk g' u : gr} {ts tx tx' t' : List Nat} {rw rw' : List Int64} {un un' : List gr} {kp kp' : Nat → Option gr} {he sa : List (Nat × Nat)} {M0 M M1 : Nat → Nat → Int32} {L0 ML L1 : Nat → Nat → Int64} {R0 R R1 : Nat → Nat → Option Nat}
abbrev SF (b i : Nat) : Prop := (b = 219 ∧ 22 ≤ i ∧ i ≤ 24) ∨ b = 220 ∨ b = 223
abbrev SL (b i : Nat) : Prop := b = 219 ∧ 9 ≤ i ∧ i ≤ 10
theorem IR.n (h : IR gk un kp tx ts rw he sa M ML R) (f : fr SF M M1) (c : rr (M1 220) g') : IR g' un kp tx ts rw he sa M1 ML R := h.w (f.mono (fun a i z => by omega)) c (JP_fr h.p (fun a i y => f a i (by omega))) (JW_fr h.2.2.2.2.1 (f _ _ (by omega)) (fun _ => rfl))
theorem R_act2 {K : wK} {a : Nat × Nat} {x2 : Int32} (hd : 102 ≤ d) (h : IR gk un kp tx ts rw he sa M ML R) (hg : gok gk B) (hB : B < 2 ^ 20) (hts : tsok ts) (ha : ¬ alen a.1 = 0) (ha2 : a.2 ≤ 99) (hx : ¬ a.1 = 42 → x2 = nI a.2) (h1 : ∀ g2, act gk ts a = some g2 → ∀ M1 L1, IR g2 un kp tx ts rw he sa M1 L1 R → fr SF M M1 → fr SL ML L1 → K 1 M1 L1 R) (h0 : act gk ts a = none → ∀ L1, IR gk un kp tx ts rw he sa M L1 R → fr SL ML L1 → K 0 M L1 R) : wI (d + 1) 184 [.ref 219, .int (nI a.1), .int x2] M ML R K := by
  obtain ⟨c, v⟩ := a
  dsimp only at ha ha2 hx ⊢
  obtain ⟨d, rfl⟩ : ∃ e, d = e + 1 := ⟨d - 1, by omega⟩
  have hP := hg.2.1
  have hc : c = 42 ∨ c = 110 ∨ c = 112 ∨ c = 108 ∨ c = 104 := by
    rcases alen_c ha with ⟨e, _⟩ | ⟨e, _⟩ | ⟨e, _⟩
    · exact Or.inl e
    · exact Or.inr (Or.inl e)
    · exact Or.inr (Or.inr e)
  unfold act at h1 h0
  dsimp only at h1 h0
  refine w184 ⟨fun z => ?_, fun z => ?_, fun z => ?_, fun z => ?_, fun z1 z2 z3 z4 => ?_⟩
  · have e : c = 42 := (nI_eq (b := 42) (by omega) (by decide)).mp z
    subst e
    rw [if_pos rfl] at h1
    refine R_go fm_N220 (by omega) (by omega) h.2.2.2.1 hts h.1 hg (by omega) (-1) (fun M1 f1 _ _ r1 => ?_)
    have F : fr SF M M1 := f1.mono (fun a i z => by omega)
    exact h1 _ rfl M1 ML (h.n F r1) F fr.rfl
  · have e : c = 108 := (nI_eq (b := 108) (by omega) (by decide)).mp z
    subst e
    rw [if_neg (by decide), if_neg (by decide), if_neg (by decide), if_pos rfl] at h1 h0
    have := hx (by decide)
    subst this
    refine R_refuse fm_N220 (by omega) h.1 hg hB _ (fun q hq e hq0 => ?_) (fun y => ?_)
    · have := (nI_eq (by omega) (by omega)).mp e
      subst this
      by_cases y : g_mf gk v ≤ gk 41
      · rw [if_pos y]
        rw [if_pos ⟨hq, hq0, y⟩] at h1
        refine ⟨fun _ => ?_, fun w => absurd (by decide) w⟩
        refine R_goLeave fm_N220 (by omega) h.1 hg hq (fun M3 r3 f3 => ?_)
        have F : fr SF M M3 := f3.mono (fun a i z => by omega)
        exact h1 _ rfl M3 ML (h.n F r3) F fr.rfl
      · rw [if_neg y]
        rw [if_neg (fun w => y w.2.2)] at h0
        exact ⟨fun w => absurd w (by decide), fun _ => h0 rfl ML h fr.rfl⟩
    · rw [if_neg (fun w => y ((th_nI w.1).mpr w.2.1))] at h0
      exact ⟨fun w => absurd w (by decide), fun _ => h0 rfl ML h fr.rfl⟩
  · have e : c = 110 := (nI_eq (b := 110) (by omega) (by decide)).mp z
    subst e
    rw [if_neg (by decide), if_pos rfl] at h1 h0
    have := hx (by decide)
    subst this
    refine ⟨fun y => ?_, fun y => ?_⟩
    · have hv : v ≤ 60 := (nI_leI (b := 60) (by omega) (by decide)).mp y
      rw [if_pos hv] at h1
      refine R_goSlots fm_N220 (by omega) (by omega) h.2.2.2.1 hts h.1 hg (by omega) (by omega) (fun M1 f1 r1 _ => ?_)
      have F : fr SF M M1 := f1.mono (fun a i z => by omega)
      exact h1 _ rfl M1 ML (h.n F r1) F fr.rfl
    · have hv : ¬ v ≤ 60 := fun w => y ((nI_leI (b := 60) (by omega) (by decide)).mpr w)
      rw [if_neg hv] at h0
      exact h0 rfl ML h fr.rfl
  · have e : c = 112 := (nI_eq (b := 112) (by omega) (by decide)).mp z
    subst e
    rw [if_neg (by decide), if_neg (by decide), if_pos rfl] at h1 h0
    have := hx (by decide)
    subst this
    refine R_refP (by omega) h.1 hg _ (fun w w1 w2 e y L2 f2 => ?_) (fun w w1 w2 e y => ?_) (fun y => ?_)
    · have := (nI_eq (by omega) (by omega)).mp e
      subst this
      by_cases x : g_ws gk 8 ≤ 27720 * v
      · rw [if_pos x]
        rw [if_pos ⟨w1, w2, y, x⟩] at h1
        refine ⟨fun _ M6 e6 => ?_, fun w => absurd (by decide) w⟩
        subst e6
        have F : fr SF M (fm_u M 220 40 (nI v)) := fr_u (by omega)
        exact h1 _ rfl _ L2 ((h.l f2).n F (by rw [fm_u_row]; exact rr_pr h.1)) F f2
      · rw [if_neg x]
        rw [if_neg (fun w => x w.2.2.2)] at h0
        exact ⟨fun w => absurd w (by decide), fun _ => h0 rfl L2 (h.l f2) f2⟩
    · have := (nI_eq (by omega) (by omega)).mp e
      subst this
      rw [if_neg (fun w => w.2.2.1 y)] at h0
      exact ⟨fun w => absurd w (by decide), fun _ => h0 rfl ML h fr.rfl⟩
    · have n14 : ¬ (1 ≤ v ∧ v ≤ 4) := fun w => by
        rcases y with y | y
        · exact absurd ((nI_ltI (b := 1) (by omega) (by decide)).mp y) (by omega)
        · exact absurd ((nI_ltI (a := 4) (by decide) (by omega)).mp y) (by omega)
      rw [if_neg (fun w => n14 ⟨w.1, w.2.1⟩)] at h0
      exact ⟨fun w => absurd w (by decide), fun _ => h0 rfl ML h fr.rfl⟩
  · have e : c = 104 := by
      rcases hc with e | e | e | e | e
      · exact absurd (by rw [e]; rfl) z1
      · exact absurd (by rw [e]; rfl) z3
      · exact absurd (by rw [e]; rfl) z4
      · exact absurd (by rw [e]; rfl) z2
      · exact e
    subst e
    rw [if_neg (by decide), if_neg (by decide), if_neg (by decide), if_neg (by decide)] at h1 h0
    have := hx (by decide)
    subst this
    refine R_task (by omega) h.1 hg _ (fun q hq e hq0 => ?_) (fun y => ?_)
    · have := (nI_eq (by omega) (by omega)).mp e
      subst this
      rw [if_pos ⟨hq, hq0⟩] at h1
      refine ⟨fun _ => ⟨24 + v, nI_add 24 v, by omega, 24 + v, nI_add 24 v, by omega, fun M9 e9 => ?_⟩, fun w => absurd w (by decide)⟩
      subst e9
      have F : fr SF M (fm_u M 220 (24 + v) (1 - M 220 (24 + v))) := fr_u (by omega)
      exact h1 _ rfl _ ML (h.n F (by rw [fm_u_row]; exact (rr_hu h.1 hg hq hq0).1)) F fr.rfl
    · rw [if_neg (fun w => y ((th_nI w.1).mpr w.2))] at h0
      exact ⟨fun w => absurd rfl w, fun _ => h0 rfl ML h fr.rfl⟩
end shift3
