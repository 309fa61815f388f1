section shift4
variable {d B b r N : Nat} {g gk g' u : gr} {ts tx tx' t' : List Nat} {rw rw' : List Int64} {un un' : List gr} {kp kp' : Nat → Option gr} {he sa : List (Nat × Nat)} {M0 M M1 Ma : Nat → Nat → Int32} {L0 ML L1 : Nat → Nat → Int64} {R0 R R1 : Nat → Nat → Option Nat}
def pos (tx : List Nat) : Nat → Nat
  | 0 => 0
  | j + 1 => pos tx j + alen (cp tx (pos tx j))
def AM (tx : List Nat) (N : Nat) (M : Nat → Nat → Int32) : Prop := ∀ j, j < N → M 228 (2 * j) = nI (dec tx (pos tx j)).1 ∧ (¬ (dec tx (pos tx j)).1 = 42 → M 228 (2 * j + 1) = nI (dec tx (pos tx j)).2)
def AA (tx : List Nat) (N : Nat) : Prop := ∀ j, j < N → pos tx j < tx.length ∧ ¬ alen (cp tx (pos tx j)) = 0 ∧ (dec tx (pos tx j)).2 ≤ 99 ∧ pos tx (j + 1) ≤ tx.length
theorem isd_9 {c : Nat} (h : isd c = true) : c - 48 ≤ 9 := by
  simp only [isd, Bool.and_eq_true, decide_eq_true_eq] at h
  omega
theorem fa_none {tx : List Nat} {p : Nat} (hp : p < tx.length) (h : fa tx p = none) : p < 60 ∧ ¬ alen (cp tx p) = 0 ∧ (dec tx p).2 ≤ 99 ∧ p + alen (cp tx p) ≤ min tx.length 60 := by
  unfold fa at h
  by_cases h60 : 60 ≤ p
  · rw [if_pos h60] at h; cases h
  · rw [if_neg h60] at h
    by_cases z : alen (cp tx p) = 0
    · rw [if_pos z] at h; cases h
    · rw [if_neg z] at h
      refine ⟨by omega, z, ?_⟩
      unfold dec
      dsimp only
      rcases alen_c z with ⟨e, e1⟩ | ⟨e, e1⟩ | ⟨e, e1⟩
      · rw [if_pos e, e1]; omega
      · rw [if_neg (show ¬ alen (cp tx p) = 1 by omega)] at h
        rw [if_neg (by omega), if_pos e]
        by_cases d1 : p + 1 < tx.length ∧ p + 1 < 60 ∧ isd (cp tx (p + 1)) = true
        · rw [if_neg (fun y => y d1), if_neg (show ¬ alen (cp tx p) = 2 by omega)] at h
          by_cases d2 : p + 2 < tx.length ∧ p + 2 < 60 ∧ isd (cp tx (p + 2)) = true
          · have := isd_9 d1.2.2
            have := isd_9 d2.2.2
            omega
          · rw [if_pos d2] at h; cases h
        · rw [if_pos d1] at h; cases h
      · rw [if_neg (show ¬ alen (cp tx p) = 1 by omega)] at h
        rw [if_neg (by omega), if_neg (by omega)]
        by_cases d1 : p + 1 < tx.length ∧ p + 1 < 60 ∧ isd (cp tx (p + 1)) = true
        · have := isd_9 d1.2.2
          omega
        · rw [if_pos d1] at h; cases h
theorem R_shEnd {s : Nat × gr × Nat} (hd : 2 ≤ d) (hk : s.1 ≤ 60) (hN : N ≤ 60) (hs : (s.2.2 = 0 ∧ N ≤ s.1) ∨ (s.2.2 = 1 ∧ s.1 < N)) (hul : un.length ≤ 12) (h : IR s.2.1 un kp [] ts rw he sa M ML R) (c6 : rr (M 226) g) (fM : fr (fun a _ => 219 ≤ a ∧ a ≤ 245) M0 M) (fL : fr (fun a _ => 219 ≤ a ∧ a ≤ 245) L0 ML) (fR : fr (fun a _ => a = 219) R0 R) : ((nI s.1 ≤ 0 → (∀ M1, M1 = fm_u M 219 4 (0 : Int32) → ((nI N ≤ nI s.1 → (wV d 135 [.ref 219, .long (0 : Int64)] M1 ML R (fun M2 L2 R2 => (wV d 135 [.ref 219, .long (((M2 220 41)).toInt64)] M2 L2 R2 (fun M3 L3 R3 => RK (nI s.1) s.2.1 (q_sfu un g s) kp [] ts (q_sfW s) he sa M0 L0 R0 (nI s.1) M3 L3 R3))))) ∧ (¬ nI N ≤ nI s.1 → (wV d 135 [.ref 219, .long (1 : Int64)] M1 ML R (fun M4 L4 R4 => (wV d 135 [.ref 219, .long (((M4 220 41)).toInt64)] M4 L4 R4 (fun M5 L5 R5 => RK (nI s.1) s.2.1 (q_sfu un g s) kp [] ts (q_sfW s) he sa M0 L0 R0 (nI s.1) M5 L5 R5)))))))) ∧ (¬ nI s.1 ≤ 0 → (wV d 171 [.ref 219, .ref 226] M ML R (fun M6 L6 R6 => (∀ M7, M7 = fm_u M6 219 4 (0 : Int32) → ((nI N ≤ nI s.1 → (wV d 135 [.ref 219, .long (0 : Int64)] M7 L6 R6 (fun M8 L8 R8 => (wV d 135 [.ref 219, .long (((M8 220 41)).toInt64)] M8 L8 R8 (fun M9 L9 R9 => RK (nI s.1) s.2.1 (q_sfu un g s) kp [] ts (q_sfW s) he sa M0 L0 R0 (nI s.1) M9 L9 R9))))) ∧ (¬ nI N ≤ nI s.1 → (wV d 135 [.ref 219, .long (1 : Int64)] M7 L6 R6 (fun M10 L10 R10 => (wV d 135 [.ref 219, .long (((M10 220 41)).toInt64)] M10 L10 R10 (fun M11 L11 R11 => RK (nI s.1) s.2.1 (q_sfu un g s) kp [] ts (q_sfW s) he sa M0 L0 R0 (nI s.1) M11 L11 R11))))))))))) := by
  have T : ∀ (un' : List gr) (M : Nat → Nat → Int32), IR s.2.1 un' kp [] ts rw he sa M ML R → fr (fun a _ => 219 ≤ a ∧ a ≤ 245) M0 M → ∀ v : Int64, wV d 135 [.ref 219, .long v] (fm_u M 219 4 0) ML R (fun M3 L3 R3 => wV d 135 [.ref 219, .long ((M3 220 41).toInt64)] M3 L3 R3 (fun M4 L4 R4 => RK (nI s.1) s.2.1 un' kp [] ts [v, nL (s.2.1 41)] he sa M0 L0 R0 (nI s.1) M4 L4 R4)) := fun un' M h fM v => by
    have f0 : fr (fun a i => a = 219 ∧ i = 4) M (fm_u M 219 4 0) := fr_u ⟨rfl, rfl⟩
    refine R_tell (by omega) (JW_0 fm_u_at) (by decide) _ (fun M3 L3 w3 f3 l3 => ?_)
    have F3 : fr (fun a i => a = 219 ∧ i = 4) M M3 := f0.tr f3
    rw [F3 220 41 (by omega), h.1 41 (by omega)]
    refine R_tell (by omega) w3 (by simp) _ (fun M4 L4 w4 f4 l4 => ?_)
    have F4 : fr (fun a i => a = 219 ∧ i = 4) M M4 := F3.tr f4
    exact ⟨rfl, h.w (F4.mono (fun a i z => by omega)) (rr_fr h.1 (fun i => F4 _ i (by omega))) (JP_fr h.p (fun a i y => F4 a i (by omega))) w4, fM.tr (F4.mono (fun a i z => by omega)), fL.tr ((l3.tr l4).mono (fun a i z => by omega)), fR⟩
  have tail : ∀ (un' : List gr) (M : Nat → Nat → Int32), IR s.2.1 un' kp [] ts rw he sa M ML R → fr (fun a _ => 219 ≤ a ∧ a ≤ 245) M0 M → ∀ M1, M1 = fm_u M 219 4 (0 : Int32) → ((nI N ≤ nI s.1 → (wV d 135 [.ref 219, .long (0 : Int64)] M1 ML R (fun M2 L2 R2 => (wV d 135 [.ref 219, .long (((M2 220 41)).toInt64)] M2 L2 R2 (fun M3 L3 R3 => RK (nI s.1) s.2.1 un' kp [] ts (q_sfW s) he sa M0 L0 R0 (nI s.1) M3 L3 R3))))) ∧ (¬ nI N ≤ nI s.1 → (wV d 135 [.ref 219, .long (1 : Int64)] M1 ML R (fun M4 L4 R4 => (wV d 135 [.ref 219, .long (((M4 220 41)).toInt64)] M4 L4 R4 (fun M5 L5 R5 => RK (nI s.1) s.2.1 un' kp [] ts (q_sfW s) he sa M0 L0 R0 (nI s.1) M5 L5 R5)))))) := fun un' M h fM M1 e1 => by
    subst e1
    unfold q_sfW
    refine ⟨fun z => ?_, fun z => ?_⟩
    · have e : s.2.2 = 0 := by
        rcases hs with w | w
        · exact w.1
        · exact absurd ((nI_leI (by omega) (by omega)).mp z) (by omega)
      rw [e]
      exact T un' M h fM 0
    · have e : s.2.2 = 1 := by
        rcases hs with w | w
        · exact absurd ((nI_leI (by omega) (by omega)).mpr w.2) z
        · exact w.1
      rw [e]
      exact T un' M h fM 1
  refine ⟨fun z => ?_, fun z => ?_⟩
  · have e : s.1 = 0 := by have := (nI_leI (b := 0) (by omega) (by decide)).mp z; omega
    have hu : q_sfu un g s = un := by unfold q_sfu; rw [if_pos e]
    rw [hu]
    exact tail un M h fM
  · have e : ¬ s.1 = 0 := fun y => z (by rw [y]; decide)
    have hu : q_sfu un g s = push un g := by unfold q_sfu; rw [if_neg e]
    rw [hu]
    refine R_rem fm_N226 (by decide) hd hul h.p c6 (fun M5 p5 f5 => ?_)
    exact tail _ M5 (h.w (f5.mono (fun a i z => by omega)) (rr_fr h.1 (fun i => f5 _ i (by omega))) p5 (JW_fr h.2.2.2.2.1 (f5 _ _ (by omega)) (fun _ => rfl))) (fM.tr (f5.mono (fun a i z => by omega)))
theorem R_sh2 (hd : 104 ≤ d) (hts : tsok ts) (hul : un.length ≤ 12) (hl60 : tx.length ≤ 60) (hB : B + 1300 < 2 ^ 20) (hN : N ≤ 60) (ha : AA tx N) (hNp : tx.length ≤ pos tx N) (fR : fr (fun a _ => a = 219) R0 R) : ∀ f k, tx.length - pos tx k ≤ f → k ≤ N → ∀ {gk : gr} {M : Nat → Nat → Int32} {ML : Nat → Nat → Int64}, gok gk (B + 20 * pos tx k) → IR gk un kp [] ts rw he sa M ML R → rr (M 226) g → AM tx N M → fr (fun a _ => 219 ≤ a ∧ a ≤ 245) M0 M → fr (fun a _ => 219 ≤ a ∧ a ≤ 245) L0 ML → H182_72 d (nI N) (nI k) M ML R (RK (nI (rns tx ts f (pos tx k) gk k).1) (rns tx ts f (pos tx k) gk k).2.1 (q_sfu un g (rns tx ts f (pos tx k) gk k)) kp [] ts (q_sfW (rns tx ts f (pos tx k) gk k)) he sa M0 L0 R0) := by
  obtain ⟨d, rfl⟩ : ∃ e, d = e + 1 := ⟨d - 1, by omega⟩
  have stop : ∀ k, tx.length ≤ pos tx k → k ≤ N → k = N := fun k h1 h2 => by
    apply Classical.byContradiction
    intro z
    have := (ha k (by omega)).1
    omega
  have fin : ∀ k, k ≤ N → tx.length ≤ pos tx k → ∀ {gk : gr} {M : Nat → Nat → Int32} {ML : Nat → Nat → Int64}, IR gk un kp [] ts rw he sa M ML R → rr (M 226) g → fr (fun a _ => 219 ≤ a ∧ a ≤ 245) M0 M → fr (fun a _ => 219 ≤ a ∧ a ≤ 245) L0 ML → H182_72 (d + 1) (nI N) (nI k) M ML R (RK (nI k) gk (q_sfu un g (k, gk, 0)) kp [] ts (q_sfW (k, gk, 0)) he sa M0 L0 R0) := fun k hk hp gk M ML h c6 fM fL => by
    have := stop k hp hk
    subst this
    exact h182_72 ⟨fun _ => R_shEnd (s := (k, gk, 0)) (by omega) (by dsimp only; omega) hN (Or.inl ⟨rfl, Nat.le_refl _⟩) hul h c6 fM fL fR, fun y => absurd ((nI_leI (by omega) (by omega)).mpr (Nat.le_refl _)) y⟩
  intro f
  induction f with
  | zero =>
    intro k hf hk gk M ML hg h c6 hm fM fL
    exact fin k hk (by omega) h c6 fM fL
  | succ f ih =>
    intro k hf hk gk M ML hg h c6 hm fM fL
    rw [rns]
    by_cases z : tx.length ≤ pos tx k
    · rw [if_pos z]
      exact fin k hk z h c6 fM fL
    · rw [if_neg z]
      have hkN : k < N := by
        apply Classical.byContradiction
        intro y
        have : k = N := by omega
        subst this
        exact z hNp
      obtain ⟨a1, a2, a3, a4⟩ := ha k hkN
      obtain ⟨m1, m2⟩ := hm k hkN
      have e2k : (2 : Int32) * nI k = nI (2 * k) := nI_mul 2 k
      refine h182_72 ⟨fun y => absurd ((nI_leI (by omega) (by omega)).mp y) (by omega), fun _ => ⟨2 * k, e2k, by omega, 2 * k + 1, by rw [e2k]; exact nI_1 _, by omega, ?_⟩⟩
      rw [m1]
      refine R_act2 (by omega) h hg (by omega) hts a2 a3 m2 (fun g2 e2 M1 L1 h1 f1 l1 => ?_) (fun e2 L1 h1 l1 => ?_)
      · rw [e2, nI_1]
        refine ⟨fun y => absurd y (by decide), fun _ => ?_⟩
        have hg2 := act_ok hg e2
        have h3 := alen_3 (cp tx (pos tx k))
        refine ih (k + 1) (by rw [pos]; omega) (by omega) (gok_up hg2 ?_) h1 (fun j hj => by rw [f1 226 j (by omega)]; exact c6 j hj) (fun j hj => by rw [f1 228 _ (by omega), f1 228 _ (by omega)]; exact hm j hj) (fM.tr (f1.mono (fun a i z => by omega))) (fL.tr (l1.mono (fun a i z => by omega)))
        rw [pos]
        show B + 20 * pos tx k + (if cp tx (pos tx k) = 110 then 60 else 1) ≤ _
        by_cases w : cp tx (pos tx k) = 110
        · rw [if_pos w, w]
          have : alen 110 = 3 := rfl
          omega
        · rw [if_neg w]
          omega
      · rw [e2]
        refine ⟨fun _ => ?_, fun y => absurd rfl y⟩
        exact R_shEnd (s := (k, gk, 1)) (by omega) (by dsimp only; omega) hN (Or.inr ⟨rfl, hkN⟩) hul h1 c6 fM (fL.tr (l1.mono (fun a i z => by omega))) fR
end shift4
