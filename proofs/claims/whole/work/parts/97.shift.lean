section shift2
variable {d B b r : Nat} {g gk g' u : gr} {ts tx tx' t' : List Nat} {rw rw' : List Int64} {un un' : List gr} {kp kp' : Nat → Option gr} {he sa : List (Nat × Nat)} {M0 M M1 : Nat → Nat → Int32} {L0 ML L1 : Nat → Nat → Int64} {R0 R R1 : Nat → Nat → Option Nat}
def q_sfW (s : Nat × gr × Nat) : List Int64 := [nL s.2.2, nL (s.2.1 41)]
def q_sfu (un : List gr) (g : gr) (s : Nat × gr × Nat) : List gr := if s.1 = 0 then un else push un g
theorem C_shEnd {s : Nat × gr × Nat} (hd : 2 ≤ d) (hk : s.1 ≤ 60) (h : IC s.2.1 un kp tx ts rw he sa M ML R) (c12 : cr M 12 g) (fM : fr (fun a _ => a < 219) M0 M) (fL : fr (fun a _ => a < 219) L0 ML) : (wV d 21 [.ref 38] M ML R (fun M1 L1 R1 => ((nI s.1 ≤ 0 → (wV d 15 [.ref 44] M1 L1 R1 (fun M2 L2 R2 => (wV d 16 [.ref 44, .long ((nI s.2.2).toInt64)] M2 L2 R2 (fun M3 L3 R3 => (wV d 16 [.ref 44, .long (((M3 1 11)).toInt64)] M3 L3 R3 (fun M4 L4 R4 => CK (nI s.1) s.2.1 (q_sfu un g s) kp [] ts (q_sfW s) he sa M0 L0 R (nI s.1) M4 L4 R4))))))) ∧ (¬ nI s.1 ≤ 0 → (wV d 11 [.ref 34, .ref 12] M1 L1 R1 (fun M5 L5 R5 => (wV d 15 [.ref 44] M5 L5 R5 (fun M6 L6 R6 => (wV d 16 [.ref 44, .long ((nI s.2.2).toInt64)] M6 L6 R6 (fun M7 L7 R7 => (wV d 16 [.ref 44, .long (((M7 1 11)).toInt64)] M7 L7 R7 (fun M8 L8 R8 => CK (nI s.1) s.2.1 (q_sfu un g s) kp [] ts (q_sfW s) he sa M0 L0 R (nI s.1) M8 L8 R8)))))))))))) := by
  have tail : ∀ (M1 : Nat → Nat → Int32) (ML : Nat → Nat → Int64), IC s.2.1 (q_sfu un g s) kp [] ts rw he sa M1 ML R → fr (fun a _ => a < 219) M0 M1 → fr (fun a _ => a < 219) L0 ML → wV d 15 [.ref 44] M1 ML R (fun M2 L2 R2 => (wV d 16 [.ref 44, .long ((nI s.2.2).toInt64)] M2 L2 R2 (fun M3 L3 R3 => (wV d 16 [.ref 44, .long (((M3 1 11)).toInt64)] M3 L3 R3 (fun M4 L4 R4 => CK (nI s.1) s.2.1 (q_sfu un g s) kp [] ts (q_sfW s) he sa M0 L0 R (nI s.1) M4 L4 R4))))) := fun M1 ML h1 f1 l1 => by
    refine B_clear (by omega) h1.b (fun M2 b2 f2 => ?_)
    refine B_add (by omega) b2 (by decide) _ (fun M3 L3 b3 f3 _ => ?_)
    refine B_add (by omega) b3 (by simp) _ (fun M4 L4 b4 f4 _ => ?_)
    rw [b3.1.2.1] at b4
    obtain ⟨x1, x2, x3, x4, x5⟩ := b4
    exact ⟨rfl, h1.q x4 x3, f1.tr (x4.mono (fun a i z => by omega)), l1.tr (x5.mono (fun a i z => by omega)), rfl⟩
  refine C_xclear (by omega) h (fun M1 h1 f1 => ?_)
  have F1 : fr (fun a _ => a < 219) M0 M1 := fM.tr (f1.mono (fun a i z => by omega))
  refine ⟨fun z => ?_, fun z => ?_⟩
  · have e : s.1 = 0 := by have := (nI_leI (b := 0) (by omega) (by decide)).mp z; omega
    have hu : q_sfu un g s = un := by unfold q_sfu; rw [if_pos e]
    have := tail M1 ML
    rw [hu] at this ⊢
    exact this h1 F1 fL
  · have e : ¬ s.1 = 0 := fun y => z (by rw [y]; decide)
    have hu : q_sfu un g s = push un g := by unfold q_sfu; rw [if_neg e]
    refine C_rem hd fm_W12 (by omega) h1.1 h1.p (cr_fr c12 (fun a i y1 y2 _ => f1 a i (by omega))) (fun M5 p5 f5 => ?_)
    have h5 : IC s.2.1 (push un g) kp [] ts rw he sa M5 ML R := h1.w0 (f5.mono (fun a i z => by omega)) (fun i => f5 _ i (by omega)) (cr_fr h1.2.1 (fun a i y1 y2 _ => f5 a i (by omega))) p5
    have := tail M5 ML
    rw [hu] at this ⊢
    exact this h5 (F1.tr (f5.mono (fun a i z => by omega))) fL
theorem C_sh3 {s : Nat × gr × Nat} {x1 : Int32} {p j : Nat} (hd : 2 ≤ d) (hk : s.1 ≤ 60) (hs : s.2.2 = 1 ∨ tx.length ≤ p) (hp : p ≤ 80) (hj : j ≤ 80) (h : IC s.2.1 un kp tx ts rw he sa M ML R) (c12 : cr M 12 g) (fM : fr (fun a _ => a < 219) M0 M) (fL : fr (fun a _ => a < 219) L0 ML) : H88_45 d x1 (nI s.1) (nI s.2.2) (nI p) (nI j) M ML R (CK (nI s.1) s.2.1 (q_sfu un g s) kp [] ts (q_sfW s) he sa M0 L0 R) := by
  have E := C_shEnd hd hk h c12 fM fL
  have hl := h.xl.1
  refine h88_45 ⟨fun _ => E, fun _ => ⟨fun _ => E, fun z => ⟨fun _ => E, fun y => ?_⟩⟩⟩
  exfalso
  rcases hs with w | w
  · rw [w] at y; exact absurd y (by decide)
  · exact z (by rw [h.2.2.2.1.2.2.1]; exact (nI_leI (by omega) (by omega)).mpr w)
theorem C_sh2 {x1 : Int32} (hd : 7 ≤ d) (hts : tsok ts) (hl60 : tx.length ≤ 60) (hB : B + 1300 < 2 ^ 20) : ∀ f p k, tx.length - p ≤ f → k ≤ p → p ≤ tx.length → ∀ {gk : gr} {M : Nat → Nat → Int32}, fbs tx tx.length (tx.length - p) p 0 = none → gok gk (B + 20 * p) → IC gk un kp tx ts rw he sa M ML R → cr M 12 g → fr (fun a _ => a < 219) M0 M → fr (fun a _ => a < 219) L0 ML → H88_45 d x1 (nI k) 0 (nI p) (nI k) M ML R (CK (nI (rns tx ts f p gk k).1) (rns tx ts f p gk k).2.1 (q_sfu un g (rns tx ts f p gk k)) kp [] ts (q_sfW (rns tx ts f p gk k)) he sa M0 L0 R) := by
  obtain ⟨d, rfl⟩ : ∃ e, d = e + 1 := ⟨d - 1, by omega⟩
  intro f
  induction f with
  | zero =>
    intro p k hf hk hp gk M hfb hg h c12 fM fL
    exact C_sh3 (s := (k, gk, 0)) (by omega) (by dsimp only; omega) (Or.inr (by omega)) (by omega) (by omega) h c12 fM fL
  | succ f ih =>
    intro p k hf hk hp gk M hfb hg h c12 fM fL
    rw [rns]
    by_cases z : tx.length ≤ p
    · rw [if_pos z]
      exact C_sh3 (s := (k, gk, 0)) (by omega) (by dsimp only; omega) (Or.inr z) (by omega) (by omega) h c12 fM fL
    · rw [if_neg z]
      obtain ⟨n, en⟩ : ∃ n, tx.length - p = n + 1 := ⟨tx.length - p - 1, by omega⟩
      rw [en] at hfb
      obtain ⟨o1, o2, o3, o4⟩ := fbs_ok (Nat.le_refl _) (by omega) hfb
      have h3 := alen_3 (cp tx p)
      refine h88_45 ⟨fun y => absurd ((nI_leI (a := 60) (by decide) (by omega)).mp y) (by omega), fun _ => ⟨fun y => ?_, fun _ => ⟨fun y => absurd rfl y, fun _ => ?_⟩⟩⟩
      · rw [h.2.2.2.1.2.2.1] at y
        exact absurd ((nI_leI (by omega) (by omega)).mp y) z
      · refine C_act (by omega) h hg (by omega) hts (by omega) o1 o2 o3 (fun g2 e2 v M1 hv h1 f1 => ?_) (fun e2 v hv => ?_)
        · rw [e2]
          refine ⟨fun _ => ?_, fun y => absurd hv y⟩
          refine wI_of (t_actLength (M1, ML, R) ⟨tx.length, h.xl.1, h1.2.2.2.1.2.2.1⟩ (nI p)) (by omega) ?_
          dsimp only
          rw [c_alen h1.2.2.2.1 (by omega), nI_add, nI_1]
          have hg2 := act_ok hg e2
          refine ih (p + alen (cp tx p)) (k + 1) (by omega) (by omega) o2 o4 (gok_up hg2 ?_) h1 (cr_fr c12 (fun a i y1 y2 _ => f1 a i (by omega))) (fM.tr (f1.mono (fun a i z => by omega))) fL
          show B + 20 * p + (if cp tx p = 110 then 60 else 1) ≤ _
          by_cases w : cp tx p = 110
          · rw [if_pos w, w]
            have : alen 110 = 3 := rfl
            omega
          · rw [if_neg w]
            omega
        · rw [e2]
          refine ⟨fun y => absurd y hv, fun _ => ?_⟩
          rw [nI_1]
          exact C_sh3 (s := (k, gk, 1)) (by omega) (by dsimp only; omega) (Or.inl rfl) (by omega) (by omega) h c12 fM fL
theorem fbA_60 {tx : List Nat} (h : fbA tx = none) : tx.length ≤ 60 := by
  apply Classical.byContradiction
  intro z
  have key : ∀ n p mi, fbs tx 60 n p mi = none → False := fun n => by
    induction n with
    | zero => intro p mi h; rw [fbs, if_pos (by omega)] at h; cases h
    | succ n ih =>
      intro p mi h
      rw [fbs] at h
      split at h
      · split at h
        · cases h
        · exact ih _ _ h
      · split at h
        · exact ih _ _ h
        · cases h
  unfold fbA at h
  rw [Nat.min_eq_right (by omega)] at h
  exact key _ _ _ h
def q_sfA (g : gr) (ts tx : List Nat) : Int32 := match fbA tx with
  | none => nI (rns tx ts 60 0 g 0).1
  | some f => -1 - nI f
def q_sfg (g : gr) (ts tx : List Nat) : gr := match fbA tx with
  | none => (rns tx ts 60 0 g 0).2.1
  | some _ => g
def q_sfun (un : List gr) (g : gr) (ts tx : List Nat) : List gr := match fbA tx with
  | none => q_sfu un g (rns tx ts 60 0 g 0)
  | some _ => un
def q_sfrw (rw : List Int64) (g : gr) (ts tx : List Nat) : List Int64 := match fbA tx with
  | none => q_sfW (rns tx ts 60 0 g 0)
  | some _ => rw
theorem fbs_le {tx : List Nat} {m : Nat} : ∀ n p mi f, p + n = m → fbs tx m n p mi = some f → f ≤ m := by
  intro n
  induction n with
  | zero =>
    intro p mi f hp h
    rw [fbs] at h
    split at h
    · cases h; exact Nat.le_refl _
    · cases h
  | succ n ih =>
    intro p mi f hp h
    rw [fbs] at h
    split at h
    · split at h
      · cases h; omega
      · exact ih _ _ f (by omega) h
    · split at h
      · exact ih _ _ f (by omega) h
      · cases h; omega
theorem C_shift (hd : 7 ≤ d) (h : IC g un kp tx ts rw he sa M ML R) (hs : SO g un kp ts B) (hB : B + 1300 < 2 ^ 20) : wI (d + 1) 88 [.ref 0] M ML R (CK (q_sfA g ts tx) (q_sfg g ts tx) (q_sfun un g ts tx) kp [] ts (q_sfrw rw g ts tx) he sa M ML R) := by
  have hX := h.2.2.2.1
  refine w88 (wI_of (t_firstBadAct (M, ML, R) tx.length h.xl.1 hX.2.2.1) (by omega) ?_)
  dsimp only
  have ef := c_fb hX rfl (min tx.length 60) 0 0 (by omega) (by omega)
  rw [show nI 0 = 0 from nI_0] at ef
  rw [ef]
  unfold q_sfA q_sfg q_sfun q_sfrw
  show (_ ∧ _)
  cases e : fbA tx with
  | none =>
    have e' : fbs tx (min tx.length 60) (min tx.length 60) 0 0 = none := e
    have hl := fbA_60 e
    rw [e']
    dsimp only
    refine ⟨fun _ => ?_, fun y => absurd rfl y⟩
    refine C_before (by omega) h (fun M1 h1 c1 f1 => ?_)
    rw [Nat.min_eq_left hl] at e'
    exact C_sh2 hd hs.2.2.2 hl hB 60 0 0 (by omega) (by omega) (by omega) (by rw [Nat.sub_zero]; exact e') hs.1 h1 c1 (f1.mono (fun a i z => by omega)) fr.rfl
  | some f =>
    have e' : fbs tx (min tx.length 60) (min tx.length 60) 0 0 = some f := e
    have hf := fbs_le _ _ _ _ (by omega) e'
    rw [e']
    dsimp only
    refine ⟨fun y => absurd y (nI_nm1 (by omega)), fun _ => ?_⟩
    refine C_xclear (by omega) h (fun M1 h1 f1 => ?_)
    exact ⟨rfl, h1, f1.mono (fun a i z => by omega), fr.rfl, rfl⟩
end shift2
