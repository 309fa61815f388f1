section joins2
variable {d B b r bd p n : Nat} {g gk g' u : gr} {ts tx tx' t' : List Nat} {rw rw' : List Int64} {un un' : List gr} {kp kp' : Nat → Option gr} {he sa : List (Nat × Nat)} {M0 M M1 : Nat → Nat → Int32} {L0 ML L1 : Nat → Nat → Int64} {R0 R R1 : Nat → Nat → Option Nat}
def q_jn (g : gr) (tx : List Nat) : Sum Nat (Nat × gr) := rdS tx (min tx.length 55) 8 0 g 1
def q_jnA (g : gr) (tx : List Nat) : Int32 := if tx.length = 0 then 0 else (match q_jn g tx with
  | .inl f => -1 - nI f
  | .inr x => if g_ws x.2 8 ≤ 27720 * g 40 then nI x.1 else -100)
def q_jng (g : gr) (tx : List Nat) : gr := if tx.length = 0 then g else (match q_jn g tx with
  | .inl _ => g
  | .inr x => if g_ws x.2 8 ≤ 27720 * g 40 then x.2 else g)
def q_jnun (un : List gr) (g : gr) (tx : List Nat) : List gr := if tx.length = 0 then un else (match q_jn g tx with
  | .inl _ => un
  | .inr x => if g_ws x.2 8 ≤ 27720 * g 40 then push un g else un)
theorem rdS_40 : ∀ m p k (gk : gr) x, rdS tx bd m p gk k = .inr x → x.2 40 = gk 40 := by
  intro m
  induction m with
  | zero => intro p k gk x h; rw [rdS] at h; cases h
  | succ m ih =>
    intro p k gk x h
    rw [rdS] at h
    cases e : g_lf gk 8 0 with
    | none => rw [e] at h; cases h
    | some q =>
      obtain ⟨q1, q2, q3⟩ := g_lf_some 8 0 q e
      rw [e] at h
      dsimp only at h
      have e40 : ∀ t, g_en gk q t 40 = gk 40 := fun t => g_en_n (by omega) (Or.inl (by omega))
      cases e2 : (rdL tx bd p).2.2 with
      | none => rw [e2] at h; cases h
      | some t =>
        rw [e2] at h
        dsimp only at h
        split at h
        · split at h
          · rw [ih _ _ _ _ h, e40]
          · cases h
        · split at h
          · cases h; exact e40 t
          · cases h
theorem ws_le (h : gpk g B) : ∀ n, n ≤ 8 → g_ws g n ≤ n * 27720 := by
  intro n
  induction n with
  | zero => intro _; exact Nat.le_refl _
  | succ n ih =>
    intro hn
    have i := ih (by omega)
    have w : g_wt g n ≤ 27720 := by
      unfold g_wt
      rcases h.2.2.2.2 n (by omega) with z | z
      · rw [z.1]; omega
      · have := z.2.1
        exact Nat.le_trans (Nat.mul_le_mul_right _ this) (Nat.mul_div_le 27720 (g (8 + n)))
    rw [g_ws]
    omega
theorem nn_f {f : Nat} (h : f ≤ 80) : ¬ (0 : Int32) < -1 - nI f := by
  have : ∀ f, f < 81 → ¬ (0 : Int32) < -1 - nI f := by decide +kernel
  exact this f (by omega)
theorem C_joins (hd : 7 ≤ d) (h : IC g un kp tx ts rw he sa M ML R) (hs : SO g un kp ts B) (hB : B < 2 ^ 20) : wI (d + 1) 76 [.ref 0] M ML R (CK (q_jnA g tx) (q_jng g tx) (q_jnun un g tx) kp [] ts rw he sa M ML R) := by
  have hX := h.2.2.2.1
  have hxl := h.xl
  refine w76 (C_copy fm_W23 fm_W1 (by omega) (by omega) h.2.1 (fun M1 c1 g1 _ => ?_))
  have f1 : fr (fun a i => 23 ≤ a ∧ a ≤ 33) M M1 := fun a i z => by rw [g1 a (by omega)]
  have s1 : M1 38 1 = nI tx.length := by rw [f1 38 1 (by omega)]; exact hX.2.2.1
  refine wI_of (t_readLines fm_W23 (by decide) M1 ML R tx.length hxl.1 s1) (by omega) ?_
  have t39 : ∀ k, k < tx.length → M1 39 k = nI (cp tx k) := fun k hk => by rw [f1 39 k (by omega)]; exact hX.2.2.2 k hk
  -- after the reading
  have go : ∀ (M2 : Nat → Nat → Int32), fr (fun a i => (23 ≤ a ∧ a ≤ 33) ∨ (a = 38 ∧ 2 ≤ i)) M1 M2 → IC g un kp tx ts rw he sa M2 ML R ∧ fr (fun a _ => a < 219) M M2 := fun M2 f2 => by
    have F : fr (fun a i => (23 ≤ a ∧ a ≤ 33) ∨ (a = 38 ∧ 2 ≤ i)) M M2 := (f1.mono (fun a i z => Or.inl z)).tr f2
    exact ⟨h.q (F.mono (fun a i z => by omega)) (IW_fr h.2.2.2.2.2.1 (fun i => F 44 i (by omega)) (fun _ => rfl)), F.mono (fun a i z => by omega)⟩
  unfold rls0A rls0M q_jnA q_jng q_jnun
  rw [s1]
  by_cases z : tx.length = 0
  · rw [if_neg (show ¬ ¬ nI tx.length = 0 by rw [z]; exact fun v => v rfl), if_neg (show ¬ ¬ nI tx.length = 0 by rw [z]; exact fun v => v rfl), if_pos z, if_pos z, if_pos z]
    obtain ⟨i1, F1⟩ := go M1 fr.rfl
    refine C_xclear (by omega) i1 (fun M3 h3 f3 => ⟨fun y => absurd y (by decide), fun _ => ?_⟩)
    exact ⟨rfl, h3, F1.tr (f3.mono (fun a i z => by omega)), fr.rfl, rfl⟩
  · rw [if_pos (nI_ne0 (by omega) (by omega)), if_pos (nI_ne0 (by omega) (by omega)), if_neg z, if_neg z, if_neg z]
    have f0 : fr (fun a i => (23 ≤ a ∧ a ≤ 33) ∨ (a = 38 ∧ 2 ≤ i)) M1 (fm_u (fm_u M1 38 2 0) 38 3 (nI (min tx.length 55))) := fr_u2 (fr_u (by omega)) (by omega)
    obtain ⟨k1, k2⟩ := c_rls (B := B) (bd := min tx.length 55) hxl.1 hxl.2 (by omega) (by omega) 8 0 1 g (fm_u (fm_u M1 38 2 0) 38 3 (nI (min tx.length 55))) (by omega) (by omega) (by omega) (cr_fr c1 (fun a i y1 y2 _ => by rw [fm_u_off (by omega), fm_u_off (by omega)])) hs.1.k (fun k hk => by rw [f0 39 k (by omega)]; exact t39 k hk)
    rw [show nI 1 = 1 from rfl] at k1 k2
    have f2 := f0.tr (k1.mono (T := fun a i => (23 ≤ a ∧ a ≤ 33) ∨ (a = 38 ∧ 2 ≤ i)) (fun a i z => by omega))
    generalize rls 23 (min tx.length 55) tx.length 8 1 0 (fm_u (fm_u M1 38 2 0) 38 3 (nI (min tx.length 55))) = res at *
    obtain ⟨i2, F2⟩ := go res.2 f2
    unfold q_jn
    cases e : rdS tx (min tx.length 55) 8 0 g 1 with
    | inl f =>
      rw [e] at k2
      dsimp only at k2 ⊢
      rw [k2.1]
      refine C_xclear (by omega) i2 (fun M3 h3 f3 => ⟨fun y => absurd y ?_, fun _ => ?_⟩)
      · exact nn_f k2.2
      · exact ⟨rfl, h3, F2.tr (f3.mono (fun a i z => by omega)), fr.rfl, rfl⟩
    | inr x =>
      rw [e] at k2
      dsimp only at k2 ⊢
      obtain ⟨a1, a2, a3, a4, a5⟩ := k2
      have x40 := rdS_40 _ _ _ _ _ e
      have hw := ws_le a5 8 (by omega)
      have hP := hs.1.2.1
      rw [a1]
      refine C_xclear (by omega) i2 (fun M3 h3 f3 => ⟨fun _ => ?_, fun y => absurd (nI_pos1 a2 (by omega)) y⟩)
      have c3 : cr M3 23 x.2 := cr_fr a4 (fun a i y1 y2 _ => f3 a i (by omega))
      have F3 := F2.tr (f3.mono (T := fun a _ => a < 219) (fun a i z => by omega))
      refine C_ws fm_W23 (by omega) c3 ?_
      rw [c3.1, x40, show nI (g 40) * 27720 = nI (27720 * g 40) by rw [Int32.mul_comm]; exact nI_mul 27720 _]
      refine ⟨fun y => ?_, fun y => ?_⟩
      · have y2 : g_ws x.2 8 ≤ 27720 * g 40 := (nI_leI (by omega) (by omega)).mp y
        rw [if_pos y2, if_pos y2, if_pos y2]
        refine C_rem (by omega) fm_W1 (by omega) h3.1 h3.p h3.2.1 (fun M5 p5 f5 => ?_)
        refine C_copy fm_W1 fm_W23 (by omega) (by omega) (cr_fr c3 (fun a i y1 y2 _ => f5 a i (by omega))) (fun M6 c6 g6 _ => ?_)
        have f6 : fr (fun a i => 1 ≤ a ∧ a ≤ 11) M5 M6 := fun a i z => by rw [g6 a (by omega)]
        have F36 : fr (fun a i => (1 ≤ a ∧ a ≤ 11) ∨ a = 34 ∨ (65 ≤ a ∧ a ≤ 196)) M3 M6 := (f5.mono (fun a i z => by omega)).tr (f6.mono (fun a i z => by omega))
        exact ⟨rfl, h3.w0 (F36.mono (fun a i z => by omega)) (fun i => F36 _ i (by omega)) c6 (IP_fr p5 (fun a i y => f6 a i (by omega))), F3.tr (F36.mono (fun a i z => by omega)), fr.rfl, rfl⟩
      · have y2 : ¬ g_ws x.2 8 ≤ 27720 * g 40 := fun v => y ((nI_leI (by omega) (by omega)).mpr v)
        rw [if_neg y2, if_neg y2, if_neg y2]
        exact ⟨rfl, h3, F3, fr.rfl, rfl⟩
end joins2
