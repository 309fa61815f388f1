/-! joins of the reference -/
def enA (g : gr) (f : Nat → Nat × Nat × Nat) : Nat → gr
  | 0 => g
  | j + 1 => match g_lf (enA g f j) 8 0 with
    | none => enA g f j
    | some q => g_en (enA g f j) q (f j)
def AN (g : gr) (f : Nat → Nat × Nat × Nat) (N : Nat) : Prop := ∀ j, j < N → (∃ q, g_lf (enA g f j) 8 0 = some q) ∧ tkok (f j)
def TL (M : Nat → Nat → Int32) (f : Nat → Nat × Nat × Nat) (N : Nat) : Prop := ∀ j, j < N → M 224 (3 * j) = nI (f j).1 ∧ M 224 (3 * j + 1) = nI (f j).2.1 ∧ M 224 (3 * j + 2) = nI (f j).2.2
def jA (g : gr) (x : Sum Nat (Nat × gr)) : Int32 := match x with
  | .inl f => -1 - nI f
  | .inr x => if g_ws x.2 8 ≤ 27720 * g 40 then nI x.1 else -100
def jG (g : gr) (x : Sum Nat (Nat × gr)) : gr := match x with
  | .inl _ => g
  | .inr x => if g_ws x.2 8 ≤ 27720 * g 40 then x.2 else g
def jU (un : List gr) (g : gr) (x : Sum Nat (Nat × gr)) : List gr := match x with
  | .inl _ => un
  | .inr x => if g_ws x.2 8 ≤ 27720 * g 40 then push un g else un
section joins3
variable {d B b r bd p n N q : Nat} {g gk g' u : gr} {f f' : Nat → Nat × Nat × Nat} {t : Nat × Nat × Nat} {ts tx tx' t' : List Nat} {rw rw' : List Int64} {un un' : List gr} {kp kp' : Nat → Option gr} {he sa : List (Nat × Nat)} {M0 M M1 Ma : Nat → Nat → Int32} {L0 ML L1 : Nat → Nat → Int64} {R0 R R1 : Nat → Nat → Option Nat} {top : Nat} {wr x1 x2 x3 : Int32}
theorem enA_cg : ∀ n, (∀ j, j < n → f j = f' j) → enA g f n = enA g f' n := by
  intro n
  induction n with
  | zero => intro _; rfl
  | succ n ih =>
    intro h
    rw [enA, enA, ih (fun j hj => h j (by omega)), h n (by omega)]
theorem enA_s (e : g_lf (enA g f n) 8 0 = some q) : enA g f (n + 1) = g_en (enA g f n) q (f n) := by
  rw [enA, e]
theorem enA_40 : ∀ n, enA g f n 40 = g 40 := by
  intro n
  induction n with
  | zero => rfl
  | succ n ih =>
    rw [enA]
    cases e : g_lf (enA g f n) 8 0 with
    | none => exact ih
    | some q =>
      obtain ⟨q1, q2, q3⟩ := g_lf_some 8 0 q e
      dsimp only
      rw [g_en_n (by omega) (Or.inl (by omega))]
      exact ih
theorem enA_gpk (hg : gpk g B) : ∀ n, AN g f n → gpk (enA g f n) B := by
  intro n
  induction n with
  | zero => intro _; exact hg
  | succ n ih =>
    intro h
    obtain ⟨⟨q, e⟩, ht⟩ := h n (by omega)
    obtain ⟨q1, q2, q3⟩ := g_lf_some 8 0 q e
    rw [enA_s e]
    exact gpk_en (ih (fun j hj => h j (by omega))) (by omega) ht
theorem R_rgtF {K : wK} (hd : 3 ≤ d) (h : PS tx top p (-1) M R) (hl : tx.length ≤ 80) (hp : p < tx.length) (hK : K 0 (fm_u M 219 16 (nI p)) ML R) : wI d 160 [.ref 219] M ML R K := by
  obtain ⟨d, rfl⟩ : ∃ e, d = e + 1 := ⟨d - 1, by omega⟩
  refine w160 ?_
  rw [h.1, h.2.2.1]
  refine ⟨fun y => absurd ((nI_leI (by omega) (by omega)).mp y) (by omega), fun _ => R_fault (by omega) h (fun _ => R_fine (by omega) (PS_wr h) ?_) (fun y => absurd rfl y)⟩
  rw [if_neg (nI_nm1 (by omega))]
  exact ⟨Or.inl rfl, hK⟩
/-- use against PROCESSORS -/
theorem us_cmp {w v : Nat} (hw : w < 2 ^ 31) (hv : v ≤ 4) : lg_cmp (zN (uU w)) (zN (v * uL w)) ≤ 0 ↔ w ≤ 27720 * v := by
  obtain ⟨u1, u2, u3, u4⟩ := uL_bd w
  have bv : v * uL w ≤ 4 * 27720 := Nat.mul_le_mul hv u2
  rw [lg_le, Int64.le_iff_toInt_le, zN_toInt (by omega), zN_toInt (by omega)]
  have e1 : uU w ≤ v * uL w ↔ w * uL w ≤ 27720 * v * uL w := by
    rw [← u4, show 27720 * v * uL w = v * uL w * 27720 by rw [Nat.mul_assoc, Nat.mul_comm]]
    exact (Nat.mul_le_mul_right_iff (by decide)).symm
  have e2 : w * uL w ≤ 27720 * v * uL w ↔ w ≤ 27720 * v := Nat.mul_le_mul_right_iff u1
  constructor
  · intro y; exact e2.mp (e1.mp (by omega))
  · intro y; have := e1.mpr (e2.mpr y); omega
/-- the world aside is laid into now -/
theorem R_lay0 {K : wKv} (hd : 1 ≤ d) (ha : rr (M 226) gk) (hK : ∀ M1, rr (M1 220) gk → fr (fun a _ => a = 220) M M1 → K M1 ML R) : wV d 170 [.ref 226, .ref 220, .int 0] M ML R K := by
  refine wV_of (t_mlay fm_s226 fm_s220 (by decide) 0 (by decide) (by decide) (by decide) (by decide) M ML R) hd (hK _ (fun k hk => ?_) (fr_row (fun _ => rfl)))
  rw [fm_row_row, md_lay, if_pos (by omega)]
  exact ha k hk
theorem BR.ir (hI : IR g un kp [] ts rw he sa Ma ML R) (fM : fr (fun a _ => 219 ≤ a ∧ a ≤ 245) M0 Ma) (b : BR g ts rw Ma ML R M ML R) : IR g un kp [] ts rw he sa M ML R ∧ fr (fun a _ => 219 ≤ a ∧ a ≤ 245) M0 M := by
  obtain ⟨x1, x2, x3, x4, x5, x6⟩ := b
  exact ⟨hI.q x4 x3 fr.rfl, fM.tr (x4.mono (fun a i z => by omega))⟩
theorem R_jn2 (hd : 103 ≤ d) (hg : gok g B) (hul : un.length ≤ 12) (hN : N ≤ 8) (ha : AN g f N) (hI : IR g un kp [] ts rw he sa Ma ML R) (fM : fr (fun a _ => 219 ≤ a ∧ a ≤ 245) M0 Ma) (fL : fr (fun a _ => 219 ≤ a ∧ a ≤ 245) L0 ML) (fR : fr (fun a _ => a = 219) R0 R) : ∀ i j, j + i = N → ∀ {M : Nat → Nat → Int32}, BR g ts rw Ma ML R M ML R → TL M f N → rr (M 226) (enA g f j) → H163_112 d x1 (nI N) x3 (nI j) M ML R (RK (jA g (.inr (N, enA g f N))) (jG g (.inr (N, enA g f N))) (jU un g (.inr (N, enA g f N))) kp [] ts rw he sa M0 L0 R0) := by
  intro i
  induction i with
  | zero =>
    intro j hj M b hm c6
    have : j = N := by omega
    subst this
    have hk := enA_gpk hg.k j ha
    have h40 := enA_40 (g := g) (f := f) j
    have hws := ws_le hk 8 (by omega)
    have hP := hg.2.1
    obtain ⟨hi, F⟩ := BR.ir hI fM b
    refine h163_112 ⟨fun _ => R_layUseK fm_N226 (by omega) c6 hk (fun L1 l1 k9 k10 => ?_), fun y => absurd ((nI_leI (by omega) (by omega)).mpr (Nat.le_refl _)) y⟩
    have hi1 := hi.l l1
    have fL1 : fr (fun a _ => 219 ≤ a ∧ a ≤ 245) L0 L1 := fL.tr (l1.mono (fun a i z => by omega))
    rw [k9, k10, b.1 40 (by omega), nL_z (by omega), zN_mul]
    have cmp := us_cmp (w := g_ws (enA g f j) 8) (v := g 40) (by omega) hP
    unfold jA jG jU
    dsimp only
    refine ⟨fun y => ?_, fun y => ?_⟩
    · have y2 := cmp.mp y
      rw [if_pos y2, if_pos y2, if_pos y2]
      refine R_rem fm_N220 (by decide) (by omega) hul hi1.p hi1.1 (fun M2 p2 f2 => ?_)
      refine R_lay0 (by omega) (fun k hk => by rw [f2 226 k (by omega)]; exact c6 k hk) (fun M3 c3 f3 => ?_)
      have F3 : fr (fun a i => (a = 219 ∧ i = 19) ∨ a = 225 ∨ a = 220) M M3 := (f2.mono (fun a i z => by omega)).tr (f3.mono (fun a i z => by omega))
      exact ⟨rfl, hi1.w (F3.mono (fun a i z => by omega)) c3 (JP_fr p2 (fun a i y => f3 a i (by omega))) (JW_fr hi1.2.2.2.2.1 (F3 _ _ (by omega)) (fun _ => rfl)), F.tr (F3.mono (fun a i z => by omega)), fL1, fR⟩
    · have y2 : ¬ g_ws (enA g f j) 8 ≤ 27720 * g 40 := fun v => y (cmp.mpr v)
      rw [if_neg y2, if_neg y2, if_neg y2]
      exact ⟨rfl, hi1, F, fL1, fR⟩
  | succ i ih =>
    intro j hj M b hm c6
    obtain ⟨⟨q, e⟩, ht⟩ := ha j (by omega)
    obtain ⟨m0, m1, m2⟩ := hm j (by omega)
    refine h163_112 ⟨fun y => absurd ((nI_leI (by omega) (by omega)).mp y) (by omega), fun _ => ?_⟩
    refine R_enter (by omega) c6 (enA_gpk hg.k j (fun i hi => ha i (by omega))) (by omega) m0 m1 m2 (fun M1 c1 f1 => ?_) 8 0 (by omega) e
    refine ih (j + 1) (by omega) (b.f (f1.mono (fun a i z => by omega))) (fun i hi => ?_) (by rw [enA_s e]; exact c1)
    rw [f1 224 _ (by omega), f1 224 _ (by omega), f1 224 _ (by omega)]
    exact hm i hi
theorem R_jn1 (hd : 103 ≤ d) (hg : gok g B) (hul : un.length ≤ 12) (hl : tx.length ≤ 80) (hx : ∀ c ∈ tx, c < 256) (hb : bd = min tx.length 55) (hI : IR g un kp [] ts rw he sa Ma ML R) (fM : fr (fun a _ => 219 ≤ a ∧ a ≤ 245) M0 Ma) (fL : fr (fun a _ => 219 ≤ a ∧ a ≤ 245) L0 ML) (fR : fr (fun a _ => a = 219) R0 R) : ∀ m p n (f : Nat → Nat × Nat × Nat), n + m = 8 → p ≤ bd → AN g f n → nfr (enA g f n) 8 + n = nfr g 8 → ∀ {M : Nat → Nat → Int32}, BR g ts rw Ma ML R M ML R → PS tx 55 p (-1) M R → TL M f n → H163_38 d (nI (nfr g 8)) (nI n) 1 M ML R (RK (jA g (rdS tx bd m p (enA g f n) (n + 1))) (jG g (rdS tx bd m p (enA g f n) (n + 1))) (jU un g (rdS tx bd m p (enA g f n) (n + 1))) kp [] ts rw he sa M0 L0 R0) := by
  have h8 : nfr g 8 ≤ 8 := by have := nfr_bc (g := g); omega
  have bad : ∀ {x1 x2 : Int32} {e p : Nat} {M : Nat → Nat → Int32}, e ≤ 80 → BR g ts rw Ma ML R M ML R → PS tx 55 p (nI e) M R → H163_38 d x1 x2 0 M ML R (RK (jA g (.inl e)) (jG g (.inl e)) (jU un g (.inl e)) kp [] ts rw he sa M0 L0 R0) := fun {x1 x2 e p M} he80 b ps => by
    obtain ⟨i1, F1⟩ := BR.ir hI fM b
    refine h163_38 ⟨fun _ => R_wrong (by omega) ps (nI_nm1 (by omega)) ⟨fun y => absurd rfl y, fun _ => ?_⟩, fun y => absurd rfl y⟩
    rw [ps.2.2.2.1]
    exact ⟨rfl, i1, F1, fL, fR⟩
  have full : ∀ {n p : Nat} {M : Nat → Nat → Int32}, n = nfr g 8 → p ≤ 80 → BR g ts rw Ma ML R M ML R → PS tx 55 p (-1) M R → H163_38 d (nI (nfr g 8)) (nI n) 1 M ML R (RK (jA g (.inl p)) (jG g (.inl p)) (jU un g (.inl p)) kp [] ts rw he sa M0 L0 R0) := fun {n p M} hn hp b ps => by
    refine h163_38 ⟨fun y => absurd y (by decide), fun _ => R_fine (by omega) ps ?_⟩
    rw [if_pos rfl]
    refine ⟨fun y => absurd y (by decide), fun _ => ⟨fun y => absurd (by rw [hn]) y, fun _ => ?_⟩⟩
    rw [ps.2.2.1]
    refine R_fault (by omega) ps (fun _ => ?_) (fun y => absurd rfl y)
    have s2 := PS_wr (x := nI p) ps
    refine R_passN (by omega) s2 (nI_nm1 (by omega)) ?_
    exact bad hp (b.u (by omega)) s2
  intro m
  induction m with
  | zero =>
    intro p n f hn hp ha hf M b ps hm
    exact full (by omega) (by omega) b ps
  | succ m ih =>
    intro p n f hn hp ha hf M b ps hm
    rw [rdS]
    cases e : g_lf (enA g f n) 8 0 with
    | none =>
      dsimp only
      exact full (by have := nfr_0 e; omega) (by omega) b ps
    | some q =>
      obtain ⟨q1, q2, q3⟩ := g_lf_some 8 0 q e
      have hpos := nfr_1 (g := enA g f n) (show q < 8 by omega) q3
      have hle := rdL_le (tx := tx) hp
      dsimp only
      refine h163_38 ⟨fun y => absurd y (by decide), fun _ => R_fine (by omega) ps ?_⟩
      rw [if_pos rfl]
      refine ⟨fun y => absurd y (by decide), fun _ => ⟨fun _ => ?_, fun y => absurd ((nI_eq (by omega) (by omega)).mp y) (by omega)⟩⟩
      refine R_line (j := n) (by omega) hl (by omega) hp hx hb (by omega) ps (fun t et M1 s1 f1 v0 v1 v2 vl => ?_) (fun et q' M1 hq' s1 f1 => ?_)
      · rw [et]
        dsimp only
        obtain ⟨ht, hlt⟩ := rdL_ok hp et
        generalize (rdL tx bd p).2.1 = pe at *
        have b1 := b.f (f1.mono (fun a i z => by omega))
        -- the tasks read so far
        have hcg : ∀ j, j < n → f j = (fun j => if j = n then t else f j) j := fun j hj => by
          dsimp only
          rw [if_neg (by omega)]
        have ecg := enA_cg (g := g) n hcg
        have an : AN g (fun j => if j = n then t else f j) (n + 1) := fun j hj => by
          by_cases z : j = n
          · subst z
            rw [← ecg]
            dsimp only
            rw [if_pos rfl]
            exact ⟨⟨q, e⟩, ht⟩
          · rw [← enA_cg (g := g) (f := f) j (fun i hi => hcg i (by omega))]
            dsimp only
            rw [if_neg z]
            exact ha j (by omega)
        have en : enA g (fun j => if j = n then t else f j) (n + 1) = g_en (enA g f n) q t := by
          rw [enA_s (q := q) (by rw [← ecg]; exact e), ← ecg]
          rw [if_pos rfl]
        have tl : TL M1 (fun j => if j = n then t else f j) (n + 1) := fun j hj => by
          by_cases z : j = n
          · subst z
            dsimp only
            rw [if_pos rfl]
            exact ⟨v0, v1, v2⟩
          · dsimp only
            rw [if_neg z, vl _ (by omega), vl _ (by omega), vl _ (by omega)]
            exact hm j (by omega)
        have nf := nfr_en (g := enA g f n) (show q < 8 by omega) q3 ht 8 (by omega)
        rw [if_pos (show q < 8 by omega)] at nf
        rw [nI_1]
        generalize (fun j => if j = n then t else f j) = f2 at *
        rw [← en] at nf ⊢
        refine R_pass (c := 59) (by omega) hl (by omega) (by omega) hx (by decide) s1 (fun y1 y2 y3 => ?_) (fun y => ?_)
        · rw [if_pos (show pe < bd by omega), if_pos y3]
          exact ih (pe + 1) (n + 1) f2 (by omega) (by omega) an (by omega) (b1.u (by omega)) (PS_at s1) (fun j hj => by rw [fm_u_off (by decide)]; exact tl j hj)
        · have rf : ∀ {P : Sum Nat (Nat × gr)}, P = .inl pe → pe < tx.length → H163_38 d (nI (nfr g 8)) (nI (n + 1)) 0 M1 ML R (RK (jA g P) (jG g P) (jU un g P) kp [] ts rw he sa M0 L0 R0) := fun {P} eP hpe => by
            subst eP
            obtain ⟨i1, F1⟩ := BR.ir hI fM (b1.u (a := 219) (i := 16) (x := nI pe) (by omega))
            refine h163_38 ⟨fun _ => R_rgtF (by omega) s1 hl hpe ⟨fun y => absurd rfl y, fun _ => ?_⟩, fun y => absurd rfl y⟩
            rw [fm_u_at]
            exact ⟨rfl, i1, F1, fL, fR⟩
          by_cases z : pe < bd
          · rw [if_pos z, if_neg (fun v => y ⟨⟨by omega, by omega⟩, v⟩)]
            exact rf rfl (by omega)
          · rw [if_neg z]
            by_cases w : tx.length ≤ bd
            · rw [if_pos w]
              refine h163_38 ⟨fun _ => R_rgtP (by omega) s1 hl (by omega) (by omega) ⟨fun _ => ?_, fun y => absurd y (by decide)⟩, fun y => absurd rfl y⟩
              refine B_lay6 (by omega) b1 (fun M3 b3 c3 f3 => ?_)
              exact R_jn2 hd hg hul (by omega) an hI fM fL fR (n + 1) 0 (by omega) b3 (fun j hj => by rw [f3 224 _ (by omega), f3 224 _ (by omega), f3 224 _ (by omega)]; exact tl j hj) c3
            · rw [if_neg w]
              exact rf (by rw [show pe = bd by omega]) (by omega)
      · rw [et]
        dsimp only
        rw [nI_1]
        refine R_passN (by omega) s1 (nI_nm1 (by omega)) ?_
        exact bad (by omega) (b.f (f1.mono (fun a i z => by omega))) s1
theorem R_joins (hd : 103 ≤ d) (hul : un.length ≤ 12) (hl : tx.length ≤ 80) (hx : ∀ c ∈ tx, c < 256) (h : IR g un kp tx ts rw he sa M ML R) (hs : SO g un kp ts B) : wI (d + 1) 163 [.ref 219] M ML R (RK (q_jnA g tx) (q_jng g tx) (q_jnun un g tx) kp [] ts rw he sa M ML R) := by
  have h1 := h.t0
  refine w163 (fun M1 e1 => ?_)
  subst e1
  refine R_begin (t := 55) (by omega) h1 (fun M2 R2 h2 p2 f2 r2 => ?_)
  have F2 : fr (fun a _ => 219 ≤ a ∧ a ≤ 245) M M2 := t0_fr.tr (f2.mono (fun a i z => by omega))
  have r3 : fr (fun a _ => a = 219) R R2 := r2.mono (fun a i z => by omega)
  unfold q_jnA q_jng q_jnun
  rw [p2.1]
  by_cases z : tx.length = 0
  · rw [if_pos z, if_pos z, if_pos z]
    exact ⟨fun y => absurd (by rw [z]; rfl) y, fun _ => ⟨rfl, h2, F2, fr.rfl, r3⟩⟩
  · rw [if_neg z, if_neg z, if_neg z]
    refine ⟨fun _ => ?_, fun y => absurd y (nI_ne0 (by omega) (by omega))⟩
    refine R_tset fm_N220 (by omega) h2.1 hs.1 (R_bc (by omega) (g_ts_lt g) ?_)
    have hn := nfr_bc (g := g)
    rw [show (8 : Int32) - nI (bc (g_ts g)) = nI (nfr g 8) by rw [show (8 : Int32) - nI (bc (g_ts g)) = nI (8 - bc (g_ts g)) from nI_sub (a := 8) (by omega)]; congr 1; omega]
    exact R_jn1 (B := B) (bd := min tx.length 55) hd hs.1 hul hl hx rfl h2 F2 fr.rfl r3 8 0 0 (fun _ => (0, 0, 0)) (by omega) (by omega) (fun j hj => absurd hj (by omega)) (by rw [enA]; omega) h2.b p2 (fun j hj => absurd hj (by omega))
end joins3
