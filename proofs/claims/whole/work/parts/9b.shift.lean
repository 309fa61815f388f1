section shift5
variable {d B b r N : Nat} {g gk g' u : gr} {ts tx tx' t' : List Nat} {rw rw' : List Int64} {un un' : List gr} {kp kp' : Nat → Option gr} {he sa : List (Nat × Nat)} {M0 M M1 Ma : Nat → Nat → Int32} {L0 ML L1 : Nat → Nat → Int64} {R0 R R1 : Nat → Nat → Option Nat} {top p : Nat} {wr : Int32}
/-- wasRight -/
theorem R_rgtP {K : wK} (hd : 3 ≤ d) (h : PS tx top p (-1) M R) (hl : tx.length ≤ 80) (hp : p < 1000) (hlp : tx.length ≤ p) (hK : K 1 M ML R) : wI d 160 [.ref 219] M ML R K := by
  obtain ⟨d, rfl⟩ : ∃ e, d = e + 1 := ⟨d - 1, by omega⟩
  refine w160 ?_
  rw [h.1, h.2.2.1]
  refine ⟨fun _ => R_fine (by omega) h ?_, fun y => absurd ((nI_leI (by omega) (by omega)).mpr hlp) y⟩
  rw [if_pos rfl]
  exact ⟨Or.inr rfl, hK⟩
theorem R_wrong {K : wK} (hd : 3 ≤ d) (h : PS tx top p wr M R) (hw : ¬ wr = -1) (hK : K 0 M ML R) : wI d 160 [.ref 219] M ML R K := by
  obtain ⟨d, rfl⟩ : ∃ e, d = e + 1 := ⟨d - 1, by omega⟩
  refine w160 ⟨fun _ => R_fine (by omega) h ?_, fun _ => R_fault (by omega) h (fun y => absurd y hw) (fun _ => R_fine (by omega) h ?_)⟩
  · rw [if_neg hw]; exact ⟨Or.inl rfl, hK⟩
  · rw [if_neg hw]; exact ⟨Or.inl rfl, hK⟩
theorem B_lay6 {K : wKv} (hd : 1 ≤ d) (h : BR g ts rw M0 L0 R0 M ML R) (hK : ∀ M1, BR g ts rw M0 L0 R0 M1 ML R → rr (M1 226) g → fr (fun a _ => a = 226) M M1 → K M1 ML R) : wV d 170 [.ref 220, .ref 226, .int 0] M ML R K := by
  have f : fr (fun a _ => a = 226) M (fm_row M 226 (md_lay (M 220) (M 226) 0 43)) := fr_row (fun _ => rfl)
  refine wV_of (t_mlay fm_s220 fm_s226 (by decide) 0 (by decide) (by decide) (by decide) (by decide) M ML R) hd (hK _ (h.f (f.mono (fun a i z => by omega))) (fun k hk => ?_) f)
  rw [fm_row_row, md_lay, if_pos (by omega)]
  exact h.1 k hk
theorem R_shP (hd : 104 ≤ d) (hts : tsok ts) (hg : gok g B) (hul : un.length ≤ 12) (hl : tx.length ≤ 80) (hx : ∀ c ∈ tx, c < 256) (hB : B + 1300 < 2 ^ 20) (hI : IR g un kp [] ts rw he sa Ma ML R) (fM : fr (fun a _ => 219 ≤ a ∧ a ≤ 245) M0 Ma) (fL : fr (fun a _ => 219 ≤ a ∧ a ≤ 245) L0 ML) (fR : fr (fun a _ => a = 219) R0 R) : ∀ n k, tx.length - pos tx k ≤ n → k ≤ pos tx k → pos tx k ≤ min tx.length 60 → fbA tx = fbs tx (min tx.length 60) (min tx.length 60 - pos tx k) (pos tx k) 0 → AA tx k → ∀ {M : Nat → Nat → Int32}, BR g ts rw Ma ML R M ML R → PS tx 60 (pos tx k) (-1) M R → AM tx k M → H182_13 d (nI k) M ML R (RK (q_sfA g ts tx) (q_sfg g ts tx) (q_sfun un g ts tx) kp [] ts (q_sfrw rw g ts tx) he sa M0 L0 R0) := by
  have bi : ∀ {M : Nat → Nat → Int32}, BR g ts rw Ma ML R M ML R → IR g un kp [] ts rw he sa M ML R ∧ fr (fun a _ => 219 ≤ a ∧ a ≤ 245) M0 M := fun {M} b => by
    obtain ⟨x1, x2, x3, x4, x5, x6⟩ := b
    exact ⟨hI.q x4 x3 fr.rfl, fM.tr (x4.mono (fun a i z => by omega))⟩
  have fin : ∀ k, k ≤ pos tx k → pos tx k ≤ min tx.length 60 → tx.length ≤ pos tx k → fbA tx = fbs tx (min tx.length 60) (min tx.length 60 - pos tx k) (pos tx k) 0 → AA tx k → ∀ {M : Nat → Nat → Int32}, BR g ts rw Ma ML R M ML R → PS tx 60 (pos tx k) (-1) M R → AM tx k M → H182_13 d (nI k) M ML R (RK (q_sfA g ts tx) (q_sfg g ts tx) (q_sfun un g ts tx) kp [] ts (q_sfrw rw g ts tx) he sa M0 L0 R0) := fun k hk hp hlp hf ha {M} b ps am => by
    have e0 : fbA tx = none := by
      rw [hf, show min tx.length 60 - pos tx k = 0 by omega, fbs, if_neg (by omega)]
    unfold q_sfA q_sfg q_sfun q_sfrw
    rw [e0]
    dsimp only
    refine h182_13 (R_fine (by omega) ps ?_)
    rw [if_pos rfl]
    refine ⟨fun y => absurd y (by decide), fun _ => ⟨fun _ => ?_, fun y => absurd (by rw [ps.1, ps.2.2.1]; exact (nI_leI (by omega) (by omega)).mpr hlp) y⟩⟩
    refine R_rgtP (by omega) ps hl (by omega) hlp ⟨fun _ => ?_, fun y => absurd y (by decide)⟩
    refine B_lay6 (by omega) b (fun M3 b3 c3 f3 => ?_)
    obtain ⟨i3, F3⟩ := bi b3
    exact R_sh2 (B := B) (N := k) hd hts hul (by omega) hB (by omega) ha hlp fR 60 0 (by rw [pos]; omega) (by omega) (by rw [pos]; exact hg) i3 c3 (fun j hj => by rw [f3 228 _ (by omega), f3 228 _ (by omega)]; exact am j hj) F3 fL
  intro n
  induction n with
  | zero =>
    intro k hn hk hp hf ha M b ps am
    exact fin k hk hp (by omega) hf ha b ps am
  | succ n ih =>
    intro k hn hk hp hf ha M b ps am
    by_cases z : tx.length ≤ pos tx k
    · exact fin k hk hp z hf ha b ps am
    · have hpl : pos tx k < tx.length := by omega
      have e2k : (2 : Int32) * nI k = nI (2 * k) := nI_mul 2 k
      have hff := fa_fbs (tx := tx) (m := min tx.length 60) (p := pos tx k) rfl hpl hp
      obtain ⟨d, rfl⟩ : ∃ e, d = e + 1 := ⟨d - 1, by omega⟩
      refine h182_13 (R_fine (by omega) ps ?_)
      rw [if_pos rfl]
      refine ⟨fun y => absurd y (by decide), fun _ => ⟨fun y => absurd (by rw [ps.1, ps.2.2.1] at y; exact (nI_leI (by omega) (by omega)).mp y) z, fun _ => ?_⟩⟩
      rw [e2k, nI_1]
      refine R_readAct (by omega) hl hx hpl (by omega) (by omega) b ps (fun e1 M1 b1 s1 j1 l1 v1 => ?_) (fun f q e1 hq M1 b1 s1 => ?_)
      · rw [e1] at hff
        dsimp only at hff
        obtain ⟨n1, n2, n3, n4⟩ := fa_none hpl e1
        refine ih (k + 1) (by rw [pos]; omega) (by rw [pos]; omega) (by rw [pos]; omega) (by rw [pos, hf]; exact hff) (fun j hj => ?_) b1 (by rw [pos]; exact s1) (fun j hj => ?_)
        · by_cases e : j = k
          · subst e
            exact ⟨hpl, n2, n3, by rw [pos]; omega⟩
          · exact ha j (by omega)
        · by_cases e : j = k
          · subst e
            exact ⟨l1, v1⟩
          · rw [j1 _ (by omega), j1 _ (by omega)]
            exact am j (by omega)
      · rw [e1] at hff
        dsimp only at hff
        have e0 : fbA tx = some f := by rw [hf]; exact hff
        have hf60 := fbs_le _ _ _ _ (by omega) (show fbs tx (min tx.length 60) (min tx.length 60) 0 0 = some f from e0)
        have nm : ¬ nI f = -1 := nI_nm1 (by omega)
        unfold q_sfA q_sfg q_sfun q_sfrw
        rw [e0]
        dsimp only
        refine h182_13 (R_fine (by omega) s1 ?_)
        rw [if_neg nm]
        refine ⟨fun _ => R_wrong (by omega) s1 nm ⟨fun y => absurd rfl y, fun _ => ?_⟩, fun y => absurd rfl y⟩
        obtain ⟨i1, F1⟩ := bi b1
        rw [s1.2.2.2.1]
        exact ⟨rfl, i1, F1, fL, fR⟩
theorem fr_ur {S : Nat → Nat → Prop} {R : Nat → Nat → Option Nat} {a i : Nat} {x : Option Nat} (h : S a i) : fr S R (fm_ur R a i x) := fun c j z => by
  unfold fm_ur
  rw [if_neg (fun y => z (by obtain ⟨y1, y2⟩ := y; subst y1 y2; exact h))]
/-- beginText -/
theorem R_begin {K : wKv} {t : Nat} (hd : 2 ≤ d) (h : IR g un kp tx ts rw he sa M ML R) (hK : ∀ M1 R1, IR g un kp [] ts rw he sa M1 ML R1 → PS tx t 0 (-1) M1 R1 → fr (fun a i => a = 219 ∧ (i = 2 ∨ (13 ≤ i ∧ i ≤ 16))) M M1 → fr RR R R1 → K M1 ML R1) : wV d 154 [.ref 219, .int (nI t)] M ML R K := by
  obtain ⟨d, rfl⟩ : ∃ e, d = e + 1 := ⟨d - 1, by omega⟩
  obtain ⟨d, rfl⟩ : ∃ e, d = e + 1 := ⟨d - 1, by omega⟩
  refine w154 (w153 (fun R1 e1 M2 e2 M3 e3 M4 e4 M5 e5 M6 e6 => ?_))
  obtain ⟨h1, h2, h3, h4, h5, h6, h7⟩ := h
  have f6 : fr (fun a i => a = 219 ∧ (i = 2 ∨ (13 ≤ i ∧ i ≤ 16))) M M6 := by
    subst e6 e5 e4 e3 e2
    exact fr_u2 (fr_u2 (fr_u2 (fr_u2 (fr_u (by omega)) (by omega)) (by omega)) (by omega)) (by omega)
  have fR : fr RR R R1 := by subst e1; exact fr_ur ⟨rfl, rfl⟩
  have p : PS tx t 0 (-1) M6 R1 := by
    refine ⟨?_, ?_, ?_, ?_, ?_, fun j hj => ?_⟩
    · subst e6 e5 e4 e3 e2
      rw [fm_u_ix (by decide), fm_u_ix (by decide), fm_u_ix (by decide), fm_u_ix (by decide), fm_u_at]; exact h3.1
    · subst e6 e5 e4 e3
      rw [fm_u_ix (by decide), fm_u_ix (by decide), fm_u_ix (by decide), fm_u_at]
    · subst e6 e5 e4
      rw [fm_u_ix (by decide), fm_u_ix (by decide), fm_u_at]; rfl
    · subst e6 e5
      rw [fm_u_ix (by decide), fm_u_at]
    · subst e1
      unfold fm_ur
      rw [if_pos ⟨rfl, rfl⟩]
    · rw [f6 221 j (by omega)]; exact h3.2 j hj
  refine hK M6 R1 ⟨rr_fr h1 (fun i => f6 _ i (by omega)), JP_fr h2 (fun a i y => f6 a i (by omega)), ⟨by subst e6; rw [fm_u_at]; rfl, fun k hk => absurd hk (by simp)⟩, JT_fr h4 (fun a i y => f6 a i (by omega)) (fR _ _ (by omega)) (fR _ _ (by omega)), JW_fr h5 (f6 _ _ (by omega)) (fun _ => rfl), JH_fr h6 (fun a i y => f6 a i (by omega)), JS_fr h7 (fun a i y => f6 a i (by omega))⟩ p f6 fR
theorem R_shift (hd : 104 ≤ d) (hul : un.length ≤ 12) (hl : tx.length ≤ 80) (hx : ∀ c ∈ tx, c < 256) (h : IR g un kp tx ts rw he sa M ML R) (hs : SO g un kp ts B) (hB : B + 1300 < 2 ^ 20) : wI (d + 1) 182 [.ref 219] M ML R (RK (q_sfA g ts tx) (q_sfg g ts tx) (q_sfun un g ts tx) kp [] ts (q_sfrw rw g ts tx) he sa M ML R) := by
  have h1 := h.t0
  refine w182 (fun M1 e1 => ?_)
  subst e1
  refine R_begin (t := 60) (by omega) h1 (fun M2 R2 h2 p2 f2 r2 => ?_)
  exact R_shP hd hs.2.2.2 hs.1 hul hl hx hB h2 (t0_fr.tr (f2.mono (fun a i z => by omega))) fr.rfl (r2.mono (fun a i z => by omega)) tx.length 0 (by omega) (by rw [pos]; omega) (by rw [pos]; omega) (by rw [pos, Nat.sub_zero]; rfl) (fun j hj => absurd hj (by omega)) h2.b p2 (fun j hj => absurd hj (by omega))
end shift5
