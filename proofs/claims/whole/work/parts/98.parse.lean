/-! the reference reads THE TEXT -/
def PS (tx : List Nat) (top at_ : Nat) (wr : Int32) (M : Nat → Nat → Int32) (R : Nat → Nat → Option Nat) : Prop := M 219 13 = nI tx.length ∧ M 219 14 = nI top ∧ M 219 15 = nI at_ ∧ M 219 16 = wr ∧ R 219 12 = some 221 ∧ ∀ j, j < tx.length → M 221 j = by8 (cp tx j)
theorem PS_fr {tx : List Nat} {top at_ : Nat} {wr : Int32} {M M1 : Nat → Nat → Int32} {R : Nat → Nat → Option Nat} (h : PS tx top at_ wr M R) (f : ∀ a i, (a = 219 ∧ 13 ≤ i ∧ i ≤ 16) ∨ a = 221 → M1 a i = M a i) : PS tx top at_ wr M1 R := by
  obtain ⟨h1, h2, h3, h4, h5, h6⟩ := h
  exact ⟨by rw [f _ _ (by omega)]; exact h1, by rw [f _ _ (by omega)]; exact h2, by rw [f _ _ (by omega)]; exact h3, by rw [f _ _ (by omega)]; exact h4, h5, fun j hj => by rw [f _ _ (by omega)]; exact h6 j hj⟩
theorem PS_at {tx : List Nat} {top at_ n : Nat} {wr : Int32} {M : Nat → Nat → Int32} {R : Nat → Nat → Option Nat} (h : PS tx top at_ wr M R) : PS tx top n wr (fm_u M 219 15 (nI n)) R := by
  obtain ⟨h1, h2, h3, h4, h5, h6⟩ := h
  exact ⟨by rw [fm_u_ix (by decide)]; exact h1, by rw [fm_u_ix (by decide)]; exact h2, fm_u_at, by rw [fm_u_ix (by decide)]; exact h4, h5, fun j hj => by rw [fm_u_off (by decide)]; exact h6 j hj⟩
theorem PS_wr {tx : List Nat} {top at_ : Nat} {wr x : Int32} {M : Nat → Nat → Int32} {R : Nat → Nat → Option Nat} (h : PS tx top at_ wr M R) : PS tx top at_ x (fm_u M 219 16 x) R := by
  obtain ⟨h1, h2, h3, h4, h5, h6⟩ := h
  exact ⟨by rw [fm_u_ix (by decide)]; exact h1, by rw [fm_u_ix (by decide)]; exact h2, by rw [fm_u_ix (by decide)]; exact h3, fm_u_at, h5, fun j hj => by rw [fm_u_off (by decide)]; exact h6 j hj⟩
/-- the sign that is read next -/
def hr (tx : List Nat) (top p : Nat) : Int32 := if p < tx.length ∧ p < top then nI (cp tx p) else -1
section parse
variable {d B b r : Nat} {g gk g' u : gr} {ts tx tx' t' : List Nat} {rw rw' : List Int64} {un un' : List gr} {kp kp' : Nat → Option gr} {he sa : List (Nat × Nat)} {M0 M M1 : Nat → Nat → Int32} {L0 ML L1 : Nat → Nat → Int64} {R0 R R1 : Nat → Nat → Option Nat} {top p : Nat} {wr : Int32}
theorem R_here {K : wK} (hd : 1 ≤ d) (hl : tx.length ≤ 80) (ht : top < 1000) (hp : p < 1000) (hx : ∀ c ∈ tx, c < 256) (h : PS tx top p wr M R) (hK : K (hr tx top p) M ML R) : wI d 155 [.ref 219] M ML R K := by
  obtain ⟨d, rfl⟩ : ∃ e, d = e + 1 := ⟨d - 1, by omega⟩
  obtain ⟨h1, h2, h3, h4, h5, h6⟩ := h
  refine w155 ?_
  rw [h1, h2, h3]
  unfold hr at hK
  refine ⟨fun z => ?_, fun z => ⟨fun y => ?_, fun y => ?_⟩⟩
  · rw [if_neg (fun w => absurd ((nI_leI (by omega) (by omega)).mp z) (by omega))] at hK; exact hK
  · rw [if_neg (fun w => absurd ((nI_leI (by omega) (by omega)).mp y) (by omega))] at hK; exact hK
  · have z2 : p < tx.length := Nat.lt_of_not_le (fun w => z ((nI_leI (by omega) (by omega)).mpr w))
    have y2 : p < top := Nat.lt_of_not_le (fun w => y ((nI_leI (by omega) (by omega)).mpr w))
    rw [if_pos ⟨z2, y2⟩] at hK
    refine ⟨h5, p, rfl, by omega, ?_⟩
    rw [h6 p z2, by8_255 _ (cp_lt hx z2)]
    exact hK
theorem R_fine {K : wK} (hd : 1 ≤ d) (h : PS tx top p wr M R) (hK : K (if wr = -1 then 1 else 0) M ML R) : wI d 156 [.ref 219] M ML R K := by
  obtain ⟨d, rfl⟩ : ∃ e, d = e + 1 := ⟨d - 1, by omega⟩
  refine w156 ?_
  rw [h.2.2.2.1]
  refine ⟨fun z => ?_, fun z => ?_⟩
  · rw [if_neg z] at hK; exact hK
  · rw [if_pos z] at hK; exact hK
theorem R_fault {K : wKv} {a : Int32} (hd : 2 ≤ d) (h : PS tx top p wr M R) (h1 : wr = -1 → K (fm_u M 219 16 a) ML R) (h0 : ¬ wr = -1 → K M ML R) : wV d 157 [.ref 219, .int a] M ML R K := by
  obtain ⟨d, rfl⟩ : ∃ e, d = e + 1 := ⟨d - 1, by omega⟩
  refine w157 (R_fine (by omega) h ?_)
  by_cases z : wr = -1
  · rw [if_pos z]
    exact ⟨fun y => absurd y (by decide), fun _ M2 e2 => by subst e2; exact h1 z⟩
  · rw [if_neg z]
    exact ⟨fun _ => h0 z, fun y => absurd rfl y⟩
theorem in_d : ∀ c, c < 256 → md_in (nI c) 48 (48 + 10 - 1) = if isd c = true then 1 else 0 := by decide +kernel
theorem dg_b : ∀ c, c < 256 → isd c = true → by8 c - 48 = nI (c - 48) := by decide +kernel
/-- a digit at p, or a fault -/
theorem R_digit {K : wK} (hd : 3 ≤ d) (hl : tx.length ≤ 80) (ht : top < 1000) (hp : p < 1000) (hx : ∀ c ∈ tx, c < 256) (h : PS tx top p (-1) M R) (h1 : p < tx.length → p < top → isd (cp tx p) = true → K (nI (cp tx p - 48)) (fm_u M 219 15 (nI (p + 1))) ML R) (h0 : ¬ (p < tx.length ∧ p < top ∧ isd (cp tx p) = true) → K 0 (fm_u M 219 16 (nI p)) ML R) : wI d 159 [.ref 219, .int 48, .int 10] M ML R K := by
  obtain ⟨d, rfl⟩ : ∃ e, d = e + 1 := ⟨d - 1, by omega⟩
  refine w159 (R_fine (by omega) h ?_)
  rw [if_pos rfl]
  refine ⟨fun _ => R_here (by omega) hl ht hp hx h (R_in (by omega) ?_), fun y => absurd y (by decide)⟩
  have no : ¬ (p < tx.length ∧ p < top ∧ isd (cp tx p) = true) → wV d 157 [.ref 219, .int (M 219 15)] M ML R (fun M6 L6 R6 => K 0 M6 L6 R6) := fun z => by
    rw [h.2.2.1]
    exact R_fault (by omega) h (fun _ => h0 z) (fun y => absurd rfl y)
  unfold hr
  by_cases z : p < tx.length ∧ p < top
  · rw [if_pos z, in_d _ (cp_lt hx z.1)]
    by_cases y : isd (cp tx p) = true
    · rw [if_pos y]
      refine ⟨fun _ M4 e4 => ⟨h.2.2.2.2.1, p, ?_, by omega, ?_⟩, fun w => absurd w (by decide)⟩
      · subst e4
        rw [fm_u_at, h.2.2.1, nI_1]
        exact nI_sub (a := p + 1) (b := 1) (by omega)
      · subst e4
        rw [h.2.2.1, nI_1, fm_u_off (by decide), h.2.2.2.2.2 p z.1, dg_b _ (cp_lt hx z.1) y]
        exact h1 z.1 z.2 y
    · rw [if_neg y]
      exact ⟨fun w => absurd rfl w, fun _ => no (fun w => y w.2.2)⟩
  · rw [if_neg z]
    exact ⟨fun w => absurd (by decide) w, fun _ => no (fun w => z ⟨w.1, w.2.1⟩)⟩
theorem R_digitN {K : wK} {wr : Int32} (hd : 3 ≤ d) (h : PS tx top p wr M R) (hw : ¬ wr = -1) (hK : K 0 M ML R) {a b : Int32} : wI d 159 [.ref 219, .int a, .int b] M ML R K := by
  obtain ⟨d, rfl⟩ : ∃ e, d = e + 1 := ⟨d - 1, by omega⟩
  refine w159 (R_fine (by omega) h ?_)
  rw [if_neg hw]
  exact ⟨fun y => absurd rfl y, fun _ => hK⟩
/-- the fault of the ACT at p, if it has one -/
def fa (tx : List Nat) (p : Nat) : Option Nat := if 60 ≤ p then some p else if alen (cp tx p) = 0 then some p else if alen (cp tx p) = 1 then none else if ¬ (p + 1 < tx.length ∧ p + 1 < 60 ∧ isd (cp tx (p + 1)) = true) then some (p + 1) else if alen (cp tx p) = 2 then none else if ¬ (p + 2 < tx.length ∧ p + 2 < 60 ∧ isd (cp tx (p + 2)) = true) then some (p + 2) else none
theorem fa_fbs {tx : List Nat} {m p : Nat} (hm : m = min tx.length 60) (hp : p < tx.length) (hpm : p ≤ m) : fbs tx m (m - p) p 0 = match fa tx p with
  | some f => some f
  | none => fbs tx m (m - (p + alen (cp tx p))) (p + alen (cp tx p)) 0 := by
  unfold fa
  by_cases h60 : 60 ≤ p
  · rw [if_pos h60, show m - p = 0 by omega, fbs, if_pos (by omega), show m = p by omega]
  · rw [if_neg h60]
    obtain ⟨n, en⟩ : ∃ n, m - p = n + 1 := ⟨m - p - 1, by omega⟩
    rw [en, fbs, if_pos rfl]
    by_cases z : alen (cp tx p) = 0
    · rw [if_pos z, if_pos z]
    · rw [if_neg z, if_neg z]
      rcases alen_c z with ⟨_, e⟩ | ⟨_, e⟩ | ⟨_, e⟩
      · rw [e, if_pos rfl]
        dsimp only
        rw [show m - (p + 1) = n by omega]
      · rw [e, if_neg (by decide)]
        by_cases d1 : p + 1 < tx.length ∧ p + 1 < 60 ∧ isd (cp tx (p + 1)) = true
        · rw [if_neg (fun y => y d1), if_neg (by decide)]
          obtain ⟨n, rfl⟩ : ∃ k, n = k + 1 := ⟨n - 1, by omega⟩
          rw [fbs, if_neg (by decide), if_pos d1.2.2]
          by_cases d2 : p + 2 < tx.length ∧ p + 2 < 60 ∧ isd (cp tx (p + 2)) = true
          · rw [if_neg (fun y => y d2)]
            obtain ⟨n, rfl⟩ : ∃ k, n = k + 1 := ⟨n - 1, by omega⟩
            rw [fbs, if_neg (by decide), if_pos d2.2.2]
            dsimp only
            rw [show m - (p + 3) = n by omega]
          · rw [if_pos d2]
            dsimp only
            cases n with
            | zero => rw [fbs, if_pos (by omega), show m = p + 2 by omega]
            | succ n => rw [fbs, if_neg (by decide), if_neg (fun y => d2 ⟨by omega, by omega, y⟩)]
        · rw [if_pos d1]
          dsimp only
          cases n with
          | zero => rw [fbs, if_pos (by omega), show m = p + 1 by omega]
          | succ n => rw [fbs, if_neg (by decide), if_neg (fun y => d1 ⟨by omega, by omega, y⟩)]
      · rw [e, if_neg (by decide)]
        by_cases d1 : p + 1 < tx.length ∧ p + 1 < 60 ∧ isd (cp tx (p + 1)) = true
        · rw [if_neg (fun y => y d1), if_pos rfl]
          obtain ⟨n, rfl⟩ : ∃ k, n = k + 1 := ⟨n - 1, by omega⟩
          rw [fbs, if_neg (by decide), if_pos d1.2.2]
          dsimp only
          rw [show m - (p + 2) = n by omega]
        · rw [if_pos d1]
          dsimp only
          cases n with
          | zero => rw [fbs, if_pos (by omega), show m = p + 1 by omega]
          | succ n => rw [fbs, if_neg (by decide), if_neg (fun y => d1 ⟨by omega, by omega, y⟩)]
/-- readAct -/
theorem R_readAct {K : wKv} {k : Nat} (hd : 4 ≤ d) (hl : tx.length ≤ 80) (hx : ∀ c ∈ tx, c < 256) (hp : p < tx.length) (hk : k < 60 ∨ 60 ≤ p) (hk2 : k ≤ 60) (h : BR g ts rw M0 L0 R0 M ML R) (hs : PS tx 60 p (-1) M R) (h1 : fa tx p = none → ∀ M1, BR g ts rw M0 L0 R0 M1 ML R → PS tx 60 (p + alen (cp tx p)) (-1) M1 R → (∀ j, j < 2 * k → M1 228 j = M 228 j) → M1 228 (2 * k) = nI (dec tx p).1 → (¬ (dec tx p).1 = 42 → M1 228 (2 * k + 1) = nI (dec tx p).2) → K M1 ML R) (h0 : ∀ f q, fa tx p = some f → q ≤ 80 → ∀ M1, BR g ts rw M0 L0 R0 M1 ML R → PS tx 60 q (nI f) M1 R → K M1 ML R) : wV (d + 1) 183 [.ref 219, .int (nI (2 * k))] M ML R K := by
  have bu : ∀ {M : Nat → Nat → Int32} {i : Nat} {x : Int32}, BR g ts rw M0 L0 R0 M ML R → 13 ≤ i ∧ i ≤ 16 → BR g ts rw M0 L0 R0 (fm_u M 219 i x) ML R := fun h hi => h.u (by omega)
  refine w183 (R_here (by omega) hl (by decide) (by omega) hx hs ?_)
  unfold hr
  by_cases h60 : 60 ≤ p
  · have ef : fa tx p = some p := by unfold fa; rw [if_pos h60]
    rw [if_neg (show ¬ (p < tx.length ∧ p < 60) by omega)]
    refine ⟨fun y => absurd y (by decide), fun _ => ⟨fun y => absurd y (by decide), fun _ => ⟨fun y => absurd y (by decide), fun _ => ⟨fun y => absurd y (by decide), fun _ => ⟨fun y => absurd y (by decide), fun _ => ?_⟩⟩⟩⟩⟩
    rw [hs.2.2.1]
    exact R_fault (by omega) hs (fun _ => h0 p p ef (by omega) _ (bu h (by omega)) (PS_wr hs)) (fun y => absurd rfl y)
  · rw [if_pos (show p < tx.length ∧ p < 60 by omega)]
    have hk60 : k < 60 := hk.resolve_right h60
    have hcl := cp_lt hx hp
    have cn : ∀ j, j < 256 → (nI (cp tx p) = nI j ↔ cp tx p = j) := fun j hj => nI_eq (by omega) (by omega)
    -- the letter is laid
    have lay : ∀ M2, M2 = fm_u M 219 15 (M 219 15 + 1) → ∀ M3, M3 = fm_u M2 228 (2 * k) (nI (cp tx p)) → BR g ts rw M0 L0 R0 M3 ML R ∧ PS tx 60 (p + 1) (-1) M3 R ∧ (∀ j, j < 2 * k → M3 228 j = M 228 j) ∧ M3 228 (2 * k) = nI (cp tx p) := fun M2 e2 M3 e3 => by
      rw [hs.2.2.1, nI_1] at e2
      subst e2 e3
      refine ⟨(bu h (by omega)).u (by omega), PS_fr (PS_at hs) (fun a i y => by rw [fm_u_off (by omega)]), fun j hj => ?_, fm_u_at⟩
      rw [fm_u_ix (by omega), fm_u_off (by decide)]
    have two : ∀ M3, BR g ts rw M0 L0 R0 M3 ML R ∧ PS tx 60 (p + 1) (-1) M3 R ∧ (∀ j, j < 2 * k → M3 228 j = M 228 j) ∧ M3 228 (2 * k) = nI (cp tx p) → alen (cp tx p) = 2 → ¬ nI (cp tx p) = 110 → wI d 159 [.ref 219, .int (48 : Int32), .int (10 : Int32)] M3 ML R (fun v4 M4 L4 R4 => ((¬ nI (cp tx p) = (110 : Int32) → (∃ k5, (nI (2 * k) + (1 : Int32)) = nI k5 ∧ k5 < 160 ∧ (∀ M5, M5 = fm_u M4 228 k5 v4 → K M5 L4 R4))) ∧ (nI (cp tx p) = (110 : Int32) → (wI d 159 [.ref 219, .int (48 : Int32), .int (10 : Int32)] M4 L4 R4 (fun v6 M6 L6 R6 => (∃ k7, (nI (2 * k) + (1 : Int32)) = nI k7 ∧ k7 < 160 ∧ (∀ M7, M7 = fm_u M6 228 k7 (((10 : Int32) * v4) + v6) → K M7 L6 R6))))))) := fun M3 ⟨b3, s3, j3, l3⟩ ha hn => by
      have n42 : ¬ cp tx p = 42 := fun y => by rw [y] at ha; exact absurd ha (by decide)
      have n110 : ¬ cp tx p = 110 := fun y => hn (by rw [y]; rfl)
      refine R_digit (by omega) hl (by decide) (by omega) hx s3 (fun y1 y2 y3 => ⟨fun _ => ⟨2 * k + 1, nI_1 _, by omega, fun M5 e5 => ?_⟩, fun y => absurd y hn⟩) (fun y => ⟨fun _ => ⟨2 * k + 1, nI_1 _, by omega, fun M5 e5 => ?_⟩, fun y => absurd y hn⟩)
      · subst e5
        refine h1 ?_ _ ((bu b3 (by omega)).u (by omega)) ?_ (fun j hj => ?_) ?_ (fun _ => ?_)
        · unfold fa
          rw [if_neg h60, if_neg (by omega), if_neg (by omega), if_neg (fun w => w ⟨y1, y2, y3⟩), if_pos ha]
        · rw [ha]
          exact PS_fr (PS_at s3) (fun a i y => by rw [fm_u_off (by omega)])
        · rw [fm_u_ix (by omega), fm_u_off (by decide)]; exact j3 j hj
        · rw [fm_u_ix (by omega), fm_u_off (by decide)]; exact l3
        · rw [fm_u_at]
          unfold dec
          dsimp only
          rw [if_neg n42, if_neg n110]
      · subst e5
        refine h0 (p + 1) (p + 1) ?_ (by omega) _ ((bu b3 (by omega)).u (by omega)) (PS_fr (PS_wr s3) (fun a i y => by rw [fm_u_off (by omega)]))
        unfold fa
        rw [if_neg h60, if_neg (by omega), if_neg (by omega), if_pos y]
    have n42' : alen (cp tx p) = 2 → ¬ nI (cp tx p) = 42 := fun ha y => by
      rw [(cn 42 (by decide)).mp y] at ha; exact absurd ha (by decide)
    refine ⟨fun z => fun M2 e2 => ⟨2 * k, rfl, by omega, fun M3 e3 => ⟨fun y => absurd z y, fun _ => ?_⟩⟩, fun z42 => ⟨fun z => fun M2 e2 => ⟨2 * k, rfl, by omega, fun M3 e3 => ⟨fun _ => ?_, fun y => absurd y z42⟩⟩, fun z110 => ⟨fun z => fun M2 e2 => ⟨2 * k, rfl, by omega, fun M3 e3 => ⟨fun _ => ?_, fun y => absurd y z42⟩⟩, fun z112 => ⟨fun z => fun M2 e2 => ⟨2 * k, rfl, by omega, fun M3 e3 => ⟨fun _ => ?_, fun y => absurd y z42⟩⟩, fun z108 => ⟨fun z => fun M2 e2 => ⟨2 * k, rfl, by omega, fun M3 e3 => ⟨fun _ => ?_, fun y => absurd y z42⟩⟩, fun z104 => ?_⟩⟩⟩⟩⟩
    · have e := (cn 42 (by decide)).mp z
      obtain ⟨b3, s3, j3, l3⟩ := lay M2 e2 M3 e3
      have ha : alen (cp tx p) = 1 := by rw [e]; rfl
      refine h1 ?_ M3 b3 (by rw [ha]; exact s3) j3 l3 (fun y => absurd (show (dec tx p).1 = 42 from e) y)
      unfold fa
      rw [if_neg h60, if_neg (by omega), if_pos ha]
    · have e := (cn 110 (by decide)).mp z
      obtain ⟨b3, s3, j3, l3⟩ := lay M2 e2 M3 e3
      have ha : alen (cp tx p) = 3 := by rw [e]; rfl
      refine R_digit (by omega) hl (by decide) (by omega) hx s3 (fun y1 y2 y3 => ⟨fun y => absurd z y, fun _ => ?_⟩) (fun y => ⟨fun y => absurd z y, fun _ => ?_⟩)
      · have b4 := bu (i := 15) (x := nI (p + 1 + 1)) b3 (by omega)
        have s4 := PS_at (n := p + 1 + 1) s3
        refine R_digit (by omega) hl (by decide) (by omega) hx s4 (fun w1 w2 w3 => ⟨2 * k + 1, nI_1 _, by omega, fun M7 e7 => ?_⟩) (fun w => ⟨2 * k + 1, nI_1 _, by omega, fun M7 e7 => ?_⟩)
        · subst e7
          refine h1 ?_ _ ((bu b4 (by omega)).u (by omega)) ?_ (fun j hj => ?_) ?_ (fun _ => ?_)
          · unfold fa
            rw [if_neg h60, if_neg (by omega), if_neg (by omega), if_neg (fun w => w ⟨y1, y2, y3⟩), if_neg (by omega), if_neg (fun w => w ⟨w1, w2, w3⟩)]
          · rw [ha]
            exact PS_fr (PS_at s4) (fun a i y => by rw [fm_u_off (by omega)])
          · rw [fm_u_ix (by omega), fm_u_off (by decide), fm_u_off (by decide)]; exact j3 j hj
          · rw [fm_u_ix (by omega), fm_u_off (by decide), fm_u_off (by decide)]; exact l3
          · rw [fm_u_at, show (10 : Int32) * nI (cp tx (p + 1) - 48) = nI (10 * (cp tx (p + 1) - 48)) from nI_mul 10 _, nI_add]
            unfold dec
            dsimp only
            rw [if_neg (by omega), if_pos e]
        · subst e7
          refine h0 (p + 1 + 1) (p + 1 + 1) ?_ (by omega) _ ((bu b4 (by omega)).u (by omega)) (PS_fr (PS_wr s4) (fun a i y => by rw [fm_u_off (by omega)]))
          unfold fa
          rw [if_neg h60, if_neg (by omega), if_neg (by omega), if_neg (fun w => w ⟨y1, y2, y3⟩), if_neg (by omega), if_pos w]
      · have s4 := PS_wr (x := nI (p + 1)) s3
        refine R_digitN (by omega) s4 (nI_nm1 (by omega)) ⟨2 * k + 1, nI_1 _, by omega, fun M7 e7 => ?_⟩
        subst e7
        refine h0 (p + 1) (p + 1) ?_ (by omega) _ ((bu b3 (by omega)).u (by omega)) (PS_fr s4 (fun a i y => by rw [fm_u_off (by omega)]))
        unfold fa
        rw [if_neg h60, if_neg (by omega), if_neg (by omega), if_pos y]
    · have e := (cn 112 (by decide)).mp z
      exact two M3 (lay M2 e2 M3 e3) (by rw [e]; rfl) z110
    · have e := (cn 108 (by decide)).mp z
      exact two M3 (lay M2 e2 M3 e3) (by rw [e]; rfl) z110
    · have e := (cn 104 (by decide)).mp z
      exact two M3 (lay M2 e2 M3 e3) (by rw [e]; rfl) z110
    · have ha : alen (cp tx p) = 0 := by
        apply Classical.byContradiction
        intro y
        rcases alen_c y with ⟨e, _⟩ | ⟨e, _⟩ | ⟨e, _⟩
        · exact z42 ((cn 42 (by decide)).mpr e)
        · exact z110 ((cn 110 (by decide)).mpr e)
        · rcases e with e | e | e
          · exact z112 ((cn 112 (by decide)).mpr e)
          · exact z108 ((cn 108 (by decide)).mpr e)
          · exact z104 ((cn 104 (by decide)).mpr e)
      rw [hs.2.2.1]
      refine R_fault (by omega) hs (fun _ => h0 p p ?_ (by omega) _ (bu h (by omega)) (PS_wr hs)) (fun y => absurd rfl y)
      unfold fa
      rw [if_neg h60, if_pos ha]
end parse
