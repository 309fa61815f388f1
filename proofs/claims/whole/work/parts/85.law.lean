/-! law -/
def q_fm (ts : List Nat) : Nat → gr → Int32 → Int32
  | 0, _, x => x
  | n + 1, gk, x => q_fm ts n (g_go gk ts (-1)) (if ¬ x = -1 then x else if g_ms (g_d2 gk (g_rn gk ts (-1))) 8 = 0 then x else nI (gk 41))
def q_by (g : gr) (ts : List Nat) : Int32 := nI (g_it g ts 60 42) - nI (g 42)
section law
variable {d B b r : Nat} {g gk g' u : gr} {ts tx tx' t' : List Nat} {rw rw' : List Int64} {un un' : List gr} {kp kp' : Nat → Option gr} {he sa : List (Nat × Nat)} {M0 M M1 : Nat → Nat → Int32} {L0 ML L1 : Nat → Nat → Int64} {R0 R R1 : Nat → Nat → Option Nat}
theorem C_fm1 {K : wK} {t : Nat} (ht : fm_T t) (ht2 : t = 40 ∨ t = 42) (hd : 5 ≤ d) (hts : tsok t') (hg : gok g B) (hB : B < 2 ^ 20) (F : Int32) (hK : ∀ M1, BC g ts rw M0 L0 M1 ML → fr (fun a _ => 23 ≤ a ∧ a ≤ 33) M M1 → M1 23 12 = nI (g_it g t' 60 42) → K F M1 ML R) (htr : tr M t t') : ∀ n k, k + n = 60 → ∀ {M1 : Nat → Nat → Int32} {x : Int32}, BC g ts rw M0 L0 M1 ML → fr (fun a _ => 23 ≤ a ∧ a ≤ 33) M M1 → cr M1 23 (g_it g t' k) → q_fm t' n (g_it g t' k) x = F → H123_15 d t x (nI k) M1 ML R K := by
  intro n
  induction n with
  | zero =>
    intro k hk M1 x h f hc e
    have e : x = F := e
    subst e
    have : k = 60 := by omega
    subst this
    exact h123_15 ht.1 ⟨fun _ => hK M1 h f hc.2.2.1, fun z => absurd (by decide) z⟩
  | succ n ih =>
    intro k hk M1 x h f hc e
    rw [q_fm] at e
    have hl := g_ms_lt (g_d2 (g_it g t' k) (g_rn (g_it g t' k) t' (-1)))
    refine h123_15 ht.1 ⟨fun z => absurd ((nI_leI (a := 60) (by decide) (by omega)).mp z) (by omega), fun _ => ?_⟩
    refine C_go fm_W23 ht (by omega) hd hc (g_it_ok hg t' k) (by omega) (tr_fr htr (fun a i y => f a i (by omega))) hts (-1) (fun M2 c2 _ _ h15 _ g2 => ?_)
    have f2 : fr (fun a _ => 23 ≤ a ∧ a ≤ 33) M1 M2 := fun a i z => by rw [g2 a (by omega)]
    have h2 := h.f (f2.mono (fun a i z => by omega))
    rw [nI_1, h15, hc.2.1]
    have go := fun y => ih (k + 1) (by omega) h2 (f.tr f2) c2 (x := y)
    by_cases z : x = -1
    · rw [if_neg (fun y => y z)] at e
      refine ⟨fun y => absurd z y, fun _ => ?_⟩
      by_cases y : g_ms (g_d2 (g_it g t' k) (g_rn (g_it g t' k) t' (-1))) 8 = 0
      · rw [if_pos y] at e
        rw [y]
        exact ⟨fun _ => go x e, fun w => absurd nI_0 w⟩
      · rw [if_neg y] at e
        exact ⟨fun w => absurd w (nI_ne0 (by omega) (by omega)), fun _ => go _ e⟩
    · rw [if_pos z] at e
      exact ⟨fun _ => go x e, fun y => absurd y z⟩
theorem C_fm {K : wK} {t : Nat} (ht : fm_T t) (ht2 : t = 40 ∨ t = 42) (hd : 5 ≤ d) (hts : tsok t') (hg : gok g B) (hB : B < 2 ^ 20) (h : BC g ts rw M0 L0 M ML) (htr : tr M t t') (hK : ∀ M1, BC g ts rw M0 L0 M1 ML → fr (fun a _ => 23 ≤ a ∧ a ≤ 33) M M1 → M1 23 12 = nI (g_it g t' 60 42) → K (q_fm t' 60 g (-1)) M1 ML R) : wI (d + 1) 123 [.ref 0, .ref t] M ML R K := by
  refine w123 ht.1 (B_later (by omega) h (fun M1 h1 c1 f1 => ?_))
  exact C_fm1 ht ht2 hd hts hg hB (q_fm t' 60 g (-1)) hK htr 60 0 (by omega) h1 f1 c1 rfl
def q_lwA (g : gr) (ts tx : List Nat) : Int32 := match q_tp tx tx.length 0 with
  | none => q_by g tx - q_by g ts
  | some f => -10000 - nI f
def q_lwW (g : gr) (ts tx : List Nat) (rw : List Int64) : List Int64 := match q_tp tx tx.length 0 with
  | none => [(q_by g tx).toInt64, (q_by g ts).toInt64, (q_fm tx 60 g (-1)).toInt64, (q_fm ts 60 g (-1)).toInt64]
  | some _ => rw
theorem C_law (hd : 6 ≤ d) (h : IC g un kp tx ts rw he sa M ML R) (hs : SO g un kp ts B) (hB : B < 2 ^ 20) : wI (d + 1) 122 [.ref 0] M ML R (CK (q_lwA g ts tx) g un kp [] ts (q_lwW g ts tx rw) he sa M ML R) := by
  obtain ⟨d, rfl⟩ : ∃ e, d = e + 1 := ⟨d - 1, by omega⟩
  refine w122 (C_readTies (by omega) h.2.2.2.1 (fun M1 f1 t1 => ?_))
  have h1 : IC g un kp tx ts rw he sa M1 ML R := h.w0 (f1.mono (fun a i z => by omega)) (fun i => f1 _ i (by omega)) (cr_fr h.2.1 (fun a i y1 y2 _ => f1 a i (by omega))) (IP_fr h.p (fun a i y => f1 a i (by omega)))
  refine C_xclear (by omega) h1 (fun M2 h2 f2 => ?_)
  have hx := h.xl
  have F2 : fr (fun a _ => a < 219) M M2 := (f1.mono (fun a i z => by omega)).tr (f2.mono (fun a i z => by omega))
  unfold tpr q_lwA q_lwW
  cases e : q_tp tx tx.length 0 with
  | none =>
    refine ⟨fun _ => ?_, fun y => absurd rfl y⟩
    have t2 : tr M2 42 tx := tr_fr (t1 e) (fun a i y => f2 a i (by omega))
    refine C_fm fm_T42 (by omega) (by omega) (ts_ok e) hs.1 hB h2.b t2 (fun M3 h3 f3 k3 => ?_)
    refine C_fm fm_T40 (by omega) (by omega) hs.2.2.2 hs.1 hB h3 h3.2.1 (fun M4 h4 f4 k4 => ?_)
    rw [k3, h3.1.2.2.1, k4, h4.1.2.2.1]
    refine B_clear (by omega) h4 (fun M5 h5 _ => ?_)
    refine B_add (by omega) h5 (by decide) _ (fun M6 L6 h6 _ _ => ?_)
    refine B_add (by omega) h6 (by simp) _ (fun M7 L7 h7 _ _ => ?_)
    refine B_add (by omega) h7 (by simp) _ (fun M8 L8 h8 _ _ => ?_)
    refine B_add (by omega) h8 (by simp) _ (fun M9 L9 h9 _ _ => ?_)
    obtain ⟨b1, b2, b3, b4, b5⟩ := h9
    exact ⟨rfl, h2.q b4 b3, F2.tr (b4.mono (fun a i z => by omega)), b5.mono (fun a i z => by omega), rfl⟩
  | some f =>
    have hf := q_tp_some _ _ _ (by omega) e
    exact ⟨fun y => absurd (show nI f = -1 from y) (nI_nm1 (by omega)), fun _ => ⟨rfl, h2, F2, fr.rfl, rfl⟩⟩
/-! the reference -/
theorem R_l6a {K : wK} {tt : Nat} (htt : tt = 244 ∨ tt = 245) (hd : 7 ≤ d) (hts : tsok t') (hg : gok g B) (hB : B < 2 ^ 20) (h6 : R 219 6 = some tt) (h8 : M 219 8 = nI t'.length) (hj : ∀ k, k < t'.length → M tt k = nI (t'.getD k 0)) (h220 : rr (M 220) g) (F : Int32) (hK : ∀ M1, fr (fun a i => (a = 219 ∧ (i = 22 ∨ i = 23 ∨ i = 42)) ∨ a = 223 ∨ a = 227) M M1 → M1 219 42 = F → K (q_by g t') M1 ML R) : ∀ n k, k + n = 60 → ∀ {M1 : Nat → Nat → Int32} {x : Int32}, fr (fun a i => (a = 219 ∧ (i = 22 ∨ i = 23 ∨ i = 42)) ∨ a = 223 ∨ a = 227) M M1 → rr (M1 227) (g_it g t' k) → M1 219 42 = x → q_fm t' n (g_it g t' k) x = F → H226_19 d (nI k) M1 ML R K := by
  have hsh : fm_sh tt = .inl (2, 5) := by
    rcases htt with rfl | rfl
    · exact fm_s244
    · exact fm_s245
  intro n
  induction n with
  | zero =>
    intro k hk M1 x f hc h42 e
    have e : x = F := e
    subst e
    have : k = 60 := by omega
    subst this
    refine h226_19 ⟨fun _ => ?_, fun z => absurd (by decide) z⟩
    rw [hc 42 (by omega), f 220 42 (by omega), h220 42 (by omega)]
    exact hK M1 f h42
  | succ n ih =>
    intro k hk M1 x f hc h42 e
    rw [q_fm] at e
    have hl := g_ms_lt (g_d2 (g_it g t' k) (g_rn (g_it g t' k) t' (-1)))
    refine h226_19 ⟨fun z => absurd ((nI_leI (a := 60) (by decide) (by omega)).mp z) (by omega), fun _ => ?_⟩
    refine m_go hd fm_N227 (by decide) ⟨h6, hsh, by dsimp only; rw [f 219 8 (by omega)]; exact h8, hts.1⟩ (fun j y => by rw [f tt j (by omega)]; exact hj j y) hts hc (g_it_ok hg t' k) (by omega) (-1) (fun M2 g1 g2 h22 h23 r2 => ?_)
    have f2 : fr (fun a i => (a = 219 ∧ (i = 22 ∨ i = 23)) ∨ a = 223 ∨ a = 227) M1 M2 := fun a i z => by
      by_cases e : a = 219
      · subst e
        exact g2 i (by omega) (by omega)
      · rw [g1 a e (by omega) (by omega)]
    have F2 := f.tr (f2.mono (T := fun a i => (a = 219 ∧ (i = 22 ∨ i = 23 ∨ i = 42)) ∨ a = 223 ∨ a = 227) (fun a i z => by omega))
    have k42 : M2 219 42 = x := by rw [f2 219 42 (by omega)]; exact h42
    rw [nI_1, h23, k42]
    by_cases y : g_ms (g_d2 (g_it g t' k) (g_rn (g_it g t' k) t' (-1))) 8 = 0
    · rw [y]
      have e' : q_fm t' n (g_it g t' (k + 1)) x = F := by
        rw [← e]
        by_cases z : x = -1
        · rw [if_neg (fun w => w z), if_pos y]; rfl
        · rw [if_pos z]; rfl
      exact ⟨fun _ => ih (k + 1) (by omega) F2 r2 k42 e', fun w => absurd nI_0 w⟩
    · refine ⟨fun w => absurd w (nI_ne0 (by omega) (by omega)), fun _ => ⟨fun z => ?_, fun z => ?_⟩⟩
      · rw [if_pos z] at e
        exact ih (k + 1) (by omega) F2 r2 k42 e
      · rw [if_neg (fun w => w z), if_neg y] at e
        intro M3 e3
        subst e3
        have f3 : fr (fun a i => a = 219 ∧ i = 42) M2 (fm_u M2 219 42 (M2 220 41 + nI k)) := fr_u ⟨rfl, rfl⟩
        refine ih (k + 1) (by omega) (F2.tr (f3.mono (fun a i z => by omega))) (fun j hj => by rw [f3 227 j (by omega)]; exact r2 j hj) fm_u_at ?_
        rw [F2 220 41 (by omega), h220 41 (by omega), nI_add, ← g_it_41 g t' k]
        exact e
theorem R_lay60 {K : wK} {tt : Nat} (htt : tt = 244 ∨ tt = 245) (hd : 7 ≤ d) (hts : tsok t') (hg : gok g B) (hB : B < 2 ^ 20) (h6 : R 219 6 = some tt) (h8 : M 219 8 = nI t'.length) (hj : ∀ k, k < t'.length → M tt k = nI (t'.getD k 0)) (h220 : rr (M 220) g) (hK : ∀ M1, fr (fun a i => (a = 219 ∧ (i = 22 ∨ i = 23 ∨ i = 42)) ∨ a = 223 ∨ a = 227) M M1 → M1 219 42 = q_fm t' 60 g (-1) → K (q_by g t') M1 ML R) : wI (d + 1) 226 [.ref 219] M ML R K := by
  refine w226 (R_then (by omega) h220 (fun M1 c1 f1 M2 e2 => ?_))
  subst e2
  have F : fr (fun a i => (a = 219 ∧ (i = 22 ∨ i = 23 ∨ i = 42)) ∨ a = 223 ∨ a = 227) M (fm_u M1 219 42 (-1)) := fr_u2 (f1.mono (fun a i z => by omega)) (by omega)
  exact R_l6a htt hd hts hg hB h6 h8 hj h220 _ hK 60 0 (by omega) F (fun j hj => by rw [fm_u_off (by decide)]; exact c1 j hj) fm_u_at rfl
theorem R_law1 {K : wK} {n : Nat} (hn : n = tx.length) (hl : tx.length ≤ 5) (hx : ∀ c ∈ tx, c < 128) {x2 x3 x4 x6 : Int32} (h6 : R 219 6 = some 245) (hK : ∀ M1, fr (fun a _ => a = 245) M M1 → (∀ j, j < tx.length → M1 245 j = nI (tx.getD j 0)) → H227_71 d (nI n) x2 x3 x4 x6 (nI n) M1 ML R K) (h : ∀ j, j < tx.length → M 221 j = by8 (tx.getD j 0)) : ∀ m k, k + m = n → ∀ {M1 : Nat → Nat → Int32}, fr (fun a _ => a = 245) M M1 → (∀ j, j < k → M1 245 j = nI (tx.getD j 0)) → H227_71 d (nI n) x2 x3 x4 x6 (nI k) M1 ML R K := by
  subst hn
  intro m
  induction m with
  | zero =>
    intro k hk M1 f hj
    have : k = tx.length := by omega
    subst this
    exact hK M1 f hj
  | succ m ih =>
    intro k hk M1 f hj
    have hk2 : k < tx.length := by omega
    have hc : tx.getD k 0 < 128 := by rw [getD_lt tx k hk2]; exact hx _ (List.getElem_mem hk2)
    refine h227_71 ⟨fun z => absurd ((nI_leI (by omega) (by omega)).mp z) (by omega), fun _ => ⟨h6, k, rfl, by omega, k, rfl, by omega, fun M3 e3 => ?_⟩⟩
    subst e3
    rw [nI_1]
    refine ih (k + 1) (by omega) (fr_u2 f rfl) (fun j y => ?_)
    by_cases e : j = k
    · subst e
      rw [fm_u_at, f 221 j (by omega), h j hk2, nar_s _ hc]
    · rw [fm_u_ix e]; exact hj j (by omega)
theorem fm_ur_at {R : Nat → Nat → Option Nat} {a i : Nat} {x : Option Nat} : fm_ur R a i x a i = x := by simp [fm_ur]
theorem fm_ur_off {R : Nat → Nat → Option Nat} {a i c j : Nat} {x : Option Nat} (h : ¬ (c = a ∧ j = i)) : fm_ur R a i x c j = R c j := by
  by_cases e : c = a
  · subst e
    have : ¬ j = i := fun y => h ⟨rfl, y⟩
    simp [fm_ur, this]
  · simp [fm_ur, e]
theorem R_law (hd : 8 ≤ d) (hl : tx.length ≤ 80) (hx : ∀ c ∈ tx, c < 256) (h : IR g un kp tx ts rw he sa M ML R) (hs : SO g un kp ts B) (hB : B < 2 ^ 20) : wI (d + 1) 227 [.ref 219] M ML R (RK (q_lwA g ts tx) g un kp [] ts (q_lwW g ts tx rw) he sa M ML R) := by
  obtain ⟨d, rfl⟩ : ∃ e, d = e + 1 := ⟨d - 1, by omega⟩
  refine w227 (fun M1 e1 M2 e2 => ?_)
  subst e1
  have f2 : fr (fun a i => a = 219 ∧ (i = 2 ∨ i = 5)) M M2 := by subst e2; exact fr_u2 (fr_u (by omega)) (by omega)
  have e22 : M2 219 2 = 0 := by subst e2; exact fm_u_at
  have k2 : fm_u M 219 5 0 219 2 = nI tx.length := by rw [fm_u_ix (by decide)]; exact h.2.2.1.1
  have x2 : ∀ j, j < tx.length → M2 221 j = by8 (tx.getD j 0) := fun j hj => by rw [f2 221 j (by omega)]; exact h.2.2.1.2 j hj
  rw [k2]
  have h2 : IR g un kp [] ts rw he sa M2 ML R := h.x (f2.mono (fun a i z => by omega)) ⟨by rw [e22]; rfl, fun k hk => absurd hk (by simp)⟩
  refine R_right (by omega) hl hx x2 ?_
  unfold tpn q_lwA q_lwW
  cases e : q_tp tx tx.length 0 with
  | none =>
    dsimp only
    refine ⟨fun _ => ?_, fun y => absurd (Int32.le_refl _) y⟩
    have hts := ts_ok e
    obtain ⟨j6, j7, j8, jj⟩ := h2.2.2.2.1
    refine R_lay60 (by omega) (by omega) hs.2.2.2 hs.1 hB j6 j8 jj h2.1 (fun M4 f4 k42 => ?_)
    refine ⟨j6, j7, fun R5 e5 M6 e6 => ?_⟩
    have k48 : M4 219 8 = nI ts.length := by rw [f4 219 8 (by omega)]; exact j8
    have f6 : fr (fun a i => (a = 219 ∧ (i = 8 ∨ i = 22 ∨ i = 23 ∨ i = 42)) ∨ a = 223 ∨ a = 227) M2 M6 := by subst e6; exact fr_u2 (f4.mono (fun a i z => by omega)) (by omega)
    have k68 : M6 219 8 = nI tx.length := by subst e6; exact fm_u_at
    have r56 : R5 219 6 = some 245 := by subst e5; exact fm_ur_at
    rw [k42, k48]
    refine R_law1 rfl hts.1 (fun c hc => ltr_128 (hts.2 c hc)) r56 (fun M7 f7 j7' => ?_) (fun j hj => by rw [f6 221 j (by omega)]; exact x2 j hj) tx.length 0 (by omega) fr.rfl (fun j y => absurd y (by omega))
    refine h227_71 ⟨fun _ => ?_, fun z => absurd (Int32.le_refl _) z⟩
    have F7 : fr (fun a i => (a = 219 ∧ (i = 8 ∨ i = 22 ∨ i = 23 ∨ i = 42)) ∨ a = 223 ∨ a = 227 ∨ a = 245) M2 M7 := (f6.mono (fun a i z => by omega)).tr (f7.mono (fun a i z => by omega))
    refine R_lay60 (by omega) (by omega) hts hs.1 hB r56 (by rw [f7 219 8 (by omega)]; exact k68) j7' (rr_fr h2.1 (fun i => F7 _ i (by omega))) (fun M8 f8 k842 => ?_)
    intro R9 e9 M9 e9' M10 e10
    have F8 : fr (fun a i => (a = 219 ∧ (i = 8 ∨ i = 22 ∨ i = 23 ∨ i = 42)) ∨ a = 223 ∨ a = 227 ∨ a = 245) M2 M8 := F7.tr (f8.mono (fun a i z => by omega))
    have F9 : fr (fun a i => (a = 219 ∧ (i = 22 ∨ i = 23 ∨ i = 42)) ∨ a = 223 ∨ a = 227 ∨ a = 245) M2 M9 := fun a i z => by
      subst e9'
      by_cases w : a = 219 ∧ i = 8
      · obtain ⟨rfl, rfl⟩ := w
        rw [fm_u_at]
        exact j8.symm
      · have f9 : fr (fun a i => a = 219 ∧ i = 8) M8 (fm_u M8 219 8 (nI ts.length)) := fr_u ⟨rfl, rfl⟩
        rw [f9 a i w, F8 a i (by omega)]
    have f10 : fr (fun a i => a = 219 ∧ i = 4) M9 M10 := by subst e10; exact fr_u ⟨rfl, rfl⟩
    have w10 : JW M10 ML [] := by subst e10; exact JW_0 fm_u_at
    have k10 : M10 219 42 = q_fm tx 60 g (-1) := by
      rw [f10 219 42 (by omega)]
      subst e9'
      rw [fm_u_ix (by decide)]
      exact k842
    refine R_tell (by omega) w10 (by decide) _ (fun M11 L11 w11 f11 l11 => ?_)
    refine R_tell (by omega) w11 (by simp) _ (fun M12 L12 w12 f12 l12 => ?_)
    refine R_tell (by omega) w12 (by simp) _ (fun M13 L13 w13 f13 l13 => ?_)
    refine R_tell (by omega) w13 (by simp) _ (fun M14 L14 w14 f14 l14 => ?_)
    rw [f12 219 42 (by omega), f11 219 42 (by omega), k10] at w14
    have F14 : fr RS M2 M14 := ((((F9.mono (fun a i z => by omega)).tr (f10.mono (fun a i z => by omega))).tr (f11.mono (fun a i z => by omega))).tr (f12.mono (fun a i z => by omega))).tr ((f13.tr f14).mono (fun a i z => by omega))
    have R9R : R9 = R := by
      subst e9 e5
      funext a i
      by_cases z : a = 219 ∧ i = 6
      · obtain ⟨rfl, rfl⟩ := z
        rw [fm_ur_at]
        exact j6.symm
      · rw [fm_ur_off z, fm_ur_off z]
    rw [R9R]
    exact ⟨rfl, h2.q F14 w14 fr.rfl, (f2.mono (fun a i z => by omega)).tr (F14.mono (fun a i z => by omega)), (((l11.tr l12).tr l13).tr l14).mono (fun a i z => by omega), fr.rfl⟩
  | some f =>
    have hf := q_tp_some _ _ _ (by omega) e
    dsimp only
    exact ⟨fun y => absurd ((nI_leI (by omega) (by omega)).mp y) (by omega), fun _ => ⟨rfl, h2, f2.mono (fun a i z => by omega), fr.rfl, fr.rfl⟩⟩
/-! years -/
def q_nd (r : Int32) : Int32 := r * 1103515245 + 12345
def q_dr (r : Int32) (n : Nat) : Nat := (r.toUInt32.toNat / 2 ^ 16) % n
theorem dr_e (r : Int32) {n : Nat} (hn : n < 100) : i_rem (mj_ushr r 16) (nI n) = nI (q_dr r n) := by
  have h1 : r.toUInt32.toNat < 2 ^ 32 := r.toUInt32.toNat_lt
  have e : mj_ushr r 16 = nI (r.toUInt32.toNat / 2 ^ 16) := by
    apply Int32.toBitVec_inj.mp
    apply BitVec.eq_of_toNat_eq
    show (r.toUInt32 >>> ((16 : Int32).toUInt32 &&& Int32.toUInt32 31)).toBitVec.toNat = (BitVec.ofNat 32 (r.toUInt32.toNat / 2 ^ 16)).toNat
    rw [BitVec.toNat_ofNat, Nat.mod_eq_of_lt (by omega)]
    show (r.toUInt32 >>> ((16 : Int32).toUInt32 &&& Int32.toUInt32 31)).toNat = _
    rw [UInt32.toNat_shiftRight, Nat.shiftRight_eq_div_pow]
    rfl
  rw [e, nI_rem (by omega) (by omega)]
  rfl
/-- one step of the work: who, by which draw -/
def q_y1 (ts : List Nat) (gk : gr) (r : Int32) : gr × Int32 := if 4 ≤ q_dr (q_nd r) 6 then
    (if q_dr (q_nd r) 6 = 4 then (if 0 < gk (q_dr (q_nd (q_nd r)) 8) then g_hu gk (q_dr (q_nd (q_nd r)) 8) else gk) else (if 0 < gk (q_dr (q_nd (q_nd r)) 8) then (if g_mf gk (q_dr (q_nd (q_nd r)) 8) ≤ gk 41 then g_lv gk (q_dr (q_nd (q_nd r)) 8) else gk) else gk), q_nd (q_nd r)) else (g_go gk ts (-1), q_nd r)
def itr {α : Type} (f : α → α) : Nat → α → α
  | 0, s => s
  | n + 1, s => itr f n (f s)
theorem itr_s {α : Type} (f : α → α) (n : Nat) (s : α) : itr f (n + 1) s = itr f n (f s) := rfl
def q_y2 (ts : List Nat) (s : gr × Int32) : gr × Int32 := q_y1 ts s.1 s.2
def q_yr (ts : List Nat) (n : Nat) (gk : gr) (r : Int32) : gr := (itr (q_y2 ts) n (gk, r)).1
theorem q_yr_0 (ts : List Nat) (gk : gr) (r : Int32) : q_yr ts 0 gk r = gk := by
  unfold q_yr
  generalize q_y2 ts = f
  rfl
theorem q_yr_s {ts : List Nat} {n : Nat} {gk gn : gr} {r rn : Int32} (e : q_y1 ts gk r = (gn, rn)) : q_yr ts (n + 1) gk r = q_yr ts n gn rn := by
  unfold q_yr
  rw [itr_s, show q_y2 ts (gk, r) = (gn, rn) from e]
def q_yrA (g gk : gr) : Int32 := nI (gk 42) - nI (g 42)
def q_yrW (gk : gr) : List Int64 := [nL (g_ts gk), nL (g_da gk 8)]
theorem q_y1_ok {gk : gr} {B : Nat} (h : gok gk B) (ts : List Nat) (r : Int32) : gok (q_y1 ts gk r).1 (B + 1) := by
  have up : ∀ {x : gr}, gok x B → gok x (B + 1) := fun y => ⟨y.1, y.2.1, by have := y.2.2.1; omega, y.2.2.2⟩
  have h8 : q_dr (q_nd (q_nd r)) 8 < 8 := Nat.mod_lt _ (by decide)
  unfold q_y1
  split
  · dsimp only
    split
    · split
      next z => exact up (gok_hu h h8 z)
      next => exact up h
    · split
      next z =>
        split
        · exact up (gok_lv h h8)
        · exact up h
      next => exact up h
  · exact gok_go h ts (-1)
theorem C_years1 (hd : 5 ≤ d) (hts : tsok ts) {N : Nat} (hN : N ≤ 60) {x1 : Int32} : ∀ n k, k + n = N → ∀ {B : Nat} {gk : gr} {r : Int32} {M : Nat → Nat → Int32}, B + n < 2 ^ 20 → gok gk B → BC g ts rw M0 L0 M ML → cr M 23 gk → H124_29 d x1 (nI N) r (nI k) M ML R (CQ (q_yrA g (q_yr ts n gk r)) (q_yrW (q_yr ts n gk r)) M0 L0 R) := by
  intro n
  induction n with
  | zero =>
    intro k hk B gk r M hB hg h hc
    refine h124_29 ⟨fun _ => ?_, fun z => absurd ((nI_leI (by omega) (by omega)).mpr (by omega)) z⟩
    rw [q_yr_0]
    refine B_clear (by omega) h (fun M1 h1 f1 => ?_)
    have c1 : cr M1 23 gk := cr_fr hc (fun a i y1 y2 _ => f1 a i (by omega))
    refine C_tset fm_W23 (by omega) c1 hg ?_
    refine B_add (by omega) h1 (by decide) _ (fun M2 L2 h2 f2 _ => ?_)
    have c2 : cr M2 23 gk := cr_fr c1 (fun a i y1 y2 _ => f2 a i (by omega))
    refine C_doa fm_W23 (by omega) c2 hg ?_
    refine B_add (by omega) h2 (by simp) _ (fun M3 L3 h3 f3 _ => ?_)
    rw [f3 23 12 (by decide), c2.2.2.1, h3.1.2.2.1]
    exact h3.q
  | succ n ih =>
    intro k hk B gk r M hB hg h hc
    refine h124_29 ⟨fun z => absurd ((nI_leI (by omega) (by omega)).mp z) (by omega), fun _ => ?_⟩
    have hok := q_y1_ok hg ts r
    have h6 : q_dr (q_nd r) 6 < 6 := Nat.mod_lt _ (by decide)
    have h8 : q_dr (q_nd (q_nd r)) 8 < 8 := Nat.mod_lt _ (by decide)
    refine wI_of (t_nextDraw _ r) (by omega) ?_
    refine wI_of (t_drawOf _ (q_nd r) 6 (by decide)) (by omega) ?_
    rw [show i_rem (mj_ushr (q_nd r) 16) 6 = nI (q_dr (q_nd r) 6) from dr_e _ (by decide), nI_1]
    have go := fun {gn : gr} {rn : Int32} (e1 : q_y1 ts gk r = (gn, rn)) (M1 : Nat → Nat → Int32) (h1 : BC g ts rw M0 L0 M1 ML) (c1 : cr M1 23 gn) => (by
      rw [e1] at hok
      rw [q_yr_s e1]
      exact ih (k + 1) (by omega) (B := B + 1) (by omega) hok h1 c1 : H124_29 d x1 (nI N) rn (nI (k + 1)) M1 ML R (CQ (q_yrA g (q_yr ts (n + 1) gk r)) (q_yrW (q_yr ts (n + 1) gk r)) M0 L0 R))
    by_cases z : 4 ≤ q_dr (q_nd r) 6
    · refine ⟨fun _ => ?_, fun y => absurd ((nI_leI (a := 4) (by decide) (by omega)).mpr z) y⟩
      refine wI_of (t_nextDraw _ (q_nd r)) (by omega) ?_
      refine wI_of (t_drawOf _ (q_nd (q_nd r)) 8 (by decide)) (by omega) ?_
      rw [show i_rem (mj_ushr (q_nd (q_nd r)) 16) 8 = nI (q_dr (q_nd (q_nd r)) 8) from dr_e _ (by decide)]
      by_cases y : q_dr (q_nd r) 6 = 4
      · rw [y]
        refine ⟨fun w => absurd rfl w, fun _ => ?_⟩
        refine C_turn fm_W23 (by omega) hc hg _ (fun q hq e h0 M1 c1 f1 => ?_) (fun w => ?_)
        · have := nI_inj8 h8 hq e
          subst this
          exact go (by unfold q_y1; rw [if_pos z, if_pos y, if_pos h0]; rfl) M1 (h.f (f1.mono (fun a i z => by omega))) c1
        · exact go (by unfold q_y1; rw [if_pos z, if_pos y, if_neg (fun v => w ((th_nI h8).mpr v))]; rfl) M h hc
      · refine ⟨fun _ => ?_, fun w => absurd ((nI_eq (b := 4) (by omega) (by decide)).mp w) y⟩
        refine C_letGo fm_W23 (by omega) hc hg (by omega) _ (fun q hq e h0 hm M1 c1 f1 => ?_) (fun q hq e h0 hm => ?_) (fun w => ?_)
        · have := nI_inj8 h8 hq e
          subst this
          exact go (by unfold q_y1; rw [if_pos z, if_neg y, if_pos h0, if_pos hm]; rfl) M1 (h.f (f1.mono (fun a i z => by omega))) c1
        · have := nI_inj8 h8 hq e
          subst this
          exact go (by unfold q_y1; rw [if_pos z, if_neg y, if_pos h0, if_neg hm]; rfl) M h hc
        · exact go (by unfold q_y1; rw [if_pos z, if_neg y, if_neg (fun v => w ((th_nI h8).mpr v))]; rfl) M h hc
    · refine ⟨fun y => absurd ((nI_leI (a := 4) (by decide) (by omega)).mp y) z, fun _ => ?_⟩
      refine B_go hd h hc hg (by omega) hts (-1) (fun M1 h1 c1 _ _ _ _ => ?_)
      exact go (by unfold q_y1; rw [if_neg z]; rfl) M1 h1 c1
theorem C_years (hd : 5 ≤ d) (h : IC g un kp tx ts rw he sa M ML R) (hs : SO g un kp ts B) (hB : B + 100 < 2 ^ 20) (s v : Int32) : (∀ n, 1 ≤ n → n ≤ 60 → v = nI n → wI (d + 1) 124 [.ref 0, .int s, .int v] M ML R (CQ (q_yrA g (q_yr ts n g s)) (q_yrW (q_yr ts n g s)) M ML R)) ∧ (v < 1 ∨ 60 < v → wI (d + 1) 124 [.ref 0, .int s, .int v] M ML R (CQ (-1) rw M ML R)) := by
  constructor
  · rintro n h1 h2 rfl
    refine w124 ⟨fun z => absurd ((nI_leI (a := 1) (by decide) (by omega)).mpr (by omega)) (Int32.not_le.mpr z), fun _ => ⟨fun _ => ?_, fun z => absurd ((nI_leI (b := 60) (by omega) (by decide)).mpr (by omega)) z⟩⟩
    refine B_later (by omega) h.b (fun M1 b1 c1 _ => ?_)
    exact C_years1 hd hs.2.2.2 h2 n 0 (by omega) (B := B) (by omega) hs.1 b1 c1
  · intro z
    exact w124 ⟨fun _ => h.b.q, fun y => ⟨fun y2 => absurd y2 (Int32.not_le.mpr (z.resolve_left y)), fun _ => h.b.q⟩⟩
theorem R_years1 (hd : 7 ≤ d) (hts : tsok ts) {N : Nat} (hN : N ≤ 60) {x1 : Int32} : ∀ n k, k + n = N → ∀ {B : Nat} {gk : gr} {r : Int32} {M : Nat → Nat → Int32}, B + n < 2 ^ 20 → gok gk B → M 219 43 = r → BR g ts rw M0 L0 R0 M ML R → rr (M 227) gk → H230_36 d x1 (nI N) (nI k) M ML R (RQ (q_yrA g (q_yr ts n gk r)) (q_yrW (q_yr ts n gk r)) M0 L0 R0) := by
  intro n
  induction n with
  | zero =>
    intro k hk B gk r M hB hg h43 h hc
    refine h230_36 ⟨fun _ M1 e1 => ?_, fun z => absurd ((nI_leI (by omega) (by omega)).mpr (by omega)) z⟩
    subst e1
    rw [q_yr_0]
    have c1 : rr (fm_u M 219 4 0 227) gk := fun j hj => by rw [fm_u_off (by decide)]; exact hc j hj
    refine R_tset fm_N227 (by omega) c1 hg ?_
    refine B_tell (by omega) h.z (by decide) _ (fun M2 L2 h2 f2 _ => ?_)
    have c2 : rr (M2 227) gk := fun j hj => by rw [f2 227 j (by omega)]; exact c1 j hj
    refine R_doa fm_N227 (by omega) c2 ?_
    refine B_tell (by omega) h2 (by simp) _ (fun M3 L3 h3 f3 _ => ?_)
    rw [f3 227 42 (by omega), c2 42 (by omega), h3.1 42 (by omega)]
    exact h3.q
  | succ n ih =>
    intro k hk B gk r M hB hg h43 h hc
    refine h230_36 ⟨fun z => absurd ((nI_leI (by omega) (by omega)).mp z) (by omega), fun _ => ?_⟩
    have hok := q_y1_ok hg ts r
    have h6 : q_dr (q_nd r) 6 < 6 := Nat.mod_lt _ (by decide)
    have h8 : q_dr (q_nd (q_nd r)) 8 < 8 := Nat.mod_lt _ (by decide)
    refine wI_of (t_mdraw M ML R 6 (by decide)) (by omega) ?_
    rw [h43, show i_rem (mj_ushr (r * 1103515245 + 12345) 16) 6 = nI (q_dr (q_nd r) 6) from dr_e _ (by decide), nI_1]
    have f1 : fr (fun a i => a = 219 ∧ i = 43) M (fm_u M 219 43 (r * 1103515245 + 12345)) := fr_u ⟨rfl, rfl⟩
    have h1 : BR g ts rw M0 L0 R0 (fm_u M 219 43 (r * 1103515245 + 12345)) ML R := h.f (f1.mono (fun a i z => by omega))
    have c1 : rr (fm_u M 219 43 (r * 1103515245 + 12345) 227) gk := fun j hj => by rw [f1 227 j (by omega)]; exact hc j hj
    have k1 : fm_u M 219 43 (r * 1103515245 + 12345) 219 43 = q_nd r := fm_u_at
    generalize fm_u M 219 43 (r * 1103515245 + 12345) = M1 at h1 c1 k1 ⊢
    have go := fun {gn : gr} {rn : Int32} (e1 : q_y1 ts gk r = (gn, rn)) (M1 : Nat → Nat → Int32) (k1 : M1 219 43 = rn) (h1 : BR g ts rw M0 L0 R0 M1 ML R) (c1 : rr (M1 227) gn) => (by
      rw [e1] at hok
      rw [q_yr_s e1]
      exact ih (k + 1) (by omega) (B := B + 1) (by omega) hok k1 h1 c1 : H230_36 d x1 (nI N) (nI (k + 1)) M1 ML R (RQ (q_yrA g (q_yr ts (n + 1) gk r)) (q_yrW (q_yr ts (n + 1) gk r)) M0 L0 R0))
    by_cases z : 4 ≤ q_dr (q_nd r) 6
    · refine ⟨fun _ => ?_, fun y => absurd ((nI_leI (a := 4) (by decide) (by omega)).mpr z) y⟩
      refine wI_of (t_mdraw M1 ML R 8 (by decide)) (by omega) ?_
      rw [k1, show i_rem (mj_ushr (q_nd r * 1103515245 + 12345) 16) 8 = nI (q_dr (q_nd (q_nd r)) 8) from dr_e _ (by decide)]
      have f2 : fr (fun a i => a = 219 ∧ i = 43) M1 (fm_u M1 219 43 (q_nd r * 1103515245 + 12345)) := fr_u ⟨rfl, rfl⟩
      have h2 : BR g ts rw M0 L0 R0 (fm_u M1 219 43 (q_nd r * 1103515245 + 12345)) ML R := h1.f (f2.mono (fun a i z => by omega))
      have c2 : rr (fm_u M1 219 43 (q_nd r * 1103515245 + 12345) 227) gk := fun j hj => by rw [f2 227 j (by omega)]; exact c1 j hj
      have k2 : fm_u M1 219 43 (q_nd r * 1103515245 + 12345) 219 43 = q_nd (q_nd r) := fm_u_at
      generalize fm_u M1 219 43 (q_nd r * 1103515245 + 12345) = M2 at h2 c2 k2 ⊢
      refine R_th fm_N227 (by omega) c2 hg h8 ?_
      by_cases w : 0 < gk (q_dr (q_nd (q_nd r)) 8)
      · rw [if_pos w]
        refine ⟨fun _ => ?_, fun y => absurd y (by decide)⟩
        by_cases y : q_dr (q_nd r) 6 = 4
        · rw [y]
          refine ⟨fun v => absurd rfl v, fun _ => ⟨24 + q_dr (q_nd (q_nd r)) 8, ix24 _, by omega, 24 + q_dr (q_nd (q_nd r)) 8, ix24 _, by omega, fun M3 e3 => ?_⟩⟩
          subst e3
          exact go (by unfold q_y1; rw [if_pos z, if_pos y, if_pos w]) _ (by rw [fm_u_off (by decide)]; exact k2) (h2.u (by omega)) (by rw [fm_u_row]; exact (rr_hu c2 hg h8 w).1)
        · refine ⟨fun _ => ?_, fun v => absurd ((nI_eq (b := 4) (by omega) (by decide)).mp v) y⟩
          refine R_refuse fm_N227 (by omega) c2 hg (by omega) _ (fun q hq e h0 => ?_) (fun v => absurd ((th_nI h8).mpr w) v)
          have := nI_inj8 h8 hq e
          subst this
          by_cases hm : g_mf gk (q_dr (q_nd (q_nd r)) 8) ≤ gk 41
          · rw [if_pos hm]
            refine ⟨fun v => absurd rfl v, fun _ => ?_⟩
            refine R_goLeave fm_N227 (by omega) c2 hg h8 (fun M3 r3 f3 => ?_)
            exact go (by unfold q_y1; rw [if_pos z, if_neg y, if_pos w, if_pos hm]) M3 (by rw [f3 219 43 (by omega)]; exact k2) (h2.f (f3.mono (fun a i z => by omega))) r3
          · rw [if_neg hm]
            exact ⟨fun _ => go (by unfold q_y1; rw [if_pos z, if_neg y, if_pos w, if_neg hm]) M2 k2 h2 c2, fun v => absurd v (by decide)⟩
      · rw [if_neg w]
        refine ⟨fun v => absurd rfl v, fun _ => go ?_ M2 k2 h2 c2⟩
        unfold q_y1
        rw [if_pos z, if_neg w, if_neg w]
        split <;> rfl
    · refine ⟨fun y => absurd ((nI_leI (a := 4) (by decide) (by omega)).mp y) z, fun _ => ?_⟩
      refine B_goSlot hd h1 c1 hg (by omega) hts (-1) (fun M2 h2 c2 _ _ f2 => ?_)
      exact go (by unfold q_y1; rw [if_neg z]) M2 (by rw [f2 219 43 (by omega)]; exact k1) h2 c2
theorem R_years (hd : 7 ≤ d) (h : IR g un kp tx ts rw he sa M ML R) (hs : SO g un kp ts B) (hB : B + 100 < 2 ^ 20) (s v : Int32) : (∀ n, 1 ≤ n → n ≤ 60 → v = nI n → wI (d + 1) 230 [.ref 219, .int s, .int v] M ML R (RQ (q_yrA g (q_yr ts n g s)) (q_yrW (q_yr ts n g s)) M ML R)) ∧ (v < 1 ∨ 60 < v → wI (d + 1) 230 [.ref 219, .int s, .int v] M ML R (RQ (-1) rw M ML R)) := by
  have hb := h.b.u (a := 219) (i := 5) (x := 0) (by omega)
  constructor
  · rintro n h1 h2 rfl
    refine w230 (fun M1 e1 => ?_)
    subst e1
    refine R_in (by omega) ?_
    rw [show md_in (nI n) 1 60 = 1 from in_y (lo := 1) (hi := 60) (by decide) h1 h2]
    refine ⟨fun _ M3 e3 => ?_, fun z => absurd z (by decide)⟩
    subst e3
    refine B_then (by omega) (hb.u (a := 219) (i := 43) (x := s) (by omega)) (fun M4 b4 c4 f4 => ?_)
    exact R_years1 hd hs.2.2.2 h2 n 0 (by omega) (B := B) (by omega) hs.1 (by rw [f4 219 43 (by omega)]; exact fm_u_at) b4 c4
  · intro z
    refine w230 (fun M1 e1 => ?_)
    subst e1
    refine R_in (by omega) ?_
    rw [in_n z]
    exact ⟨fun y => absurd rfl y, fun _ => hb.q⟩
end law
