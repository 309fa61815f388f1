/-! the reference looks for a way -/
noncomputable def grd (fa fz : Nat → Nat) (P : Nat) : List Nat → (Nat → Prop) → Nat
  | [], _ => 0
  | i :: r, T => @ite _ (Fs fa fz P (tU T i)) (Classical.propDecidable _) (grd fa fz P r (tU T i) + 1) (grd fa fz P r T)
def NC (fa fz : Nat → Nat) (P : Nat) (h : Nat → Option Nat) (lo : Nat → Nat) (m s m1 s1 : Nat → Bool) : Prop := (∀ pl, pl < 64 → m pl = true → m1 pl = true) ∧ (∀ t, t < 8 → s t = true → s1 t = true) ∧ (∀ pl, pl < 64 → m1 pl = true → m pl = false → (∀ y, h pl = some y → ∀ pl', pl' < 64 → fl_in fa fz y pl' → m1 pl' = true) ∧ (h pl = none → s1 (pl % 8) = true)) ∧ (∀ t, t < 8 → s1 t = true → s t = false → P ≤ lo t ∧ ∀ pl, pl < 64 → pl % 8 = t → ¬ h pl = none → m1 pl = true)
section nc
variable {fa fz : Nat → Nat} {P pl t : Nat} {h : Nat → Option Nat} {lo : Nat → Nat} {m s m1 s1 m2 s2 : Nat → Bool}
theorem b_f {b : Bool} (h : ¬ b = true) : b = false := by cases b <;> simp_all
theorem NC.rfl : NC fa fz P h lo m s m s := ⟨fun _ _ w => w, fun _ _ w => w, fun pl _ w v => absurd (w.symm.trans v) (by decide), fun t _ w v => absurd (w.symm.trans v) (by decide)⟩
theorem NC.tr (a : NC fa fz P h lo m s m1 s1) (b : NC fa fz P h lo m1 s1 m2 s2) : NC fa fz P h lo m s m2 s2 := by
  obtain ⟨a1, a2, a3, a4⟩ := a
  obtain ⟨b1, b2, b3, b4⟩ := b
  refine ⟨fun pl hp w => b1 pl hp (a1 pl hp w), fun t ht w => b2 t ht (a2 t ht w), fun pl hp w v => ?_, fun t ht w v => ?_⟩
  · by_cases z : m1 pl = true
    · obtain ⟨c1, c2⟩ := a3 pl hp z v
      exact ⟨fun y hy pl' hp' hw => b1 pl' hp' (c1 y hy pl' hp' hw), fun e => b2 _ (by omega) (c2 e)⟩
    · exact b3 pl hp w (b_f z)
  · by_cases z : s1 t = true
    · obtain ⟨c1, c2⟩ := a4 t ht z v
      exact ⟨c1, fun pl hp e y => b1 pl hp (c2 pl hp e y)⟩
    · exact b4 t ht w (b_f z)
theorem NC.mk (hpl : pl < 64) (b : NC fa fz P h lo (upb m pl) s m1 s1) (c1 : ∀ y, h pl = some y → ∀ pl', pl' < 64 → fl_in fa fz y pl' → m1 pl' = true) (c2 : h pl = none → s1 (pl % 8) = true) : NC fa fz P h lo m s m1 s1 := by
  obtain ⟨b1, b2, b3, b4⟩ := b
  refine ⟨fun k hk w => b1 k hk (upb_le w), b2, fun k hk w v => ?_, b4⟩
  by_cases z : k = pl
  · rw [z]; exact ⟨c1, c2⟩
  · exact b3 k hk w (by rw [upb_ne z]; exact v)
theorem NC.ms (ht : t < 8) (b : NC fa fz P h lo m (upb s t) m1 s1) (c1 : P ≤ lo t) (c2 : ∀ pl, pl < 64 → pl % 8 = t → ¬ h pl = none → m1 pl = true) : NC fa fz P h lo m s m1 s1 := by
  obtain ⟨b1, b2, b3, b4⟩ := b
  refine ⟨b1, fun k hk w => b2 k hk (upb_le w), b3, fun k hk w v => ?_⟩
  by_cases z : k = t
  · rw [z]; exact ⟨c1, c2⟩
  · exact b4 k hk w (by rw [upb_ne z]; exact v)
end nc
def ibt (b : Bool) : Int32 := if b = true then 1 else 0
/-- the reference's rows while it looks -/
def FD (fa fz : Nat → Nat) (ids : List Nat) (M : Nat → Nat → Int32) : Prop := (∀ x, x < ids.length → M 230 (3 * x) = nI (ids.getD x 0 / 8) ∧ M 230 (3 * x + 1) = nI (fa (ids.getD x 0)) ∧ M 230 (3 * x + 2) = nI (fz (ids.getD x 0))) ∧ M 219 28 = nI ids.length
def FH (ids : List Nat) (h : Nat → Option Nat) (M : Nat → Nat → Int32) : Prop := ∀ pl, pl < 64 → (h pl = none → M 231 pl = -1) ∧ ∀ i, h pl = some i → ∃ x, x < ids.length ∧ ids.getD x 0 = i ∧ M 231 pl = nI x
def FL (lo : Nat → Nat) (M : Nat → Nat → Int32) : Prop := ∀ t, t < 8 → M 232 t = nI (lo t)
def FM (m s : Nat → Bool) (M : Nat → Nat → Int32) : Prop := (∀ pl, pl < 64 → M 233 pl = ibt (m pl)) ∧ ∀ t, t < 8 → M 234 t = ibt (s t)
section find
variable {fa fz : Nat → Nat} {ids : List Nat} {P d n x y pl t B : Nat} {g gk : gr} {ts : List Nat} {rw : List Int64} {M0 M M1 : Nat → Nat → Int32} {L0 ML L1 : Nat → Nat → Int64} {R0 R R1 : Nat → Nat → Option Nat} {S : Nat → Prop} {h h1 b b1 : Nat → Option Nat} {lo lo1 : Nat → Nat} {m s m1 s1 : Nat → Bool} {K : wK}
def FS (fa fz : Nat → Nat) (ids : List Nat) (Z : (Nat → Nat → Int32) → Prop) (h : Nat → Option Nat) (lo : Nat → Nat) (m s : Nat → Bool) (M : Nat → Nat → Int32) : Prop := Z M ∧ FD fa fz ids M ∧ FH ids h M ∧ FL lo M ∧ FM m s M
/-- what stands beside -/
def FZ (P : Nat) (Z : (Nat → Nat → Int32) → Prop) : Prop := (∀ M a i x, 231 ≤ a → a ≤ 234 → Z M → Z (fm_u M a i x)) ∧ ∀ M, Z M → M 220 40 = nI P
variable {Z : (Nat → Nat → Int32) → Prop}
theorem FS_mk (hZ : FZ P Z) (hF : FS fa fz ids Z h lo m s M) : FS fa fz ids Z h lo (upb m pl) s (fm_u M 233 pl 1) := by
  obtain ⟨a, b, c, d, e⟩ := hF
  refine ⟨hZ.1 _ _ _ _ (by omega) (by omega) a, ⟨fun x hx => ?_, ?_⟩, fun k hk => ?_, fun k hk => ?_, fun k hk => ?_, fun k hk => ?_⟩
  · rw [fm_u_off (by decide)]; exact b.1 x hx
  · rw [fm_u_off (by decide)]; exact b.2
  · rw [fm_u_off (by decide)]; exact c k hk
  · rw [fm_u_off (by decide)]; exact d k hk
  · by_cases z : k = pl
    · rw [z, fm_u_at, upb_at]; rfl
    · rw [fm_u_ix z, upb_ne z]; exact e.1 k hk
  · rw [fm_u_off (by decide)]; exact e.2 k hk
theorem FS_ms (hZ : FZ P Z) (hF : FS fa fz ids Z h lo m s M) : FS fa fz ids Z h lo m (upb s t) (fm_u M 234 t 1) := by
  obtain ⟨a, b, c, d, e⟩ := hF
  refine ⟨hZ.1 _ _ _ _ (by omega) (by omega) a, ⟨fun x hx => ?_, ?_⟩, fun k hk => ?_, fun k hk => ?_, fun k hk => ?_, fun k hk => ?_⟩
  · rw [fm_u_off (by decide)]; exact b.1 x hx
  · rw [fm_u_off (by decide)]; exact b.2
  · rw [fm_u_off (by decide)]; exact c k hk
  · rw [fm_u_off (by decide)]; exact d k hk
  · rw [fm_u_off (by decide)]; exact e.1 k hk
  · by_cases z : k = t
    · rw [z, fm_u_at, upb_at]; rfl
    · rw [fm_u_ix z, upb_ne z]; exact e.2 k hk
theorem FS_ho (hZ : FZ P Z) (hx : x < ids.length) (hF : FS fa fz ids Z h lo m s M) : FS fa fz ids Z (up h pl (some (ids.getD x 0))) lo m s (fm_u M 231 pl (nI x)) := by
  obtain ⟨a, b, c, d, e⟩ := hF
  refine ⟨hZ.1 _ _ _ _ (by omega) (by omega) a, ⟨fun x hx => ?_, ?_⟩, fun k hk => ?_, fun k hk => ?_, fun k hk => ?_, fun k hk => ?_⟩
  · rw [fm_u_off (by decide)]; exact b.1 x hx
  · rw [fm_u_off (by decide)]; exact b.2
  · by_cases z : k = pl
    · rw [z, fm_u_at, up_at]
      exact ⟨fun w => (by cases w), fun i hi => ⟨x, hx, Option.some.inj hi, rfl⟩⟩
    · rw [fm_u_ix z, up_ne z]; exact c k hk
  · rw [fm_u_off (by decide)]; exact d k hk
  · rw [fm_u_off (by decide)]; exact e.1 k hk
  · rw [fm_u_off (by decide)]; exact e.2 k hk
theorem FS_h0 (hZ : FZ P Z) (hF : FS fa fz ids Z h lo m s M) : FS fa fz ids Z (up h pl none) lo m s (fm_u M 231 pl (-1)) := by
  obtain ⟨a, b, c, d, e⟩ := hF
  refine ⟨hZ.1 _ _ _ _ (by omega) (by omega) a, ⟨fun x hx => ?_, ?_⟩, fun k hk => ?_, fun k hk => ?_, fun k hk => ?_, fun k hk => ?_⟩
  · rw [fm_u_off (by decide)]; exact b.1 x hx
  · rw [fm_u_off (by decide)]; exact b.2
  · by_cases z : k = pl
    · rw [z, fm_u_at, up_at]
      exact ⟨fun _ => rfl, fun i hi => (by cases hi)⟩
    · rw [fm_u_ix z, up_ne z]; exact c k hk
  · rw [fm_u_off (by decide)]; exact d k hk
  · rw [fm_u_off (by decide)]; exact e.1 k hk
  · rw [fm_u_off (by decide)]; exact e.2 k hk
theorem FS_lo (hZ : FZ P Z) (ht : t < 8) (hF : FS fa fz ids Z h lo m s M) : FS fa fz ids Z h (fun k => lo k + ei k t) m s (fm_u M 232 t (M 232 t + 1)) := by
  obtain ⟨a, b, c, d, e⟩ := hF
  refine ⟨hZ.1 _ _ _ _ (by omega) (by omega) a, ⟨fun x hx => ?_, ?_⟩, fun k hk => ?_, fun k hk => ?_, fun k hk => ?_, fun k hk => ?_⟩
  · rw [fm_u_off (by decide)]; exact b.1 x hx
  · rw [fm_u_off (by decide)]; exact b.2
  · rw [fm_u_off (by decide)]; exact c k hk
  · dsimp only
    by_cases z : k = t
    · rw [z, fm_u_at, d t ht, nI_1, ei, if_pos rfl]
    · rw [fm_u_ix z, ei, if_neg z]; exact d k hk
  · rw [fm_u_off (by decide)]; exact e.1 k hk
  · rw [fm_u_off (by decide)]; exact e.2 k hk
def OKf (fa fz : Nat → Nat) (ids : List Nat) (P : Nat) (Z : (Nat → Nat → Int32) → Prop) (ML : Nat → Nat → Int64) (R : Nat → Nat → Option Nat) (S : Nat → Prop) (b h : Nat → Option Nat) (lo : Nat → Nat) (m : Nat → Bool) (x : Nat) (K : wK) : Prop := ∀ M1 h1 lo1 m1 s1 b1, FS fa fz ids Z h1 lo1 m1 s1 M1 → VA fa fz (tU S x) b1 → (∀ pl, pl < 64 → m pl = true → b1 pl = b pl ∧ h1 pl = h pl) → (∀ pl, pl < 64 → m pl = false → b1 pl = h1 pl) → (∀ t, t < 8 → lo1 t + occ b t = lo t + occ b1 t) → (∀ t, t < 8 → lo1 t ≤ P) → K 1 M1 ML R
def OKr (fa fz : Nat → Nat) (ids : List Nat) (P : Nat) (Z : (Nat → Nat → Int32) → Prop) (ML : Nat → Nat → Int64) (R : Nat → Nat → Option Nat) (S : Nat → Prop) (b h : Nat → Option Nat) (lo : Nat → Nat) (m : Nat → Bool) (t : Nat) (K : wK) : Prop := ∀ M1 h1 lo1 m1 s1 b1, FS fa fz ids Z h1 lo1 m1 s1 M1 → VA fa fz S b1 → (∀ pl, pl < 64 → m pl = true → b1 pl = b pl ∧ h1 pl = h pl) → (∀ pl, pl < 64 → m pl = false → b1 pl = h1 pl) → (∀ k, k < 8 → lo1 k + occ b k = lo k + occ b1 k + ei k t) → (∀ t, t < 8 → lo1 t ≤ P) → K 1 M1 ML R
def NOf (fa fz : Nat → Nat) (ids : List Nat) (P : Nat) (Z : (Nat → Nat → Int32) → Prop) (ML : Nat → Nat → Int64) (R : Nat → Nat → Option Nat) (h : Nat → Option Nat) (lo : Nat → Nat) (m s : Nat → Bool) (x : Nat) (K : wK) : Prop := ∀ M1 m1 s1, FS fa fz ids Z h lo m1 s1 M1 → NC fa fz P h lo m s m1 s1 → (∀ pl, pl < 64 → fl_in fa fz x pl → m1 pl = true) → K 0 M1 ML R
def NOr (fa fz : Nat → Nat) (ids : List Nat) (P : Nat) (Z : (Nat → Nat → Int32) → Prop) (ML : Nat → Nat → Int64) (R : Nat → Nat → Option Nat) (h : Nat → Option Nat) (lo : Nat → Nat) (m s : Nat → Bool) (t : Nat) (K : wK) : Prop := ∀ M1 m1 s1, FS fa fz ids Z h lo m1 s1 M1 → NC fa fz P h lo m s m1 s1 → s1 t = true → K 0 M1 ML R
def PFn (fa fz : Nat → Nat) (ids : List Nat) (P : Nat) (Z : (Nat → Nat → Int32) → Prop) (ML : Nat → Nat → Int64) (R : Nat → Nat → Option Nat) (n : Nat) : Prop := ∀ d, n + 2 ≤ d → (∀ x h lo m s S b M K, x < ids.length → um m ≤ n → FS fa fz ids Z h lo m s M → VA fa fz S b → ¬ S (ids.getD x 0) → (∀ pl, pl < 64 → m pl = false → b pl = h pl) → (∀ t, t < 8 → lo t ≤ P) → OKf fa fz ids P Z ML R S b h lo m (ids.getD x 0) K → NOf fa fz ids P Z ML R h lo m s (ids.getD x 0) K → wI d 201 [.ref 219, .int (nI x)] M ML R K) ∧ (∀ t h lo m s S b M K, t < 8 → um m ≤ n → FS fa fz ids Z h lo m s M → VA fa fz S b → (∀ pl, pl < 64 → m pl = false → b pl = h pl) → (∀ t, t < 8 → lo t ≤ P) → OKr fa fz ids P Z ML R S b h lo m t K → NOr fa fz ids P Z ML R h lo m s t K → wI d 202 [.ref 219, .int (nI t)] M ML R K)
theorem ibt_0 (e : m pl = false) : ibt (m pl) = 0 := by rw [e]; rfl
theorem ibt_1 (e : m pl = true) : ¬ ibt (m pl) = 0 := by rw [e]; decide
theorem R_fl1 (hZ : FZ P Z) (hil : ids.length ≤ 64) (hi : ∀ x, x < ids.length → ids.getD x 0 < 64 ∧ fz (ids.getD x 0) ≤ 8) (IH : ∀ n', n' < n → PFn fa fz ids P Z ML R n') (hd : n + 1 ≤ d) (hx : x < ids.length) (hm : um m ≤ n) (hv : VA fa fz S b) (hS : ¬ S (ids.getD x 0)) (ho : ∀ pl, pl < 64 → m pl = false → b pl = h pl) (hl : ∀ t, t < 8 → lo t ≤ P) (hK1 : OKf fa fz ids P Z ML R S b h lo m (ids.getD x 0) K) (hK0 : NOf fa fz ids P Z ML R h lo m s (ids.getD x 0) K) : ∀ k t m' s' M, fz (ids.getD x 0) ≤ t + k → fa (ids.getD x 0) ≤ t → FS fa fz ids Z h lo m' s' M → NC fa fz P h lo m s m' s' → (∀ pl, pl < 64 → fl_in fa fz (ids.getD x 0) pl → pl % 8 < t → m' pl = true) → t < 1000 → H201_20 d (nI x) (nI (ids.getD x 0 / 8)) (nI t) M ML R K := by
  obtain ⟨hE, hE8⟩ := hi x hx
  have e3 : (3 : Int32) * nI x = nI (3 * x) := nI_mul 3 x
  have e32 : (3 : Int32) * nI x + 2 = nI (3 * x + 2) := by rw [e3]; exact nI_add _ 2
  intro k
  induction k with
  | zero =>
    intro t m' s' M hk hf hF hN hw ht
    have hD := (hF.2.1.1 x hx).2.2
    refine h201_20 ⟨3 * x + 2, e32, by omega, fun _ => ?_, fun y => absurd (by rw [hD]; exact (nI_leI (by omega) (by omega)).mpr (by omega)) y⟩
    exact hK0 M m' s' hF hN (fun pl hp hi => hw pl hp hi (by have := hi.2.2; omega))
  | succ k ih =>
    intro t m' s' M hk hf hF hN hw ht
    have hD := (hF.2.1.1 x hx).2.2
    refine h201_20 ⟨3 * x + 2, e32, by omega, fun y => ?_, fun y => ?_⟩
    · have y2 : fz (ids.getD x 0) ≤ t := by rw [hD] at y; exact (nI_leI (by omega) (by omega)).mp y
      exact hK0 M m' s' hF hN (fun pl hp hi => hw pl hp hi (by have := hi.2.2; omega))
    · have ht8 : t < fz (ids.getD x 0) := Nat.lt_of_not_le (fun w => y (by rw [hD]; exact (nI_leI (by omega) (by omega)).mpr w))
      generalize hq : ids.getD x 0 / 8 = q at *
      have epl : (8 : Int32) * nI q + nI t = nI (8 * q + t) := by rw [show (8 : Int32) * nI q = nI (8 * q) from nI_mul 8 q, nI_add]
      have hpl : 8 * q + t < 64 := by omega
      have hwin : fl_in fa fz (ids.getD x 0) (8 * q + t) := ⟨by omega, by omega, by omega⟩
      have hwn : ∀ {m2 : Nat → Bool}, (∀ pl, pl < 64 → m' pl = true → m2 pl = true) → m2 (8 * q + t) = true → ∀ pl, pl < 64 → fl_in fa fz (ids.getD x 0) pl → pl % 8 < t + 1 → m2 pl = true := fun {m2} c1 c2 pl hp hi h8 => by
        by_cases z : pl % 8 = t
        · have : pl = 8 * q + t := by have := hi.1; omega
          rw [this]; exact c2
        · exact c1 pl hp (hw pl hp hi (by omega))
      refine ⟨8 * q + t, epl, hpl, ?_⟩
      rw [hF.2.2.2.2.1 _ hpl, nI_1]
      by_cases z : m' (8 * q + t) = true
      · exact ⟨fun w => absurd w (ibt_1 z), fun _ => ih (t + 1) m' s' M (by omega) (by omega) hF hN (hwn (fun _ _ w => w) z) (by omega)⟩
      · have z := b_f z
        have hm0 : m (8 * q + t) = false := b_f (fun w => by rw [hN.1 _ hpl w] at z; cases z)
        have hbh := ho _ hpl hm0
        have hum : um (upb m' (8 * q + t)) + 1 ≤ n := by
          have a1 := um_up hpl z
          have a2 := um_le hN.1
          omega
        refine ⟨fun _ => ⟨8 * q + t, epl, hpl, fun M3 e3 => ⟨8 * q + t, epl, hpl, ?_⟩⟩, fun w => absurd (ibt_0 z) w⟩
        have F3 : FS fa fz ids Z h lo (upb m' (8 * q + t)) s' M3 := by subst e3; exact FS_mk hZ hF
        obtain ⟨hn, hsm⟩ := F3.2.2.1 _ hpl
        have off : ∀ pl, pl < 64 → upb m' (8 * q + t) pl = false → m pl = false := fun pl hp w => b_f (fun v => by have := (upb_f w).2; rw [hN.1 pl hp v] at this; cases this)
        -- success
        have win : ∀ {M6 M7 : Nat → Nat → Int32} {h1 : Nat → Option Nat} {lo1 : Nat → Nat} {m1 s1 : Nat → Bool} {b1 : Nat → Option Nat}, FS fa fz ids Z h1 lo1 m1 s1 M6 → M7 = fm_u M6 231 (8 * q + t) (nI x) → VA fa fz S b1 → b1 (8 * q + t) = none → (∀ pl, pl < 64 → ¬ pl = 8 * q + t → upb m' (8 * q + t) pl = true → b1 pl = b pl ∧ h1 pl = h pl) → (∀ pl, pl < 64 → upb m' (8 * q + t) pl = false → b1 pl = h1 pl) → (∀ k, k < 8 → lo1 k + occ b k = lo k + occ b1 k + ei k t) → (∀ t, t < 8 → lo1 t ≤ P) → K 1 M7 ML R := fun {M6 M7 h1 lo1 m1 s1 b1} F6 e7 v1 bn on1 of1 l1 c1 => by
          subst e7
          refine hK1 _ (up h1 (8 * q + t) (some (ids.getD x 0))) lo1 m1 s1 (up b1 (8 * q + t) (some (ids.getD x 0))) (FS_ho hZ hx F6) (VA_put v1 hpl bn hS hwin) (fun pl hp w => ?_) (fun pl hp w => ?_) (fun k hk => ?_) c1
          · have ne : ¬ pl = 8 * q + t := fun e => by rw [e, hm0] at w; cases w
            rw [up_ne ne, up_ne ne]
            exact on1 pl hp ne (upb_le (hN.1 pl hp w))
          · by_cases ne : pl = 8 * q + t
            · rw [ne, up_at, up_at]
            · rw [up_ne ne, up_ne ne]
              by_cases v : upb m' (8 * q + t) pl = true
              · obtain ⟨a1, a2⟩ := on1 pl hp ne v
                rw [a1, a2]; exact ho pl hp w
              · exact of1 pl hp (b_f v)
          · rw [occ_put hpl bn hk, show (8 * q + t) % 8 = t by omega]
            have := l1 k hk
            omega
        cases eh : h (8 * q + t) with
        | none =>
          have e1 := hn eh
          refine ⟨fun _ => ⟨8 * q + t, epl, hpl, fun _ => ?_, fun w => absurd e1 w⟩, fun w => absurd (e1.symm.trans w).symm (nI_nm1 (by omega))⟩
          refine (IH (n - 1) (by omega) d (by omega)).2 t h lo (upb m' (8 * q + t)) s' S b M3 _ (by omega) (by omega) F3 hv (fun pl hp w => ho pl hp (off pl hp w)) hl ?_ ?_
          · intro M6 h1 lo1 m1 s1 b1 F6 v1 on1 of1 l1 c1
            refine ⟨fun w => absurd w (by decide), fun _ => ⟨8 * q + t, epl, hpl, fun M7 e7 => ?_⟩⟩
            refine win F6 e7 v1 ?_ (fun pl hp _ w => on1 pl hp w) of1 l1 c1
            rw [(on1 _ hpl upb_at).1, hbh, eh]
          · intro M6 m1 s1 F6 nc st
            have nc2 : NC fa fz P h lo m' s' m1 s1 := NC.mk hpl nc (fun y hy => by rw [eh] at hy; cases hy) (fun _ => by rw [show (8 * q + t) % 8 = t by omega]; exact st)
            exact ⟨fun _ => ih (t + 1) m1 s1 M6 (by omega) (by omega) F6 (hN.tr nc2) (hwn nc2.1 (nc.1 _ hpl upb_at)) (by omega), fun w => absurd rfl w⟩
        | some y =>
          obtain ⟨x', hx', ex', e1⟩ := hsm y eh
          have hne : ¬ x' = x := fun e => by
            rw [e] at ex'
            have : S (ids.getD x 0) := by rw [ex']; exact (hv.1 _ y hpl (by rw [hbh]; exact eh)).1
            exact hS this
          refine ⟨fun _ => ⟨8 * q + t, epl, hpl, fun w => absurd (e1.symm.trans w) (nI_nm1 (by omega)), fun _ => ⟨8 * q + t, epl, hpl, ?_⟩⟩, fun w => absurd ((nI_eq (by omega) (by omega)).mp (e1.symm.trans w)) hne⟩
          rw [e1]
          have hby : b (8 * q + t) = some y := by rw [hbh]; exact eh
          have hSy : S y := (hv.1 _ y hpl hby).1
          refine (IH (n - 1) (by omega) d (by omega)).1 x' h lo (upb m' (8 * q + t)) s' (tM S y) (up b (8 * q + t) none) M3 _ hx' (by omega) F3 (VA_out hv hpl hby) (fun w => w.2 ex') (fun pl hp w => ?_) hl ?_ ?_
          · rw [up_ne (upb_f w).1]; exact ho pl hp (off pl hp w)
          · intro M9 h1 lo1 m1 s1 b1 F9 v1 on1 of1 l1 c1
            refine ⟨fun w => absurd w (by decide), fun _ => ⟨8 * q + t, epl, hpl, fun M10 e10 => ?_⟩⟩
            rw [ex'] at v1
            refine win F9 e10 (VA_ct (tUM hSy) v1) ?_ (fun pl hp ne w => ?_) of1 (fun k hk => ?_) c1
            · rw [(on1 _ hpl upb_at).1, up_at]
            · have := on1 pl hp w
              rw [up_ne ne] at this
              exact this
            · have a1 := l1 k hk
              have a2 := occ_out hpl hby hk
              rw [show (8 * q + t) % 8 = t by omega] at a2
              omega
          · intro M9 m1 s1 F9 nc ww
            rw [ex'] at ww
            have nc2 : NC fa fz P h lo m' s' m1 s1 := NC.mk hpl nc (fun y' hy => by rw [eh] at hy; cases hy; exact ww) (fun w => by rw [eh] at w; cases w)
            exact ⟨fun _ => ih (t + 1) m1 s1 M9 (by omega) (by omega) F9 (hN.tr nc2) (hwn nc2.1 (nc.1 _ hpl upb_at)) (by omega), fun w => absurd rfl w⟩
end find
