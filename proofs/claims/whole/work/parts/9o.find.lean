section find2
variable {fa fz : Nat → Nat} {ids : List Nat} {P d n x y pl t B : Nat} {M0 M M1 : Nat → Nat → Int32} {L0 ML L1 : Nat → Nat → Int64} {R0 R R1 : Nat → Nat → Option Nat} {S : Nat → Prop} {h h1 b b1 : Nat → Option Nat} {lo lo1 : Nat → Nat} {m s m1 s1 : Nat → Bool} {K : wK} {Z : (Nat → Nat → Int32) → Prop}
theorem R_hl1 (hZ : FZ P Z) (hil : ids.length ≤ 64) (IH : ∀ n', n' < n → PFn fa fz ids P Z ML R n') (hd : n + 1 ≤ d) (ht : t < 8) (hm : um m ≤ n) (hv : VA fa fz S b) (ho : ∀ pl, pl < 64 → m pl = false → b pl = h pl) (hl : ∀ t, t < 8 → lo t ≤ P) (hP : P ≤ lo t) (hK1 : OKr fa fz ids P Z ML R S b h lo m t K) (hK0 : NOr fa fz ids P Z ML R h lo m s t K) : ∀ k q m' s' M, q + k = 8 → FS fa fz ids Z h lo m' s' M → NC fa fz P h lo m (upb s t) m' s' → (∀ pl, pl < 64 → pl % 8 = t → pl / 8 < q → ¬ h pl = none → m' pl = true) → H202_48 d (nI t) (nI q) M ML R K := by
  intro k
  induction k with
  | zero =>
    intro q m' s' M hk hF hN hw
    refine h202_48 ⟨fun _ => ?_, fun y => absurd ((nI_leI (a := 8) (by decide) (by omega)).mpr (by omega)) y⟩
    exact hK0 M m' s' hF (NC.ms ht hN hP (fun pl hp e w => hw pl hp e (by omega) w)) (hN.2.1 t ht upb_at)
  | succ k ih =>
    intro q m' s' M hk hF hN hw
    have epl : (8 : Int32) * nI q + nI t = nI (8 * q + t) := by rw [show (8 : Int32) * nI q = nI (8 * q) from nI_mul 8 q, nI_add]
    have hpl : 8 * q + t < 64 := by omega
    have hwn : ∀ {m2 : Nat → Bool}, (∀ pl, pl < 64 → m' pl = true → m2 pl = true) → (¬ h (8 * q + t) = none → m2 (8 * q + t) = true) → ∀ pl, pl < 64 → pl % 8 = t → pl / 8 < q + 1 → ¬ h pl = none → m2 pl = true := fun {m2} c1 c2 pl hp e1 e2 w => by
      by_cases z : pl / 8 = q
      · have : pl = 8 * q + t := by omega
        rw [this] at w ⊢; exact c2 w
      · exact c1 pl hp (hw pl hp e1 (by omega) w)
    refine h202_48 ⟨fun y => absurd ((nI_leI (a := 8) (by decide) (by omega)).mp y) (by omega), fun _ => ⟨8 * q + t, epl, hpl, ?_⟩⟩
    obtain ⟨hn, hsm⟩ := hF.2.2.1 _ hpl
    rw [nI_1]
    cases eh : h (8 * q + t) with
    | none =>
      exact ⟨fun _ => ih (q + 1) m' s' M (by omega) hF hN (hwn (fun _ _ w => w) (fun w => absurd eh w)), fun w => absurd (hn eh) w⟩
    | some y =>
      obtain ⟨x', hx', ex', e1⟩ := hsm y eh
      refine ⟨fun w => absurd (e1.symm.trans w) (nI_nm1 (by omega)), fun _ => ⟨8 * q + t, epl, hpl, ?_⟩⟩
      rw [hF.2.2.2.2.1 _ hpl]
      by_cases z : m' (8 * q + t) = true
      · exact ⟨fun w => absurd w (ibt_1 z), fun _ => ih (q + 1) m' s' M (by omega) hF hN (hwn (fun _ _ w => w) (fun _ => z))⟩
      · have z := b_f z
        have hm0 : m (8 * q + t) = false := b_f (fun w => by rw [hN.1 _ hpl w] at z; cases z)
        have hbh := ho _ hpl hm0
        have hby : b (8 * q + t) = some y := by rw [hbh]; exact eh
        have hSy : S y := (hv.1 _ y hpl hby).1
        have hum : um (upb m' (8 * q + t)) + 1 ≤ n := by
          have a1 := um_up hpl z
          have a2 := um_le hN.1
          omega
        have off : ∀ pl, pl < 64 → upb m' (8 * q + t) pl = false → m pl = false := fun pl hp w => b_f (fun v => by have := (upb_f w).2; rw [hN.1 pl hp v] at this; cases this)
        refine ⟨fun _ => ⟨8 * q + t, epl, hpl, fun M3 e3 => ?_⟩, fun w => absurd (ibt_0 z) w⟩
        have F3 : FS fa fz ids Z h lo (upb m' (8 * q + t)) s' M3 := by subst e3; exact FS_mk hZ hF
        rw [e1]
        refine (IH (n - 1) (by omega) d (by omega)).1 x' h lo (upb m' (8 * q + t)) s' (tM S y) (up b (8 * q + t) none) M3 _ hx' (by omega) F3 (VA_out hv hpl hby) (fun w => w.2 ex') (fun pl hp w => ?_) hl ?_ ?_
        · rw [up_ne (upb_f w).1]; exact ho pl hp (off pl hp w)
        · intro M9 h1 lo1 m1 s1 b1 F9 v1 on1 of1 l1 c1
          refine ⟨fun _ => ⟨8 * q + t, epl, hpl, fun M5 e5 => ?_⟩, fun w => absurd w (by decide)⟩
          rw [ex'] at v1
          have bn : b1 (8 * q + t) = none := by rw [(on1 _ hpl upb_at).1, up_at]
          subst e5
          refine hK1 _ (up h1 (8 * q + t) none) lo1 m1 s1 b1 (FS_h0 hZ F9) (VA_ct (tUM hSy) v1) (fun pl hp w => ?_) (fun pl hp w => ?_) (fun k hk => ?_) c1
          · have ne : ¬ pl = 8 * q + t := fun e => by rw [e, hm0] at w; cases w
            have := on1 pl hp (upb_le (hN.1 pl hp w))
            rw [up_ne ne] at this
            rw [up_ne ne]
            exact this
          · by_cases ne : pl = 8 * q + t
            · rw [ne, up_at]; exact bn
            · rw [up_ne ne]
              by_cases v : upb m' (8 * q + t) pl = true
              · obtain ⟨a1, a2⟩ := on1 pl hp v
                rw [up_ne ne] at a1
                rw [a1, a2]; exact ho pl hp w
              · exact of1 pl hp (b_f v)
          · have a1 := l1 k hk
            have a2 := occ_out hpl hby hk
            rw [show (8 * q + t) % 8 = t by omega] at a2
            omega
        · intro M9 m1 s1 F9 nc ww
          rw [ex'] at ww
          have nc2 : NC fa fz P h lo m' s' m1 s1 := NC.mk hpl nc (fun y' hy => by rw [eh] at hy; cases hy; exact ww) (fun w => by rw [eh] at w; cases w)
          exact ⟨fun w => absurd rfl w, fun _ => ih (q + 1) m1 s1 M9 (by omega) F9 (hN.tr nc2) (hwn nc2.1 (fun _ => nc.1 _ hpl upb_at))⟩
theorem R_pfn (hZ : FZ P Z) (hP4 : P ≤ 4) (hil : ids.length ≤ 64) (hi : ∀ x, x < ids.length → ids.getD x 0 < 64 ∧ fz (ids.getD x 0) ≤ 8 ∧ fa (ids.getD x 0) ≤ 900) : ∀ n, PFn fa fz ids P Z ML R n := by
  intro n
  induction n using Nat.strongRecOn with
  | ind n IH =>
    intro d hd
    obtain ⟨d, rfl⟩ : ∃ e, d = e + 1 := ⟨d - 1, by omega⟩
    refine ⟨fun x h lo m s S b M K hx hm hF hv hS ho hl hK1 hK0 => ?_, fun t h lo m s S b M K ht hm hF hv ho hl hK1 hK0 => ?_⟩
    · have e3 : (3 : Int32) * nI x = nI (3 * x) := nI_mul 3 x
      have e31 : (3 : Int32) * nI x + 1 = nI (3 * x + 1) := by rw [e3]; exact nI_1 _
      obtain ⟨d1, d2, d3⟩ := hF.2.1.1 x hx
      refine w201 ⟨3 * x, e3, by omega, 3 * x + 1, e31, by omega, ?_⟩
      rw [d1, d2]
      exact R_fl1 hZ hil (fun x hx => ⟨(hi x hx).1, (hi x hx).2.1⟩) IH (by omega) hx hm hv hS ho hl hK1 hK0 8 (fa (ids.getD x 0)) m s M (by have := (hi x hx).2.1; omega) (Nat.le_refl _) hF NC.rfl (fun pl _ w v => absurd w.2.1 (by omega)) (by have := (hi x hx).2.2; omega)
    · refine w202 ⟨t, rfl, ht, ?_⟩
      have hlt := hl t ht
      rw [hZ.2 M hF.1, hF.2.2.2.1 t ht]
      refine ⟨fun y => ⟨t, rfl, ht, ?_⟩, fun y => ⟨t, rfl, ht, t, rfl, ht, fun M5 e5 => ?_⟩⟩
      · have hP : P ≤ lo t := (nI_leI (by omega) (by omega)).mp y
        rw [hF.2.2.2.2.2 t ht]
        by_cases z : s t = true
        · exact ⟨fun w => absurd w (ibt_1 z), fun _ => hK0 M m s hF NC.rfl z⟩
        · have z := b_f z
          refine ⟨fun _ => ⟨t, rfl, ht, fun M3 e3 => ?_⟩, fun w => absurd (ibt_0 z) w⟩
          subst e3
          exact R_hl1 hZ hil IH (by omega) ht hm hv ho hl hP hK1 hK0 8 0 m (upb s t) _ (by omega) (FS_ms hZ hF) NC.rfl (fun pl _ _ w => absurd w (by omega))
      · have hP : ¬ P ≤ lo t := fun w => y ((nI_leI (by omega) (by omega)).mpr w)
        subst e5
        refine hK1 _ h (fun k => lo k + ei k t) m s b (FS_lo hZ ht hF) hv (fun pl _ _ => ⟨rfl, rfl⟩) ho (fun k hk => by omega) (fun k hk => ?_)
        by_cases z : k = t
        · rw [ei, if_pos z, z]; omega
        · rw [ei, if_neg z]; exact hl k hk
end find2
