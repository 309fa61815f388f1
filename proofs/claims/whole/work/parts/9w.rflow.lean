section rflow2
variable {fa fz : Nat → Nat} {ids : List Nat} {d n B P x : Nat} {g gk : gr} {ts : List Nat} {rw : List Int64} {M0 M M1 : Nat → Nat → Int32} {L0 ML L1 : Nat → Nat → Int64} {R0 R R1 : Nat → Nat → Option Nat} {h : Nat → Option Nat} {lo : Nat → Nat} {T : Nat → Prop} {x1 : Int32} {K : wK}
theorem BR_Z (M0 : Nat → Nat → Int32) (L0 ML : Nat → Nat → Int64) (R0 R : Nat → Nat → Option Nat) (g : gr) (ts : List Nat) (rw : List Int64) : FZ (g 40) (fun M => BR g ts rw M0 L0 R0 M ML R) := ⟨fun M a i x h1 h2 b => b.u (by omega), fun M b => b.1 40 (by omega)⟩
/-- one PART is looked at -/
theorem R_one (hd : 66 ≤ d) {Z : (Nat → Nat → Int32) → Prop} (hZ : FZ P Z) (hP4 : P ≤ 4) (hil : ids.length ≤ 64) (hi : ∀ x, x < ids.length → ids.getD x 0 < 64 ∧ fz (ids.getD x 0) ≤ 8 ∧ fa (ids.getD x 0) ≤ 900) (hx : x < ids.length) (hv : VA fa fz T h) (hS : ¬ T (ids.getD x 0)) (hlo : ∀ t, t < 8 → lo t = occ h t ∧ lo t ≤ P) (hF : FS fa fz ids Z h lo (fun _ => false) (fun _ => false) M) (hK1 : ∀ M1 h1 (lo1 : Nat → Nat), Z M1 → FD fa fz ids M1 → FH ids h1 M1 → FL lo1 M1 → VA fa fz (tU T (ids.getD x 0)) h1 → (∀ t, t < 8 → lo1 t = occ h1 t ∧ lo1 t ≤ P) → K 1 M1 ML R) (hK0 : ∀ M1, Z M1 → FD fa fz ids M1 → FH ids h M1 → FL lo M1 → ¬ Fs fa fz P (tU T (ids.getD x 0)) → K 0 M1 ML R) : wI d 201 [.ref 219, .int (nI x)] M ML R K := by
  refine (R_pfn hZ hP4 hil hi 64 d hd).1 x h lo (fun _ => false) (fun _ => false) T h M K hx um_64 hF hv hS (fun _ _ _ => rfl) (fun t ht => (hlo t ht).2) ?_ ?_
  · intro M1 h1 lo1 m1 s1 b1 F1 v1 on1 of1 l1 c1
    have eb : ∀ pl, pl < 64 → b1 pl = h1 pl := fun pl hp => of1 pl hp rfl
    refine hK1 M1 h1 lo1 F1.1 F1.2.1 F1.2.2.1 F1.2.2.2.1 (VA_cg eb v1) (fun t ht => ⟨?_, c1 t ht⟩)
    have a1 := l1 t ht
    have a2 := (hlo t ht).1
    rw [← occ_cg eb ht]
    omega
  · intro M1 m1 s1 F1 nc ww
    refine hK0 M1 F1.1 F1.2.1 F1.2.2.1 F1.2.2.2.1 (fl_cut (m := m1) (s := s1) hv hS ⟨ww, fun pl hp hm => nc.2.2.1 pl hp hm rfl, fun t ht hs => ?_⟩)
    have := nc.2.2.2 t ht hs rfl
    rw [(hlo t ht).1] at this
    exact this
/-- rows are made empty -/
theorem R_clr2 {Z : (Nat → Nat → Int32) → Prop} (hZ : FZ P Z) {c x' : Int32} (hK : ∀ M1, FS fa fz ids Z h lo (fun _ => false) (fun _ => false) M1 → wI d 201 [.ref 219, .int x'] M1 ML R (fun v1 M1 L1 R1 => ((v1 = 0 → H203_68 d x1 (c + (0 : Int32)) (x' + (1 : Int32)) M1 L1 R1 K) ∧ (¬ v1 = 0 → H203_68 d x1 (c + (1 : Int32)) (x' + (1 : Int32)) M1 L1 R1 K)))) : ∀ j k M, k + j = 8 → Z M → FD fa fz ids M → FH ids h M → FL lo M → (∀ pl, pl < 64 → M 233 pl = 0) → (∀ t, t < k → M 234 t = 0) → H203_103 d x1 c x' (nI k) M ML R K := by
  intro j
  induction j with
  | zero =>
    intro k M hk z fd fh fl c3 c4
    refine h203_103 ⟨fun _ => hK M ⟨z, fd, fh, fl, fun pl hp => by rw [c3 pl hp]; rfl, fun t ht => by rw [c4 t (by omega)]; rfl⟩, fun y => absurd ((nI_leI (a := 8) (by decide) (by omega)).mpr (by omega)) y⟩
  | succ j ih =>
    intro k M hk z fd fh fl c3 c4
    refine h203_103 ⟨fun y => absurd ((nI_leI (a := 8) (by decide) (by omega)).mp y) (by omega), fun _ => ⟨k, rfl, by omega, fun M2 e2 => ?_⟩⟩
    rw [nI_1]
    subst e2
    refine ih (k + 1) _ (by omega) (hZ.1 _ _ _ _ (by omega) (by omega) z) (FD_fr fd (fun a i q => by rw [fm_u_off (by omega)])) (fun pl hp => by rw [fm_u_off (by decide)]; exact fh pl hp) (fun t ht => by rw [fm_u_off (by decide)]; exact fl t ht) (fun pl hp => by rw [fm_u_off (by decide)]; exact c3 pl hp) (fun t ht => ?_)
    by_cases y : t = k
    · rw [y, fm_u_at]
    · rw [fm_u_ix y]; exact c4 t (by omega)
theorem R_clr1 {Z : (Nat → Nat → Int32) → Prop} (hZ : FZ P Z) {c x' : Int32} (hK : ∀ M1, FS fa fz ids Z h lo (fun _ => false) (fun _ => false) M1 → wI d 201 [.ref 219, .int x'] M1 ML R (fun v1 M1 L1 R1 => ((v1 = 0 → H203_68 d x1 (c + (0 : Int32)) (x' + (1 : Int32)) M1 L1 R1 K) ∧ (¬ v1 = 0 → H203_68 d x1 (c + (1 : Int32)) (x' + (1 : Int32)) M1 L1 R1 K)))) : ∀ j k M, k + j = 64 → Z M → FD fa fz ids M → FH ids h M → FL lo M → (∀ pl, pl < k → M 233 pl = 0) → H203_79 d x1 c x' (nI k) M ML R K := by
  intro j
  induction j with
  | zero =>
    intro k M hk z fd fh fl c3
    exact h203_79 ⟨fun _ => R_clr2 hZ hK 8 0 M (by omega) z fd fh fl (fun pl hp => c3 pl (by omega)) (fun t ht => absurd ht (by omega)), fun y => absurd ((nI_leI (a := 64) (by decide) (by omega)).mpr (by omega)) y⟩
  | succ j ih =>
    intro k M hk z fd fh fl c3
    refine h203_79 ⟨fun y => absurd ((nI_leI (a := 64) (by decide) (by omega)).mp y) (by omega), fun _ => ⟨k, rfl, by omega, fun M2 e2 => ?_⟩⟩
    rw [nI_1]
    subst e2
    refine ih (k + 1) _ (by omega) (hZ.1 _ _ _ _ (by omega) (by omega) z) (FD_fr fd (fun a i q => by rw [fm_u_off (by omega)])) (fun pl hp => by rw [fm_u_off (by decide)]; exact fh pl hp) (fun t ht => by rw [fm_u_off (by decide)]; exact fl t ht) (fun t ht => ?_)
    by_cases y : t = k
    · rw [y, fm_u_at]
    · rw [fm_u_ix y]; exact c3 t (by omega)
theorem R_flow1 (hd : 66 ≤ d) {Z : (Nat → Nat → Int32) → Prop} (hZ : FZ P Z) (hP4 : P ≤ 4) (hnd : ids.Nodup) (hil : ids.length ≤ 64) (hi : ∀ x, x < ids.length → ids.getD x 0 < 64 ∧ fz (ids.getD x 0) ≤ 8 ∧ fa (ids.getD x 0) ≤ 900) (c : Nat) (hK : ∀ M1, Z M1 → M1 219 28 = nI ids.length → ∀ M2, M2 = fm_u M1 219 4 (0 : Int32) → (wV d 135 [.ref 219, .long (((M2 219 28)).toInt64)] M2 ML R (fun M2 L2 R2 => K (nI c) M2 L2 R2))) : ∀ j x T h (lo : Nat → Nat) cnt M, x + j = ids.length → Z M → FD fa fz ids M → FH ids h M → FL lo M → VA fa fz T h → (∀ i, T i → ∃ x', x' < x ∧ ids.getD x' 0 = i) → (∀ t, t < 8 → lo t = occ h t ∧ lo t ≤ P) → c = cnt + grd fa fz P (ids.drop x) T → H203_68 d x1 (nI cnt) (nI x) M ML R K := by
  intro j
  induction j with
  | zero =>
    intro x T h lo cnt M hx z fd fh fl hv hT hlo hc
    have : x = ids.length := by omega
    subst this
    rw [List.drop_length] at hc
    have e : c = cnt := by rw [hc]; rfl
    rw [← e]
    refine h203_68 ⟨fun _ => hK M z fd.2, fun y => absurd (by rw [fd.2]; exact (nI_leI (by omega) (by omega)).mpr (Nat.le_refl _)) y⟩
  | succ j ih =>
    intro x T h lo cnt M hx z fd fh fl hv hT hlo hc
    have hxl : x < ids.length := by omega
    have ed : ids.drop x = ids.getD x 0 :: ids.drop (x + 1) := by
      rw [List.drop_eq_getElem_cons hxl, List.getD_eq_getElem?_getD, List.getElem?_eq_getElem hxl, Option.getD_some]
    have hS : ¬ T (ids.getD x 0) := fun w => by
      obtain ⟨x', h1, h2⟩ := hT _ w
      have := gd_inj hnd (show x' < ids.length by omega) hxl h2
      omega
    refine h203_68 ⟨fun y => absurd (by rw [fd.2] at y; exact (nI_leI (by omega) (by omega)).mp y) (by omega), fun _ => ?_⟩
    refine R_clr1 (h := h) (lo := lo) (ids := ids) (fa := fa) (fz := fz) hZ (fun M1 F1 => ?_) 64 0 M (by omega) z fd fh fl (fun pl hp => absurd hp (by omega))
    rw [ed] at hc
    refine R_one hd hZ hP4 hil hi hxl hv hS hlo F1 (fun M2 h2 lo2 z2 fd2 fh2 fl2 v2 l2 => ?_) (fun M2 z2 fd2 fh2 fl2 nF => ?_)
    · have hF : Fs fa fz P (tU T (ids.getD x 0)) := ⟨h2, v2, fun t ht => by rw [← (l2 t ht).1]; exact (l2 t ht).2⟩
      rw [grd_y hF] at hc
      refine ⟨fun w => absurd w (by decide), fun _ => ?_⟩
      rw [nI_1, nI_1]
      refine ih (x + 1) (tU T (ids.getD x 0)) h2 lo2 (cnt + 1) M2 (by omega) z2 fd2 fh2 fl2 v2 (fun i q => ?_) l2 (by omega)
      rcases q with q | q
      · obtain ⟨x', h1, h2⟩ := hT _ q
        exact ⟨x', by omega, h2⟩
      · exact ⟨x, by omega, q.symm⟩
    · rw [grd_n nF] at hc
      refine ⟨fun _ => ?_, fun w => absurd rfl w⟩
      rw [nI_1, show nI cnt + 0 = nI cnt from Int32.add_zero _]
      refine ih (x + 1) T h lo cnt M2 (by omega) z2 fd2 fh2 fl2 hv (fun i q => ?_) hlo hc
      obtain ⟨x', h1, h2⟩ := hT _ q
      exact ⟨x', by omega, h2⟩
theorem R_fill2 {Z : (Nat → Nat → Int32) → Prop} (hZ : FZ P Z) (hK : ∀ M1, Z M1 → FD fa fz ids M1 → FH ids (fun _ => none) M1 → FL (fun _ => 0) M1 → H203_68 d x1 0 0 M1 ML R K) : ∀ j k M, k + j = 8 → Z M → FD fa fz ids M → (∀ pl, pl < 64 → M 231 pl = -1) → (∀ t, t < k → M 232 t = 0) → H203_45 d x1 (nI k) M ML R K := by
  intro j
  induction j with
  | zero =>
    intro k M hk z fd c1 c2
    exact h203_45 ⟨fun _ => hK M z fd (fun pl hp => ⟨fun _ => c1 pl hp, fun i w => (by cases w)⟩) (fun t ht => c2 t (by omega)), fun y => absurd ((nI_leI (a := 8) (by decide) (by omega)).mpr (by omega)) y⟩
  | succ j ih =>
    intro k M hk z fd c1 c2
    refine h203_45 ⟨fun y => absurd ((nI_leI (a := 8) (by decide) (by omega)).mp y) (by omega), fun _ => ⟨k, rfl, by omega, fun M2 e2 => ?_⟩⟩
    rw [nI_1]
    subst e2
    refine ih (k + 1) _ (by omega) (hZ.1 _ _ _ _ (by omega) (by omega) z) (FD_fr fd (fun a i q => by rw [fm_u_off (by omega)])) (fun pl hp => by rw [fm_u_off (by decide)]; exact c1 pl hp) (fun t ht => ?_)
    by_cases y : t = k
    · rw [y, fm_u_at]
    · rw [fm_u_ix y]; exact c2 t (by omega)
theorem R_fill1 {Z : (Nat → Nat → Int32) → Prop} (hZ : FZ P Z) (hK : ∀ M1, Z M1 → FD fa fz ids M1 → FH ids (fun _ => none) M1 → FL (fun _ => 0) M1 → H203_68 d x1 0 0 M1 ML R K) : ∀ j k M, k + j = 64 → Z M → FD fa fz ids M → (∀ pl, pl < k → M 231 pl = -1) → H203_24 d x1 (nI k) M ML R K := by
  intro j
  induction j with
  | zero =>
    intro k M hk z fd c1
    exact h203_24 ⟨fun _ => R_fill2 hZ hK 8 0 M (by omega) z fd (fun pl hp => c1 pl (by omega)) (fun t ht => absurd ht (by omega)), fun y => absurd ((nI_leI (a := 64) (by decide) (by omega)).mpr (by omega)) y⟩
  | succ j ih =>
    intro k M hk z fd c1
    refine h203_24 ⟨fun y => absurd ((nI_leI (a := 64) (by decide) (by omega)).mp y) (by omega), fun _ => ⟨k, rfl, by omega, fun M2 e2 => ?_⟩⟩
    rw [nI_1]
    subst e2
    refine ih (k + 1) _ (by omega) (hZ.1 _ _ _ _ (by omega) (by omega) z) (FD_fr fd (fun a i q => by rw [fm_u_off (by omega)])) (fun t ht => ?_)
    by_cases y : t = k
    · rw [y, fm_u_at]
    · rw [fm_u_ix y]; exact c1 t (by omega)
theorem R_flow {un : List gr} {kp : Nat → Option gr} {tx : List Nat} {he sa : List (Nat × Nat)} (hd : 66 ≤ d) (h : IR g un kp tx ts rw he sa M ML R) (hs : SO g un kp ts B) (hB : B < 2 ^ 20) (a : Int32) : wI (d + 1) 203 [.ref 219, .int a] M ML R (RQ (q_flA g a) (q_flW g rw a) M ML R) := by
  have hg := hs.1
  refine w203 (fun M1 e1 => ?_)
  subst e1
  have b1 := h.b.u (a := 219) (i := 5) (x := 0) (by omega)
  unfold q_flA q_flW
  refine R_in (by omega) ?_
  rcases rngc 1 8 (by decide) (by decide) a with ⟨n, n1, n2, rfl⟩ | w
  · have no : ¬ (nI n < 1 ∨ 8 < nI n) := fun w => w.elim (fun w => absurd ((nI_ltI (b := 1) (by omega) (by decide)).mp w) (by omega)) (fun w => absurd ((nI_ltI (a := 8) (by decide) (by omega)).mp w) (by omega))
    rw [if_neg no, if_neg no, nI_clamp (by omega), show md_in (nI n) 1 8 = 1 from in_y (lo := 1) (hi := 8) (by decide) n1 n2]
    refine ⟨fun _ => R_due (by omega) n2 hg hB b1 (fun M3 b3 hD3 => ?_), fun w => absurd w (by decide)⟩
    have hZ := BR_Z M ML ML R R g ts rw
    have hmem : ∀ x, x < (fid g n 64).length → (fid g n 64).getD x 0 < 64 ∧ fpr g n ((fid g n 64).getD x 0) = true := fun x hx => fid_mem.mp (gd_mem hx)
    refine R_fill1 (fa := ffa g) (fz := ffz g n) (ids := fid g n 64) (P := g 40) hZ (fun M4 z4 fd4 fh4 fl4 => ?_) 64 0 M3 (by omega) b3 hD3 (fun pl hp => absurd hp (by omega))
    refine R_flow1 (by omega) hZ hg.2.1 fid_nd (fid_len _) (fun x hx => ⟨(hmem x hx).1, Nat.le_trans (ffz_b hg (hmem x hx).1 (hmem x hx).2).2 n2, Nat.le_of_lt (ffa_lt hg (hmem x hx).1 (hmem x hx).2 n2)⟩) (grd (ffa g) (ffz g n) (g 40) (fid g n 64) (fun _ => False)) (fun M5 z5 e5 M6 e6 => ?_) (fid g n 64).length 0 (fun _ => False) (fun _ => none) (fun _ => 0) 0 M4 (by omega) z4 fd4 fh4 fl4 ⟨fun pl i _ w => (by cases w), fun i w => w.elim, fun _ _ _ _ _ w => (by cases w)⟩ (fun i w => w.elim) (fun t ht => ⟨occ_0.symm, Nat.zero_le _⟩) (by rw [List.drop_zero, Nat.zero_add])
    subst e6
    refine B_tell (by omega) z5.z (by decide) _ (fun M7 L7 b7 f7 l7 => ?_)
    rw [fm_u_ix (by decide), e5] at b7
    exact b7.q
  · have w2 : a < 1 ∨ 8 < a := w
    rw [if_pos w2, if_pos w2, show md_in a 1 8 = 0 from in_n w2]
    exact ⟨fun y => absurd rfl y, fun _ => b1.q⟩
end rflow2
