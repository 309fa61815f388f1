noncomputable def q_flA (g : gr) (a : Int32) : Int32 := if a < 1 ∨ 8 < a then -1 else nI (grd (ffa g) (ffz g a.toNatClampNeg) (g 40) (fid g a.toNatClampNeg 64) (fun _ => False))
def q_flW (g : gr) (rw : List Int64) (a : Int32) : List Int64 := if a < 1 ∨ 8 < a then rw else [nL (fid g a.toNatClampNeg 64).length]
section cflow2
variable {fa fz : Nat → Nat} {d x u v P n B : Nat} {h : Nat → Option Nat} {T : Nat → Prop} {lo : Nat → Nat} {g gk : gr} {ts : List Nat} {rw : List Int64} {M0 M M1 Mq : Nat → Nat → Int32} {L0 ML : Nat → Nat → Int64} {R : Nat → Nat → Option Nat}
theorem grd_y {i : Nat} {r : List Nat} (hF : Fs fa fz P (tU T i)) : grd fa fz P (i :: r) T = grd fa fz P r (tU T i) + 1 := by
  rw [grd]
  exact @if_pos _ (Classical.propDecidable _) hF _ _ _
theorem grd_n {i : Nat} {r : List Nat} (hF : ¬ Fs fa fz P (tU T i)) : grd fa fz P (i :: r) T = grd fa fz P r T := by
  rw [grd]
  exact @if_neg _ (Classical.propDecidable _) hF _ _ _
theorem grd_le : ∀ (r : List Nat) (T : Nat → Prop), grd fa fz P r T ≤ r.length := by
  intro r
  induction r with
  | nil => intro T; exact Nat.le_refl _
  | cons i r ih =>
    intro T
    by_cases z : Fs fa fz P (tU T i)
    · rw [grd_y z, List.length_cons]; have := ih (tU T i); omega
    · rw [grd_n z, List.length_cons]; have := ih T; omega
def frs (g : gr) (n k : Nat) : List Nat := (List.range' k (64 - k)).filter (fpr g n)
theorem frs_s {k : Nat} (hk : k < 64) : frs g n k = if fpr g n k = true then k :: frs g n (k + 1) else frs g n (k + 1) := by
  unfold frs
  rw [show 64 - k = (64 - (k + 1)) + 1 by omega, List.range'_succ, List.filter_cons]
theorem frs_0 : frs g n 0 = fid g n 64 := by
  unfold frs fid
  rw [List.range_eq_range']
theorem frs_64 : frs g n 64 = [] := rfl
/-- rows of the windows -/
def GV (g : gr) (n : Nat) (M : Nat → Nat → Int32) : Prop := ∀ i, i < 64 → M 56 i = nI (ffz g n i) ∧ (fpr g n i = true → M 55 i = nI (ffa g i))
theorem ffa_lt (hg : gok g B) (hi : x < 64) (hp : fpr g n x = true) (hn : n ≤ 8) : ffa g x < 900 := by
  have h2 := (fpr_8 (n := n) (k := x % 8) (q := x / 8) hg (by omega) (by omega)).mp (by rw [show 8 * (x / 8) + x % 8 = x by omega]; exact hp)
  unfold ffa
  split
  · omega
  · have h3 : g_rel g (x / 8) (ff g (x / 8) + x % 8) ≤ g_dl g (x / 8) (ff g (x / 8) + x % 8) := by
      have := p_rel_dl (e := g (x / 8)) (p := g (8 + x / 8)) (i := ff g (x / 8) + x % 8)
      unfold g_rel g_dl
      omega
    omega
theorem C_great1 {K : wK} (hd : 3 ≤ d) (hn : n ≤ 8) (hg : gok g B) (c : Nat) (hK : ∀ M1, BC g ts rw M0 L0 M1 ML → K (nI c) M1 ML R) : ∀ j k T h (lo : Nat → Nat) cnt M, k + j = 64 → BC g ts rw M0 L0 M ML → GV g n M → VA (ffa g) (ffz g n) T h → (∀ i, T i → i < k ∧ fpr g n i = true) → (∀ t, t < 8 → lo t = occ h t ∧ lo t ≤ g 40) → (∀ pl, pl < 64 → M 57 pl = poI (h pl)) → (∀ t, t < 8 → M 58 t = nI (lo t)) → c = cnt + grd (ffa g) (ffz g n) (g 40) (frs g n k) T → cnt ≤ k → H36_20 d (nI (g 40)) (nI cnt) (nI k) M ML R K := by
  intro j
  induction j with
  | zero =>
    intro k T h lo cnt M hk b hG hv hT hlo c57 c58 hc hcn
    have : k = 64 := by omega
    subst this
    rw [frs_64] at hc
    have : c = cnt := by rw [hc]; rfl
    rw [← this]
    exact h36_20 ⟨fun _ => hK M b, fun y => absurd ((nI_leI (a := 64) (b := 64) (by decide) (by decide)).mpr (by omega)) y⟩
  | succ j ih =>
    intro k T h lo cnt M hk b hG hv hT hlo c57 c58 hc hcn
    have hk64 : k < 64 := by omega
    have hP4 := hg.2.1
    refine h36_20 ⟨fun y => absurd ((nI_leI (a := 64) (by decide) (by omega)).mp y) (by omega), fun _ => ⟨k, rfl, hk64, ?_⟩⟩
    rw [(hG k hk64).1, nI_1, frs_s hk64] at *
    by_cases z : fpr g n k = true
    · obtain ⟨z1, z2⟩ := ffz_b hg hk64 z
      rw [if_pos z] at hc
      refine ⟨fun y => absurd y (nI_nle (by omega) (by omega)), fun _ => ?_⟩
      have hTk : ¬ T k := fun w => absurd (hT k w).1 (by omega)
      have hpr : ∀ i, i < 64 → i = k ∨ T i → fpr g n i = true := fun i _ q => by
        rcases q with q | q
        · rw [q]; exact z
        · exact (hT i q).2
      refine C_find hd hP4 hk64 hTk hv (fun i q => by have := (hT i q).1; omega) (fun i q q2 => ⟨Nat.le_trans (ffz_b hg q (hpr i q q2)).2 hn, ffa_lt hg q (hpr i q q2) hn⟩) hlo (fun i q q2 => ⟨(hG i q).1, (hG i q).2 (hpr i q q2)⟩) c57 c58 (fun M1 h1 lo1 v1 m57 m58 l1 f1 => ?_) (fun M1 nF m57 m58 f1 => ?_)
      · have hF : Fs (ffa g) (ffz g n) (g 40) (tU T k) := ⟨h1, v1, fun t ht => by rw [← (l1 t ht).1]; exact (l1 t ht).2⟩
        rw [grd_y hF] at hc
        refine ⟨fun w => absurd w (by decide), fun _ => ?_⟩
        rw [nI_1]
        refine ih (k + 1) (tU T k) h1 lo1 (cnt + 1) M1 (by omega) (b.f (f1.mono (fun a i z => by omega))) (fun i q => ?_) v1 (fun i q => ?_) l1 m57 m58 (by omega) (by omega)
        · rw [f1 56 i (by omega), f1 55 i (by omega)]; exact hG i q
        · rcases q with q | q
          · exact ⟨by have := (hT i q).1; omega, (hT i q).2⟩
          · rw [q]; exact ⟨by omega, z⟩
      · rw [grd_n nF] at hc
        refine ⟨fun _ => ?_, fun w => absurd rfl w⟩
        refine ih (k + 1) T h lo cnt M1 (by omega) (b.f (f1.mono (fun a i z => by omega))) (fun i q => ?_) hv (fun i q => ⟨by have := (hT i q).1; omega, (hT i q).2⟩) hlo m57 m58 hc (by omega)
        rw [f1 56 i (by omega), f1 55 i (by omega)]; exact hG i q
    · rw [if_neg z] at hc
      have e0 : ffz g n k = 0 := by rw [ffz, if_neg z]
      rw [e0]
      exact ⟨fun _ => ih (k + 1) T h lo cnt M (by omega) b hG hv (fun i q => ⟨by have := (hT i q).1; omega, (hT i q).2⟩) hlo c57 c58 hc (by omega), fun w => absurd (by decide) w⟩
theorem occ_0 {t : Nat} : occ (fun _ => none) t = 0 := by
  unfold occ cs
  rw [List.countP_eq_zero]
  intro a _ w
  cases w
theorem C_flow {un : List gr} {kp : Nat → Option gr} {tx : List Nat} {he sa : List (Nat × Nat)} (hd : 5 ≤ d) (h : IC g un kp tx ts rw he sa M ML R) (hs : SO g un kp ts B) (hB : B < 2 ^ 20) (a : Int32) : wI (d + 1) 104 [.ref 0, .int a] M ML R (CQ (q_flA g a) (q_flW g rw a) M ML R) := by
  have hg := hs.1
  unfold q_flA q_flW
  refine w104 ⟨fun y => ?_, fun y => ⟨fun y2 => ?_, fun y2 => ?_⟩⟩
  · rw [if_pos (Or.inl y), if_pos (Or.inl y)]
    exact h.b.q
  · have no : ¬ (a < 1 ∨ 8 < a) := fun w => w.elim y (fun w => absurd y2 (Int32.not_le.mpr w))
    rw [if_neg no, if_neg no]
    rcases rngc 1 8 (by decide) (by decide) a with ⟨n, n1, n2, rfl⟩ | w
    · rw [nI_clamp (by omega)]
      refine C_gath (by omega) n2 hg hB h.b (fun M1 b1 hG1 => ?_)
      refine B_clear (by omega) b1 (fun M2 b2 f2 => ?_)
      refine B_add (by omega) b2 (by decide) _ (fun M3 L3 b3 f3 l3 => ?_)
      rw [b3.1.1]
      have b3' : BC g ts [nL (fid g n 64).length] M ML M3 L3 := b3
      obtain ⟨d, rfl⟩ : ∃ e, d = e + 1 := ⟨d - 1, by omega⟩
      have hG3 : GV g n M3 := fun i q => by
        rw [f3 56 i (by omega), f2 56 i (by omega), f3 55 i (by omega), f2 55 i (by omega)]
        exact (hG1 i q).1 q
      refine w36 (C_fill fm_s57 (by decide) (by omega) (-1) (fun M4 z4 f4 => C_fill fm_s58 (by decide) (by omega) 0 (fun M5 z5 f5 => ?_)))
      refine C_great1 (by omega) n2 hg _ (fun M6 b6 => b6.q) 64 0 (fun _ => False) (fun _ => none) (fun _ => 0) 0 M5 (by omega) ((b3'.f (f4.mono (fun a i z => by omega))).f (f5.mono (fun a i z => by omega))) (fun i q => ?_) ⟨fun pl i _ w => (by cases w), fun i w => w.elim, fun _ _ _ _ _ w => (by cases w)⟩ (fun i w => w.elim) (fun t ht => ⟨occ_0.symm, Nat.zero_le _⟩) (fun pl q => ?_) (fun t q => ?_) (by rw [frs_0, Nat.zero_add]) (Nat.le_refl _)
      · rw [f5 56 i (by omega), f4 56 i (by omega), f5 55 i (by omega), f4 55 i (by omega)]
        exact hG3 i q
      · rw [f5 57 pl (by omega)]; exact z4 pl q
      · exact z5 t q
    · exact absurd w no
  · have yes : a < 1 ∨ 8 < a := Or.inr (Int32.not_le.mp y2)
    rw [if_pos yes, if_pos yes]
    exact h.b.q
end cflow2
