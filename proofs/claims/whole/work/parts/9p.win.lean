/-! windows of PARTS that are due -/
def ff (g : gr) (q : Nat) : Nat := max (g (32 + q) + 1) ((g 41 - g (16 + q)) * g q / g (8 + q) + 1)
def fdl (g : gr) (i : Nat) : Nat := g_dl g (i / 8) (ff g (i / 8) + i % 8)
def fpr (g : gr) (n i : Nat) : Bool := decide (0 < g (i / 8)) && decide (fdl g i ≤ g 41 + n)
def ffa (g : gr) (i : Nat) : Nat := if g (24 + i / 8) = 1 then 0 else g_rel g (i / 8) (ff g (i / 8) + i % 8) - g 41
def ffz (g : gr) (n i : Nat) : Nat := if fpr g n i = true then fdl g i - g 41 else 0
def fid (g : gr) (n k : Nat) : List Nat := (List.range k).filter (fpr g n)
section win
variable {g : gr} {n B q i k : Nat}
theorem p_dl_s {e p i : Nat} (he : 0 < e) (hep : e ≤ p) : p_dl e p i + 1 ≤ p_dl e p (i + 1) := by
  unfold p_dl
  have h1 : (i * p + e - 1) / e + 1 = (i * p + e - 1 + e) / e := (Nat.add_div_right _ he).symm
  rw [h1]
  refine Nat.div_le_div_right ?_
  rw [Nat.add_mul, Nat.one_mul]
  omega
theorem p_dl_gt {e p i s : Nat} (he : 0 < e) (hp : 0 < p) : s < p_dl e p i ↔ s * e / p + 1 ≤ i := by
  have h1 : s < p_dl e p i ↔ s * e < i * p := by
    unfold p_dl
    have : s < (i * p + e - 1) / e ↔ (s + 1) * e ≤ i * p + e - 1 := Nat.le_div_iff_mul_le he
    rw [this, Nat.add_mul, Nat.one_mul]
    omega
  have h2 : s * e / p < i ↔ s * e < i * p := Nat.div_lt_iff_lt_mul hp
  rw [h1, ← h2]
  exact Iff.rfl
theorem fdl_gt (hg : gok g B) (hq : q < 8) (h0 : 0 < g q) (i : Nat) : g 41 < g_dl g q i ↔ (g 41 - g (16 + q)) * g q / g (8 + q) + 1 ≤ i := by
  obtain ⟨a1, a2, a3, a4, a5⟩ := hg.p hq h0
  rw [← p_dl_gt h0 (by omega), g_dl]
  omega
theorem dl_s (hg : gok g B) (hq : q < 8) (h0 : 0 < g q) (i : Nat) : g_dl g q i + 1 ≤ g_dl g q (i + 1) := by
  obtain ⟨a1, a2, a3, a4, a5⟩ := hg.p hq h0
  have := p_dl_s (p := g (8 + q)) (i := i) h0 a2
  unfold g_dl
  omega
theorem dl_k (hg : gok g B) (hq : q < 8) (h0 : 0 < g q) (i : Nat) : ∀ k, g_dl g q i + k ≤ g_dl g q (i + k) := by
  intro k
  induction k with
  | zero => exact Nat.le_refl _
  | succ k ih =>
    have := dl_s hg hq h0 (i + k)
    have e : i + (k + 1) = i + k + 1 := by omega
    rw [e]
    omega
theorem ff_gt (hg : gok g B) (hq : q < 8) (h0 : 0 < g q) (k : Nat) : g 41 + 1 + k ≤ g_dl g q (ff g q + k) := by
  have h1 := (fdl_gt hg hq h0 (ff g q)).mpr (by unfold ff; omega)
  have h2 := dl_k hg hq h0 (ff g q) k
  omega
theorem ff_lt (hg : gok g B) (hB : B < 2 ^ 20) (hq : q < 8) (h0 : 0 < g q) : 0 < ff g q ∧ ff g q < 2 ^ 21 := by
  obtain ⟨a1, a2, a3, a4, a5⟩ := hg.p hq h0
  have h4 := hg.2.2.1
  have h1 : (g 41 - g (16 + q)) * g q / g (8 + q) ≤ g 41 - g (16 + q) := by
    refine Nat.div_le_of_le_mul ?_
    rw [Nat.mul_comm]
    exact Nat.mul_le_mul_right _ a2
  unfold ff
  omega
theorem fpr_8 (hg : gok g B) (hq : q < 8) (hk : k < 8) : fpr g n (8 * q + k) = true ↔ 0 < g q ∧ g_dl g q (ff g q + k) ≤ g 41 + n := by
  unfold fpr fdl
  rw [show (8 * q + k) / 8 = q by omega, show (8 * q + k) % 8 = k by omega, Bool.and_eq_true, decide_eq_true_iff, decide_eq_true_iff]
theorem fpr_up (hg : gok g B) (hq : q < 8) {k' : Nat} (hk : k ≤ k') (hk' : k' < 8) (h : ¬ fpr g n (8 * q + k) = true) : ¬ fpr g n (8 * q + k') = true := fun w => by
  rw [fpr_8 hg hq hk'] at w
  rw [fpr_8 hg hq (by omega)] at h
  have := dl_k hg hq w.1 (ff g q + k) (k' - k)
  rw [show ff g q + k + (k' - k) = ff g q + k' by omega] at this
  exact h ⟨w.1, by omega⟩
theorem ffz_b (hg : gok g B) (hi : i < 64) (h : fpr g n i = true) : 1 ≤ ffz g n i ∧ ffz g n i ≤ n := by
  have h2 := (fpr_8 (k := i % 8) (q := i / 8) hg (by omega) (by omega)).mp (by rw [show 8 * (i / 8) + i % 8 = i by omega]; exact h)
  have h3 := ff_gt hg (q := i / 8) (by omega) h2.1 (i % 8)
  unfold ffz fdl
  rw [if_pos h]
  omega
theorem ffz_pos (hg : gok g B) (hi : i < 64) : 0 < ffz g n i ↔ fpr g n i = true := by
  constructor
  · intro w
    unfold ffz at w
    split at w
    next z => exact z
    next => omega
  · intro w; exact (ffz_b hg hi w).1
theorem fid_s : fid g n (k + 1) = if fpr g n k = true then fid g n k ++ [k] else fid g n k := by
  unfold fid
  rw [List.range_succ, List.filter_append]
  by_cases z : fpr g n k = true
  · rw [if_pos z]; simp [z]
  · rw [if_neg z]; simp [z]
theorem fid_j (hg : gok g B) (hq : q < 8) (hk : k ≤ 8) (h : ∀ k', k ≤ k' → k' < 8 → ¬ fpr g n (8 * q + k') = true) : fid g n (8 * (q + 1)) = fid g n (8 * q + k) := by
  have : ∀ j, k + j ≤ 8 → fid g n (8 * q + k + j) = fid g n (8 * q + k) := by
    intro j
    induction j with
    | zero => intro _; rfl
    | succ j ih =>
      intro hj
      rw [show 8 * q + k + (j + 1) = 8 * q + k + j + 1 by omega, fid_s, if_neg (by rw [show 8 * q + k + j = 8 * q + (k + j) by omega]; exact h (k + j) (by omega) (by omega)), ih (by omega)]
  rw [← this (8 - k) (by omega)]
  congr 1
  omega
theorem fid_len : ∀ k, (fid g n k).length ≤ k := by
  intro k
  induction k with
  | zero => exact Nat.le_refl _
  | succ k ih =>
    rw [fid_s]
    split
    · rw [List.length_append, List.length_singleton]; omega
    · omega
theorem fid_mem {x : Nat} : x ∈ fid g n k ↔ x < k ∧ fpr g n x = true := by
  unfold fid
  rw [List.mem_filter, List.mem_range]
theorem fid_nd : (fid g n k).Nodup := List.Pairwise.filter _ List.nodup_range
theorem jd_mx {a b : Nat} (ha : a < 2 ^ 30) (hb : b < 2 ^ 30) : jd_max (nI a - nI b) 0 = nI (a - b) ∧ jd_max 0 (nI a - nI b) = nI (a - b) := by
  have h1 : (nI a - nI b).toInt = (a : Int) - b := by rw [Kit.i32_sub (by rw [nI_toInt (by omega), nI_toInt (by omega)]; omega) (by rw [nI_toInt (by omega), nI_toInt (by omega)]; omega), nI_toInt (by omega), nI_toInt (by omega)]
  have h0 : (0 : Int32).toInt = 0 := rfl
  unfold jd_max
  by_cases z : b ≤ a
  · have e := nI_sub z
    rw [if_neg (fun w => by have := Int32.lt_iff_toInt_lt.mp w; rw [h1, h0] at this; omega)]
    refine ⟨e, ?_⟩
    by_cases y : 0 < nI a - nI b
    · rw [if_pos y]; exact e
    · rw [if_neg y]
      have : a - b = 0 := by
        have w : ¬ ((0 : Int) < (a : Int) - b) := fun v => y (Int32.lt_iff_toInt_lt.mpr (by rw [h1, h0]; exact v))
        omega
      rw [this]; rfl
  · have e0 : a - b = 0 := by omega
    rw [if_pos (Int32.lt_iff_toInt_lt.mpr (by rw [h1, h0]; omega)), if_neg (fun w => by have := Int32.lt_iff_toInt_lt.mp w; rw [h1, h0] at this; omega), e0]
    exact ⟨rfl, rfl⟩
end win
