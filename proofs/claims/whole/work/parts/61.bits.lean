/-! sets of TASKS as bits -/
def bc (w : Nat) : Nat := (List.range 8).countP (fun k => w.testBit k)
theorem bt_get : ∀ w, w < 256 → ∀ k, k < 8 → (nI w >>> (nI k &&& 31) &&& 1) = if w.testBit k = true then 1 else 0 := by decide +kernel
theorem bt_or : ∀ w, w < 256 → ∀ k, k < 8 → (nI w ||| 1 <<< (nI k &&& 31)) = nI (w ||| 1 <<< k) := by decide +kernel
theorem bt_out : ∀ w, w < 256 → ∀ k, k < 8 → (nI w &&& ((1 : Int32) <<< (nI k &&& 31) ^^^ (-1 : Int32))) = nI (w &&& (255 - 1 <<< k)) := by decide +kernel
theorem bt_bc : ∀ w, w < 256 → jd_bc (nI w) = nI (bc w) := by decide +kernel
theorem bt_tb : ∀ j, j < 8 → ∀ k, k < 8 → (255 - 1 <<< j).testBit k = decide (¬ k = j) := by decide +kernel
theorem bt_o8 : ∀ k, k < 8 → 1 <<< k < 256 := by decide +kernel
theorem bt_ch : ∀ k, k < 8 → (1 : Int32) <<< (nI k &&& 31) = nI (1 <<< k) := by decide +kernel
theorem bt_hi {w k : Nat} (hw : w < 256) (hk : 8 ≤ k) : w.testBit k = false := by
  refine Nat.testBit_lt_two_pow (Nat.lt_of_lt_of_le hw ?_)
  exact (Nat.pow_le_pow_right (by decide) hk : 2 ^ 8 ≤ 2 ^ k)
theorem bt_1 (k j : Nat) : (1 <<< k).testBit j = decide (j = k) := by
  rw [Nat.one_shiftLeft, Nat.testBit_two_pow]
  by_cases h : k = j
  · subst h; simp
  · have : ¬ j = k := fun q => h q.symm
    simp [h, this]
theorem bt_ext {w v : Nat} (hw : w < 256) (hv : v < 256) (h : ∀ k, k < 8 → w.testBit k = v.testBit k) : w = v := by
  refine Nat.eq_of_testBit_eq (fun k => ?_)
  rcases Nat.lt_or_ge k 8 with q | q
  · exact h k q
  · rw [bt_hi hw q, bt_hi hv q]
theorem bt_lt {w v : Nat} (hw : w < 256) (hv : v < 256) : w ||| v < 256 := Nat.or_lt_two_pow (n := 8) hw hv
theorem bt_al {w v : Nat} (hw : w < 256) : w &&& v < 256 := Nat.lt_of_le_of_lt Nat.and_le_left hw
theorem bt_z {w : Nat} (hw : w < 256) : w = 0 ↔ ∀ k, k < 8 → w.testBit k = false := by
  constructor
  · intro h k _; rw [h]; simp
  · intro h
    exact bt_ext hw (by decide) (fun k hk => by rw [h k hk]; simp)
/-- the set of those below n that are so -/
def bm (S : Nat → Bool) : Nat → Nat
  | 0 => 0
  | k + 1 => if S k = true then bm S k ||| 1 <<< k else bm S k
theorem bm_lt (S : Nat → Bool) : ∀ n, n ≤ 8 → bm S n < 256 := by
  intro n
  induction n with
  | zero => intro _; show 0 < 256; decide
  | succ n ih =>
    intro h
    rw [bm]
    split
    · exact bt_lt (ih (by omega)) (bt_o8 n (by omega))
    · exact ih (by omega)
theorem bm_tb (S : Nat → Bool) : ∀ n k, (bm S n).testBit k = (decide (k < n) && S k) := by
  intro n
  induction n with
  | zero => intro k; simp [bm]
  | succ n ih =>
    intro k
    rw [bm]
    by_cases h : S n = true
    · rw [if_pos h, Nat.testBit_or, ih, bt_1]
      by_cases e : k = n
      · subst e; simp [h]
      · have : (k < n + 1) ↔ (k < n) := by omega
        simp [e, this]
    · rw [if_neg h, ih]
      by_cases e : k = n
      · subst e; simp [h]
      · have : (k < n + 1) ↔ (k < n) := by omega
        simp [this]
theorem bm_8 (S : Nat → Bool) {k : Nat} (hk : k < 8) : (bm S 8).testBit k = S k := by rw [bm_tb]; simp [hk]
/-- bits of a list -/
def bl : List Nat → Nat
  | [] => 0
  | j :: r => 1 <<< j ||| bl r
theorem bl_lt : ∀ l : List Nat, (∀ j ∈ l, j < 8) → bl l < 256 := by
  intro l
  induction l with
  | nil => intro _; decide
  | cons j r ih =>
    intro h
    rw [bl]
    exact bt_lt (bt_o8 j (h j (by simp))) (ih (fun i hi => h i (by simp [hi])))
theorem bl_tb : ∀ (l : List Nat) (k : Nat), (bl l).testBit k = decide (k ∈ l) := by
  intro l
  induction l with
  | nil => intro k; simp [bl]
  | cons j r ih =>
    intro k
    rw [bl, Nat.testBit_or, bt_1, ih]
    by_cases e : k = j <;> simp [e]
theorem bc_le (w : Nat) : bc w ≤ 8 := by
  unfold bc
  have := List.countP_le_length (p := fun k => w.testBit k) (l := List.range 8)
  simpa using this
