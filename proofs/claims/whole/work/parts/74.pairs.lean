theorem q_p1_lt {g : gr} {c : Nat → Int32} {j : Nat} {x : Option Nat} (h6 : j < 64) (hx : ∀ i, x = some i → i < 64) : ∀ i, q_p1 g c j x = some i → i < 64 := by
  intro i e
  unfold q_p1 at e
  split at e
  · split at e
    · cases e; exact h6
    · split at e
      · cases e; exact hx _ rfl
      · cases e; exact h6
  · exact hx i e
theorem q_pb_lt {g : gr} {c : Nat → Int32} : ∀ n j x, j + n = 64 → (∀ i, x = some i → i < 64) → ∀ i, q_pb g c n j x = some i → i < 64 := by
  intro n
  induction n with
  | zero => intro j x _ hx i e; exact hx i e
  | succ n ih =>
    intro j x hj hx i e
    exact ih (j + 1) _ (by omega) (q_p1_lt (by omega) hx) i e
theorem q_pb_some {g : gr} {c : Nat → Int32} : ∀ n j i, ∃ k, q_pb g c n j (some i) = some k := by
  intro n
  induction n with
  | zero => intro j i; exact ⟨i, rfl⟩
  | succ n ih =>
    intro j i
    rw [q_pb_s]
    unfold q_p1
    split
    · dsimp only
      split
      · exact ih _ _
      · exact ih _ _
    · exact ih _ _
theorem q_pb_ne {g : gr} {c : Nat → Int32} : ∀ n j x i, j ≤ i → i < j + n → i / 8 < i % 8 → 0 < g (i / 8) → 0 < g (i % 8) → ∃ k, q_pb g c n j x = some k := by
  intro n
  induction n with
  | zero => intro j x i h1 h2; omega
  | succ n ih =>
    intro j x i h1 h2 h3 h4 h5
    cases x with
    | some y => exact q_pb_some (n + 1) j y
    | none =>
      rw [q_pb_s]
      by_cases e : i = j
      · subst e
        unfold q_p1
        rw [if_pos ⟨h3, h4, h5⟩]
        exact q_pb_some _ _ _
      · exact ih (j + 1) _ i (by omega) (by omega) h3 h4 h5
theorem bc_2 : ∀ w, w < 256 → 2 ≤ bc w → (List.range 64).any (fun i => decide (i / 8 < i % 8) && w.testBit (i / 8) && w.testBit (i % 8)) = true := by decide +kernel
theorem q_pb_2 {g : gr} {c : Nat → Int32} (h : 2 ≤ bc (g_ts g)) : ∃ k, k < 64 ∧ q_pb g c 64 0 none = some k := by
  obtain ⟨i, hi, hp⟩ := List.any_eq_true.mp (bc_2 _ (g_ts_lt g) h)
  have h6 := List.mem_range.mp hi
  simp only [Bool.and_eq_true, decide_eq_true_eq] at hp
  rw [g_ts, bm_8 _ (by omega), bm_8 _ (by omega)] at hp
  obtain ⟨k, e⟩ := q_pb_ne (g := g) (c := c) 64 0 none i (by omega) (by omega) hp.1.1 (by simpa using hp.1.2) (by simpa using hp.2)
  exact ⟨k, q_pb_lt 64 0 none (by omega) (fun i y => by cases y) k e, e⟩
section pairs2
variable {d B : Nat} {g gk : gr} {ts tx : List Nat} {rw : List Int64} {un : List gr} {kp : Nat → Option gr} {he sa : List (Nat × Nat)} {M0 M : Nat → Nat → Int32} {L0 ML : Nat → Nat → Int64} {R0 R : Nat → Nat → Option Nat} {c : Nat → Int32}
def q_prA (g : gr) (c : Nat → Int32) : Int32 := c ((q_pb g c 64 0 none).getD 0)
theorem C_pr39 {N F : Nat} (hd : 5 ≤ d) (hg : gok g B) (h : BC g ts rw M0 L0 M ML) (hj : ∀ j, j < 64 → M 61 j = c j) (hF : F < 64) : ∀ m a, a + m = 8 → ∀ x, (∀ j, x = some j → j < 64) → q_pb g c (64 - 8 * a) (8 * a) x = some F → H101_39 d (nI N) (po x) (nI a) M ML R (CQ (c F) (q_prW (some F)) M0 L0 R) := by
  intro m
  induction m with
  | zero =>
    intro a ha x hx e
    have : a = 8 := by omega
    subst this
    have e : x = some F := e
    subst e
    refine h101_39 ⟨fun _ => ⟨fun _ => ?_, fun y => absurd (show nI F = -1 from y) (nI_nm1 (by omega))⟩, fun z => absurd (by decide) z⟩
    refine B_clear (by omega) h (fun M1 h1 f1 => ?_)
    refine B_add (by omega) h1 (by decide) _ (fun M2 L2 h2 f2 _ => ?_)
    refine B_add (by omega) h2 (by simp) _ (fun M3 L3 h3 f3 _ => ?_)
    refine ⟨F, rfl, hF, ?_⟩
    rw [f3 61 F (by omega), f2 61 F (by omega), f1 61 F (by omega), hj F hF]
    exact h3.q
  | succ m ih =>
    intro a ha x hx e
    refine h101_39 ⟨fun z => absurd ((nI_leI (a := 8) (by decide) (by omega)).mp z) (by omega), fun _ => ?_⟩
    rw [nI_1]
    rw [q_pb_gap (by omega) x (a + 1) (by omega)] at e
    exact C_pr50 hd hg (by omega) h hj (some F) (fun y hy ey => ih (a + 1) (by omega) y hy ey) (7 - a) (a + 1) (by omega) (by omega) x hx e
theorem C_pairs (hd : 5 ≤ d) (h : IC g un kp tx ts rw he sa M ML R) (hs : SO g un kp ts B) (hB : B < 2 ^ 20) (v : Int32) : (∀ n, 1 ≤ n → n ≤ 60 → v = nI n → wI (d + 2) 101 [.ref 0, .int v] M ML R (if 2 ≤ bc (g_ts g) then CQ (q_prA g (q_pc ts n g (fun _ => 0))) (q_prW (q_pb g (q_pc ts n g (fun _ => 0)) 64 0 none)) M ML R else CQ (-2) rw M ML R)) ∧ (v < 1 ∨ 60 < v → wI (d + 2) 101 [.ref 0, .int v] M ML R (CQ (-1) rw M ML R)) := by
  constructor
  · rintro n h1 h2 rfl
    refine w101 ⟨fun z => absurd ((nI_leI (a := 1) (by decide) (by omega)).mpr (by omega)) (Int32.not_le.mpr z), fun _ => ⟨fun _ => ?_, fun z => absurd ((nI_leI (b := 60) (by omega) (by decide)).mpr (by omega)) z⟩⟩
    refine C_tset fm_W1 (by omega) h.2.1 hs.1 ?_
    refine R_bc (by omega) (g_ts_lt g) ?_
    have hbl := bc_le (g_ts g)
    by_cases z : 2 ≤ bc (g_ts g)
    · rw [if_pos z]
      refine ⟨fun _ => ?_, fun y => absurd ((nI_leI (a := 2) (by decide) (by omega)).mpr z) y⟩
      refine C_cp hd hs.2.2.2 hs.1 hB h2 h.b (fun M1 b1 j1 => ?_)
      obtain ⟨F, hF, e⟩ := q_pb_2 (g := g) (c := q_pc ts n g (fun _ => 0)) z
      rw [q_prA, e]
      exact C_pr39 (d := d + 1) (by omega) hs.1 b1 j1 hF 8 0 (by omega) none (fun j y => by cases y) e
    · rw [if_neg z]
      exact ⟨fun y => absurd ((nI_leI (a := 2) (by decide) (by omega)).mp y) z, fun _ => h.b.q⟩
  · intro z
    exact w101 ⟨fun _ => h.b.q, fun y => ⟨fun y2 => absurd y2 (Int32.not_le.mpr (z.resolve_left y)), fun _ => h.b.q⟩⟩
/-! the reference's pairs -/
theorem R_pr100 {K : wK} {N k w a : Nat} (hd : 7 ≤ d) (hw : w < 256) (ha : a < 8) (hK : ∀ M1, BR g ts rw M0 L0 R0 M1 ML R → rr (M1 227) gk → (∀ j, j < 64 → M1 229 j = p_up c w (8 * (a + 1)) j) → H198_87 d (nI N) (nI k) (nI w) (nI (a + 1)) M1 ML R K) : ∀ m b, b + m = 8 → a < b → ∀ {M : Nat → Nat → Int32}, BR g ts rw M0 L0 R0 M ML R → rr (M 227) gk → (∀ j, j < 64 → M 229 j = p_up c w (8 * a + b) j) → H198_100 d (nI N) (nI k) (nI w) (nI a) (nI b) M ML R K := by
  intro m
  induction m with
  | zero =>
    intro b hb hab M h hc hj
    have : b = 8 := by omega
    subst this
    refine h198_100 ⟨fun _ => by rw [nI_1]; exact hK M h hc hj, fun z => absurd (by decide) z⟩
  | succ m ih =>
    intro b hb hab M h hc hj
    refine h198_100 ⟨fun z => absurd ((nI_leI (a := 8) (by decide) (by omega)).mp z) (by omega), fun _ => ⟨8 * a + b, n8' a b, by omega, ?_⟩⟩
    have fin : ∀ (x : Int32) (M3 : Nat → Nat → Int32), M3 = fm_u M 229 (8 * a + b) (M 229 (8 * a + b) + x) → (M 229 (8 * a + b) + x = if w.testBit a = true ∧ w.testBit b = true then p_up c w (8 * a + b) (8 * a + b) + 1 else p_up c w (8 * a + b) (8 * a + b)) → H198_100 d (nI N) (nI k) (nI w) (nI a) (nI b + 1) M3 ML R K := by
      intro x M3 e3 ex
      subst e3
      rw [nI_1]
      have f : fr (fun x y => x = 229 ∧ y = 8 * a + b) M (fm_u M 229 (8 * a + b) (M 229 (8 * a + b) + x)) := fr_u ⟨rfl, rfl⟩
      refine ih (b + 1) (by omega) (by omega) (h.f (f.mono (fun x y z => by omega))) (fun j hj => by rw [f 227 j (by omega)]; exact hc j hj) (fun j h6 => ?_)
      rw [p_up_s (by omega) hab]
      by_cases e : j = 8 * a + b
      · subst e
        rw [fm_u_at, ex]
        by_cases z : w.testBit a = true ∧ w.testBit b = true
        · rw [if_pos z, if_pos ⟨rfl, z⟩]
        · rw [if_neg z, if_neg (fun y => z y.2)]
      · rw [if_neg (fun y => e y.1), fm_u_ix e, hj j h6]
    refine R_has (by omega) hw ha ?_
    by_cases z1 : w.testBit a = true
    · rw [if_pos z1]
      refine ⟨fun y => absurd y (by decide), fun _ => ?_⟩
      refine R_has (by omega) hw (by omega) ?_
      by_cases z2 : w.testBit b = true
      · rw [if_pos z2]
        refine ⟨fun y => absurd y (by decide), fun _ => ⟨8 * a + b, n8' a b, by omega, fun M3 e3 => fin 1 M3 e3 ?_⟩⟩
        rw [if_pos ⟨z1, z2⟩, hj _ (by omega)]
      · rw [if_neg z2]
        refine ⟨fun _ => ⟨8 * a + b, n8' a b, by omega, fun M3 e3 => fin 0 M3 e3 ?_⟩, fun y => absurd rfl y⟩
        rw [if_neg (fun y => z2 y.2), hj _ (by omega), Int32.add_zero]
    · rw [if_neg z1]
      refine ⟨fun _ => ⟨8 * a + b, n8' a b, by omega, fun M3 e3 => fin 0 M3 e3 ?_⟩, fun y => absurd rfl y⟩
      rw [if_neg (fun y => z1 y.1), hj _ (by omega), Int32.add_zero]
theorem R_pr87 {K : wK} {N k w : Nat} (hd : 7 ≤ d) (hw : w < 256) (hK : ∀ M1, BR g ts rw M0 L0 R0 M1 ML R → rr (M1 227) gk → (∀ j, j < 64 → M1 229 j = p_up c w 64 j) → H198_69 d (nI N) (nI (k + 1)) M1 ML R K) : ∀ m a, a + m = 8 → ∀ {M : Nat → Nat → Int32}, BR g ts rw M0 L0 R0 M ML R → rr (M 227) gk → (∀ j, j < 64 → M 229 j = p_up c w (8 * a) j) → H198_87 d (nI N) (nI k) (nI w) (nI a) M ML R K := by
  intro m
  induction m with
  | zero =>
    intro a ha M h hc hj
    have : a = 8 := by omega
    subst this
    exact h198_87 ⟨fun _ => by rw [nI_1]; exact hK M h hc hj, fun z => absurd (by decide) z⟩
  | succ m ih =>
    intro a ha M h hc hj
    refine h198_87 ⟨fun z => absurd ((nI_leI (a := 8) (by decide) (by omega)).mp z) (by omega), fun _ => ?_⟩
    rw [nI_1]
    exact R_pr100 hd hw (by omega) (fun M1 h1 c1 j1 => ih (a + 1) (by omega) h1 c1 j1) (7 - a) (a + 1) (by omega) (by omega) h hc (fun j h6 => by rw [p_up_gap j (by omega)]; exact hj j h6)
theorem R_pr69 {K : wK} {N : Nat} (hd : 7 ≤ d) (hts : tsok ts) (hN : N ≤ 60) (F : Nat → Int32) (hK : ∀ M1, BR g ts rw M0 L0 R0 M1 ML R → (∀ j, j < 64 → M1 229 j = F j) → H198_168 d (nI N) (-1) 0 M1 ML R K) : ∀ n k, k + n = N → ∀ {B : Nat} {gk : gr} {c : Nat → Int32} {M : Nat → Nat → Int32}, B + n < 2 ^ 21 → gok gk B → BR g ts rw M0 L0 R0 M ML R → rr (M 227) gk → (∀ j, j < 64 → M 229 j = c j) → (∀ j, j < 64 → q_pc ts n gk c j = F j) → H198_69 d (nI N) (nI k) M ML R K := by
  intro n
  induction n with
  | zero =>
    intro k hk B gk c M hB hg h hc hj hF
    exact h198_69 ⟨fun _ => hK M h (fun j h6 => by rw [hj j h6]; exact hF j h6), fun z => absurd ((nI_leI (by omega) (by omega)).mpr (by omega)) z⟩
  | succ n ih =>
    intro k hk B gk c M hB hg h hc hj hF
    refine h198_69 ⟨fun z => absurd ((nI_leI (by omega) (by omega)).mp z) (by omega), fun _ => ?_⟩
    refine B_goSlot hd h hc hg (by omega) hts (-1) (fun M1 h1 c1 h22 h23 f => ?_)
    refine R_pr87 (c := c) hd (g_rn_lt _ _ _) (fun M2 h2 c2 j2 => ?_) 8 0 (by omega) h1 c1 (fun j h6 => ?_)
    · exact ih (k + 1) (by omega) (B := B + 1) (by omega) (gok_go hg ts (-1)) h2 c2 j2 hF
    · rw [f 229 j (by omega), hj j h6, p_up, if_neg (by omega)]
theorem R_pr36 {K : wK} {N : Nat} (hd : 7 ≤ d) (hts : tsok ts) (hg : gok g B) (hB : B < 2 ^ 20) (hN : N ≤ 60) (hK : ∀ M1, BR g ts rw M0 L0 R0 M1 ML R → (∀ j, j < 64 → M1 229 j = q_pc ts N g (fun _ => 0) j) → H198_168 d (nI N) (-1) 0 M1 ML R K) : ∀ m k, k + m = 64 → ∀ {M : Nat → Nat → Int32}, BR g ts rw M0 L0 R0 M ML R → (∀ j, j < k → M 229 j = 0) → H198_36 d (nI N) (nI k) M ML R K := by
  intro m
  induction m with
  | zero =>
    intro k hk M h hj
    have : k = 64 := by omega
    subst this
    refine h198_36 ⟨fun _ => ?_, fun z => absurd (by decide) z⟩
    refine B_then (by omega) h (fun M1 h1 c1 f1 => ?_)
    refine R_pr69 hd hts hN _ hK N 0 (by omega) (B := B) (by omega) hg h1 c1 (c := fun _ => 0) (fun j h6 => ?_) (fun _ _ => rfl)
    rw [f1 229 j (by omega), hj j h6]
  | succ m ih =>
    intro k hk M h hj
    refine h198_36 ⟨fun z => absurd ((nI_leI (a := 64) (by decide) (by omega)).mp z) (by omega), fun _ => ⟨k, rfl, by omega, fun M2 e2 => ?_⟩⟩
    subst e2
    rw [nI_1]
    refine ih (k + 1) (by omega) (h.u (by omega)) (fun j h6 => ?_)
    by_cases e : j = k
    · subst e; exact fm_u_at
    · rw [fm_u_ix e]; exact hj j (by omega)
theorem R_pr179 {K : wK} {N a : Nat} (hd : 7 ≤ d) (hg : gok g B) (ha : a < 8) (h : BR g ts rw M0 L0 R0 M ML R) (hj : ∀ j, j < 64 → M 229 j = c j) (F : Option Nat) (hK : ∀ x, (∀ j, x = some j → j < 64) → q_pb g c (64 - 8 * (a + 1)) (8 * (a + 1)) x = F → H198_168 d (nI N) (po x) (nI (a + 1)) M ML R K) : ∀ m b, b + m = 8 → a < b → ∀ x, (∀ j, x = some j → j < 64) → q_pb g c (64 - (8 * a + b)) (8 * a + b) x = F → H198_179 d (nI N) (po x) (nI a) (nI b) M ML R K := by
  intro m
  induction m with
  | zero =>
    intro b hb hab x hx e
    have : b = 8 := by omega
    subst this
    exact h198_179 ⟨fun _ => by rw [nI_1]; exact hK x hx e, fun z => absurd (by decide) z⟩
  | succ m ih =>
    intro b hb hab x hx e
    refine h198_179 ⟨fun z => absurd ((nI_leI (a := 8) (by decide) (by omega)).mp z) (by omega), fun _ => ?_⟩
    rw [show 64 - (8 * a + b) = (64 - (8 * a + (b + 1))) + 1 by omega, q_pb_s] at e
    unfold q_p1 at e
    rw [show (8 * a + b) / 8 = a by omega, show (8 * a + b) % 8 = b by omega] at e
    have ih := ih (b + 1) (by omega) (by omega)
    refine R_th fm_N220 (by omega) h.1 hg ha ?_
    rw [nI_1]
    by_cases z1 : 0 < g a
    · rw [if_pos z1]
      refine ⟨fun y => absurd y (by decide), fun _ => ?_⟩
      refine R_th fm_N220 (by omega) h.1 hg (by omega) ?_
      by_cases z2 : 0 < g b
      · rw [if_pos z2]
        rw [if_pos ⟨hab, z1, z2⟩] at e
        refine ⟨fun _ => ?_, fun y => absurd y (by decide)⟩
        rw [n8']
        cases x with
        | none => exact ⟨fun _ => ih (some (8 * a + b)) (fun j y => by cases y; omega) e, fun y => absurd rfl y⟩
        | some i =>
          have hi := hx i rfl
          refine ⟨fun y => absurd (show nI i = -1 from y) (nI_nm1 (by omega)), fun _ => ⟨8 * a + b, rfl, by omega, i, rfl, hi, ?_⟩⟩
          rw [hj _ (by omega), hj i hi]
          dsimp only at e
          by_cases z : c (8 * a + b) ≤ c i
          · rw [if_pos z] at e
            exact ⟨fun _ => ih (some i) hx e, fun y => absurd z y⟩
          · rw [if_neg z] at e
            exact ⟨fun y => absurd y z, fun _ => ih (some (8 * a + b)) (fun j y => by cases y; omega) e⟩
      · rw [if_neg z2]
        rw [if_neg (fun y => z2 y.2.2)] at e
        exact ⟨fun y => absurd rfl y, fun _ => ih x hx e⟩
    · rw [if_neg z1]
      rw [if_neg (fun y => z1 y.2.1)] at e
      exact ⟨fun _ => ih x hx e, fun y => absurd rfl y⟩
theorem R_pr168 {N F : Nat} (hd : 7 ≤ d) (hg : gok g B) (h : BR g ts rw M0 L0 R0 M ML R) (hj : ∀ j, j < 64 → M 229 j = c j) (hF : F < 64) : ∀ m a, a + m = 8 → ∀ x, (∀ j, x = some j → j < 64) → q_pb g c (64 - 8 * a) (8 * a) x = some F → H198_168 d (nI N) (po x) (nI a) M ML R (RQ (c F) (q_prW (some F)) M0 L0 R0) := by
  intro m
  induction m with
  | zero =>
    intro a ha x hx e
    have : a = 8 := by omega
    subst this
    have e : x = some F := e
    subst e
    refine h198_168 ⟨fun _ M1 e1 => ?_, fun z => absurd (by decide) z⟩
    subst e1
    refine B_tell (by omega) h.z (by decide) _ (fun M2 L2 h2 f2 _ => ?_)
    refine B_tell (by omega) h2 (by simp) _ (fun M3 L3 h3 f3 _ => ?_)
    refine ⟨F, rfl, hF, ?_⟩
    rw [f3 229 F (by omega), f2 229 F (by omega), fm_u_off (by decide), hj F hF]
    exact h3.q
  | succ m ih =>
    intro a ha x hx e
    refine h198_168 ⟨fun z => absurd ((nI_leI (a := 8) (by decide) (by omega)).mp z) (by omega), fun _ => ?_⟩
    rw [nI_1]
    rw [q_pb_gap (by omega) x (a + 1) (by omega)] at e
    exact R_pr179 hd hg (by omega) h hj (some F) (fun y hy ey => ih (a + 1) (by omega) y hy ey) (7 - a) (a + 1) (by omega) (by omega) x hx e
theorem R_pairs (hd : 7 ≤ d) (h : IR g un kp tx ts rw he sa M ML R) (hs : SO g un kp ts B) (hB : B < 2 ^ 20) (v : Int32) : (∀ n, 1 ≤ n → n ≤ 60 → v = nI n → wI (d + 1) 198 [.ref 219, .int v] M ML R (if 2 ≤ bc (g_ts g) then RQ (q_prA g (q_pc ts n g (fun _ => 0))) (q_prW (q_pb g (q_pc ts n g (fun _ => 0)) 64 0 none)) M ML R else RQ (-2) rw M ML R)) ∧ (v < 1 ∨ 60 < v → wI (d + 1) 198 [.ref 219, .int v] M ML R (RQ (-1) rw M ML R)) := by
  have hb := h.b.u (a := 219) (i := 5) (x := 0) (by omega)
  constructor
  · rintro n h1 h2 rfl
    refine w198 (fun M1 e1 => ?_)
    subst e1
    refine R_in (by omega) ?_
    rw [show md_in (nI n) 1 60 = 1 from in_y (lo := 1) (hi := 60) (by decide) h1 h2]
    refine ⟨fun _ => ?_, fun z => absurd z (by decide)⟩
    refine R_tset fm_N220 (by omega) hb.1 hs.1 ?_
    refine R_bc (by omega) (g_ts_lt g) ?_
    have hbl := bc_le (g_ts g)
    by_cases z : 2 ≤ bc (g_ts g)
    · rw [if_pos z]
      refine ⟨fun _ => ?_, fun y => absurd ((nI_leI (a := 2) (by decide) (by omega)).mpr z) y⟩
      refine R_pr36 hd hs.2.2.2 hs.1 hB h2 (fun M1 b1 j1 => ?_) 64 0 (by omega) hb (fun j y => absurd y (by omega))
      obtain ⟨F, hF, e⟩ := q_pb_2 (g := g) (c := q_pc ts n g (fun _ => 0)) z
      rw [q_prA, e]
      exact R_pr168 hd hs.1 b1 j1 hF 8 0 (by omega) none (fun j y => by cases y) e
    · rw [if_neg z]
      exact ⟨fun y => absurd ((nI_leI (a := 2) (by decide) (by omega)).mp y) z, fun _ => hb.q⟩
  · intro z
    refine w198 (fun M1 e1 => ?_)
    subst e1
    refine R_in (by omega) ?_
    rw [in_n z]
    exact ⟨fun y => absurd rfl y, fun _ => hb.q⟩
end pairs2
