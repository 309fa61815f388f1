/-! what was heard of a TASK -/
def so (g : gr) (q w v : Nat) : Bool := if w = 0 then decide (g (8 + q) = v) else if w = 1 then decide (v ≤ g q) else if w = 2 then (g_rd g q == decide (v = 1)) else if w = 3 then (decide (g (8 + q) ≤ 2 * g q) == decide (v = 1)) else decide (v ≤ g (32 + q))
theorem so_0 (g : gr) (q v : Nat) : so g q 0 v = decide (g (8 + q) = v) := rfl
theorem so_1 (g : gr) (q v : Nat) : so g q 1 v = decide (v ≤ g q) := rfl
theorem so_2 (g : gr) (q v : Nat) : so g q 2 v = (g_rd g q == decide (v = 1)) := rfl
theorem so_3 (g : gr) (q v : Nat) : so g q 3 v = (decide (g (8 + q) ≤ 2 * g q) == decide (v = 1)) := rfl
theorem so_4 (g : gr) (q v : Nat) : so g q 4 v = decide (v ≤ g (32 + q)) := rfl
def sset (g : gr) (S w v : Nat) : Nat := bm (fun q => S.testBit q && so g q w v) 8
def fA (g : gr) (he : List (Nat × Nat)) (q : Nat) : Nat → Bool
  | 0 => decide (0 < g q)
  | n + 1 => fA g he q n && so g q (he.getD n (0, 0)).1 (he.getD n (0, 0)).2
def fS (g : gr) (he : List (Nat × Nat)) (n : Nat) : Nat := bm (fun q => fA g he q n) 8
theorem fS_lt (g : gr) (he : List (Nat × Nat)) (n : Nat) : fS g he n < 256 := bm_lt _ 8 (by omega)
theorem bm_cg {S T : Nat → Bool} (h : ∀ q, q < 8 → S q = T q) : bm S 8 = bm T 8 := bt_ext (bm_lt _ 8 (by omega)) (bm_lt _ 8 (by omega)) (fun k hk => by rw [bm_8 _ hk, bm_8 _ hk, h k hk])
theorem fS_s (g : gr) (he : List (Nat × Nat)) (n : Nat) : fS g he (n + 1) = sset g (fS g he n) (he.getD n (0, 0)).1 (he.getD n (0, 0)).2 := bm_cg (fun q hq => by rw [fS, bm_8 _ hq]; rfl)
theorem fA_there {g : gr} {he : List (Nat × Nat)} {q : Nat} : ∀ n, fA g he q n = true → 0 < g q := by
  intro n
  induction n with
  | zero => intro h; simpa [fA] using h
  | succ n ih => intro h; rw [fA, Bool.and_eq_true] at h; exact ih h.1
theorem fS_p {g : gr} {he : List (Nat × Nat)} {n q : Nat} (hq : q < 8) (h : (fS g he n).testBit q = true) : 0 < g q := by
  rw [fS, bm_8 _ hq] at h
  exact fA_there n h
theorem fA_stop {g : gr} {he : List (Nat × Nat)} {q : Nat} : ∀ n k, fA g he q k = false → fA g he q (k + n) = false := by
  intro n
  induction n with
  | zero => intro k h; exact h
  | succ n ih => intro k h; rw [← Nat.add_assoc, fA, ih k h]; rfl
/-- how many of S are so, how many are left at most -/
def a_y (g : gr) (S w v : Nat) : Nat := bc (sset g S w v)
def a_l (g : gr) (S w v : Nat) : Nat := max (a_y g S w v) (bc S - a_y g S w v)
def q_a1 (g : gr) (S w v : Nat) (x : Option (Nat × Nat)) : Option (Nat × Nat) := match x with
  | none => some (100 * w + v, a_l g S w v)
  | some y => if y.2 ≤ a_l g S w v then some y else some (100 * w + v, a_l g S w v)
def q_av (g : gr) (S w : Nat) : Nat → Nat → Option (Nat × Nat) → Option (Nat × Nat)
  | 0, _, x => x
  | n + 1, v, x => q_av g S w n (v + 1) (q_a1 g S w v x)
def lo5 (w : Nat) : Nat := if w < 2 then 1 else 0
def hi5 (w : Nat) : Nat := if w < 2 then 12 else if w < 4 then 1 else 20
def q_aw (g : gr) (S : Nat) : Nat → Nat → Option (Nat × Nat) → Option (Nat × Nat)
  | 0, _, x => x
  | n + 1, w, x => q_aw g S n (w + 1) (q_av g S w (hi5 w + 1 - lo5 w) (lo5 w) x)
theorem bc_bm (S : Nat → Bool) : bc (bm S 8) = (List.range 8).countP S := by
  unfold bc
  refine List.countP_congr (fun k hk => ?_)
  rw [bm_8 _ (List.mem_range.mp hk)]
theorem a_y_le (g : gr) (S w v : Nat) : a_y g S w v ≤ bc S := by
  rw [a_y, sset, bc_bm]
  unfold bc
  refine List.countP_mono_left (fun k _ h => ?_)
  simp only [Bool.and_eq_true] at h
  exact h.1
theorem a_l_le (g : gr) (S w v : Nat) : a_l g S w v ≤ bc S := by
  have := a_y_le g S w v
  unfold a_l
  omega
theorem jd_max_n {a b : Nat} (ha : a < 2 ^ 31) (hb : b < 2 ^ 31) : jd_max (nI a) (nI b) = nI (max a b) := by
  unfold jd_max
  by_cases h : a < b
  · rw [if_pos ((nI_ltI ha hb).mpr h), Nat.max_eq_right (by omega)]
  · rw [if_neg (fun q => h ((nI_ltI ha hb).mp q)), Nat.max_eq_left (by omega)]
section hear
variable {d B b r : Nat} {g gk g' u : gr} {ts tx tx' t' : List Nat} {rw rw' : List Int64} {un un' : List gr} {kp kp' : Nat → Option gr} {he sa : List (Nat × Nat)} {M0 M M1 : Nat → Nat → Int32} {L0 ML L1 : Nat → Nat → Int64} {R0 R R1 : Nat → Nat → Option Nat}
theorem c_so (hc : cr M 1 g) (hg : gok g B) (hB : B < 2 ^ 20) {q w v : Nat} (hq : q < 8) (h0 : 0 < g q) (hw : w < 5) (hv : v ≤ 20) : he_so M 1 q w (nI v) = if so g q w v = true then 1 else 0 := by
  have hl := hg.lo hq
  have he := hg.e hq
  have hdn := hg.dnB hq
  obtain ⟨b1, b2, b3, b4, -⟩ := (hc.2.2.2 q hq).2.2.2.2 h0
  have a2 := (hc.2.2.2 q hq).1
  have e1 : (nI v = 1) ↔ v = 1 := nI_eq (b := 1) (by omega) (by decide)
  match w, hw with
  | 0, _ =>
    have k : nI (g (8 + q)) = nI v ↔ g (8 + q) = v := nI_eq (by omega) (by omega)
    rw [so_0, he_so, a2]
    simp only [k]
    by_cases z : g (8 + q) = v <;> simp [z]
  | 1, _ =>
    have k : nI (g q) < nI v ↔ ¬ v ≤ g q := (nI_ltI (by omega) (by omega)).trans (by omega)
    rw [so_1, he_so, b1]
    simp only [k]
    by_cases z : v ≤ g q <;> simp [z]
  | 2, _ =>
    rw [so_2, he_so, c_rdy hc hg (by omega) hq]
    simp only [e1]
    by_cases z1 : g_rd g q = true <;> by_cases z2 : v = 1 <;> simp [z1, z2]
  | 3, _ =>
    have em : (2 : Int32) * nI (g q) = nI (2 * g q) := nI_mul 2 (g q)
    have k : nI (2 * g q) < nI (g (8 + q)) ↔ ¬ g (8 + q) ≤ 2 * g q := (nI_ltI (by omega) (by omega)).trans (by omega)
    rw [so_3, he_so, b1, a2, em]
    simp only [k, e1]
    by_cases z1 : g (8 + q) ≤ 2 * g q <;> by_cases z2 : v = 1 <;> simp [z1, z2]
  | 4, _ =>
    have k : nI (g (32 + q)) < nI v ↔ ¬ v ≤ g (32 + q) := (nI_ltI (by omega) (by omega)).trans (by omega)
    have e : he_so M 1 q 4 (nI v) = if M (1 + 6) q < nI v then 0 else 1 := rfl
    rw [so_4, e, b4]
    simp only [k]
    by_cases z : v ≤ g (32 + q) <;> simp [z]
  | w + 5, hw => exact absurd hw (by omega)
theorem c_hws (hc : cr M 1 g) (hg : gok g B) (hB : B < 2 ^ 20) {S w v : Nat} (hS : S < 256) (hp : ∀ j, j < 8 → S.testBit j = true → 0 < g j) (hw : w < 5) (hv : v ≤ 20) : ∀ k, k ≤ 8 → he_ws M 1 (nI S) w (nI v) k = nI (bm (fun q => S.testBit q && so g q w v) k) := by
  intro k
  induction k with
  | zero => intro _; rfl
  | succ k ih =>
    intro hk
    rw [he_ws, ih (by omega), bt_get S hS k (by omega), bm]
    by_cases z : S.testBit k = true
    · rw [if_pos z, if_neg (by decide), c_so hc hg hB (by omega) (hp k (by omega) z) hw hv]
      by_cases y : so g k w v = true
      · rw [if_pos y, if_neg (by decide), if_pos (by rw [z, y]; rfl), bt_or _ (bm_lt _ k (by omega)) k (by omega)]
      · rw [if_neg y, if_pos rfl, if_neg (by rw [z, Bool.eq_false_iff.mpr y]; decide)]
    · rw [if_neg z, if_pos rfl, if_neg (by rw [Bool.eq_false_iff.mpr z]; simp)]
theorem he_get {k : Nat} (hh : ∀ p ∈ he, p.1 < 5 ∧ p.2 ≤ 20) (hk : k < he.length) : (he.getD k (0, 0)).1 < 5 ∧ (he.getD k (0, 0)).2 ≤ 20 := by
  have e : he.getD k (0, 0) = he[k] := by simp [List.getD_eq_getElem?_getD, hk]
  rw [e]
  exact hh _ (List.getElem_mem hk)
theorem c_fit (hc : cr M 1 g) (hg : gok g B) (hB : B < 2 ^ 20) (hh : IH M he) : ∀ k, k ≤ he.length → he_fit M 1 k = nI (fS g he k) := by
  obtain ⟨h1, h2, h3, h4⟩ := hh
  intro k
  induction k with
  | zero => intro _; rw [he_fit, c_tset hc hg 8 (by omega)]; rfl
  | succ k ih =>
    intro hk
    obtain ⟨x1, x2⟩ := he_get h2 (show k < he.length by omega)
    obtain ⟨y1, y2⟩ := h4 k (by omega)
    rw [he_fit, ih (by omega), y1, y2, nI_clamp (by omega), c_hws hc hg hB (fS_lt _ _ _) (fun j hj hb => fS_p hj hb) x1 x2 8 (by omega), fS_s]
    rfl
theorem C_fitting {K : wK} (hd : 5 ≤ d) (hc : cr M 1 g) (hg : gok g B) (hB : B < 2 ^ 20) (hh : IH M he) (hK : K (nI (fS g he he.length)) M ML R) : wI d 4 [.ref 46, .ref 1] M ML R K := by
  refine wI_of (t_fitting fm_W1 (M, ML, R) he.length hh.1 hh.2.2.1 (fun k hk => ⟨_, (he_get hh.2.1 hk).1, (hh.2.2.2 k hk).1⟩)) hd ?_
  dsimp only
  rw [c_fit hc hg hB hh he.length (Nat.le_refl _)]
  exact hK
theorem C_fits (hd : 5 ≤ d) (h : IC g un kp tx ts rw he sa M ML R) (hs : SO g un kp ts B) (hB : B < 2 ^ 20) : wI (d + 1) 111 [.ref 0] M ML R (CQ (nI (fS g he he.length)) [nL (bc (fS g he he.length))] M ML R) := by
  refine w111 (C_fitting hd h.2.1 hs.1 hB h.2.2.2.2.2.2.1 ?_)
  refine B_clear (by omega) h.b (fun M1 h1 f1 => ?_)
  refine R_bc (by omega) (fS_lt _ _ _) ?_
  refine B_add (by omega) h1 (by decide) _ (fun M2 L2 h2 _ _ => ?_)
  exact h2.q
/-- the best so far, as the class holds it -/
def ab (x : Option (Nat × Nat)) : Int32 := match x with
  | none => -1
  | some y => nI y.1
def al (m : Nat) (x : Option (Nat × Nat)) : Int32 := match x with
  | none => nI m
  | some y => nI y.2
def aok (x : Option (Nat × Nat)) : Prop := ∀ y, x = some y → y.2 ≤ 8
theorem q_a1_ok (g : gr) (S w v : Nat) {x : Option (Nat × Nat)} (h : aok x) : aok (q_a1 g S w v x) := by
  have h1 := a_l_le g S w v
  have h2 := bc_le S
  intro y e
  unfold q_a1 at e
  split at e
  · cases e; dsimp only; omega
  · split at e
    · cases e; exact h _ rfl
    · cases e; dsimp only; omega
theorem q_av_ok (g : gr) (S w : Nat) : ∀ n v x, aok x → aok (q_av g S w n v x) := by
  intro n
  induction n with
  | zero => intro v x h; exact h
  | succ n ih => intro v x h; exact ih (v + 1) _ (q_a1_ok g S w v h)
theorem al_cmp {g : gr} {S w v m : Nat} {x : Option (Nat × Nat)} (hx : aok x) (hm : 9 ≤ m ∨ bc S < m) (hm2 : m < 2 ^ 31) : (al m x ≤ nI (a_l g S w v) → q_a1 g S w v x = x) ∧ (¬ al m x ≤ nI (a_l g S w v) → q_a1 g S w v x = some (100 * w + v, a_l g S w v)) := by
  have h1 := a_l_le g S w v
  have h2 := bc_le S
  unfold al q_a1
  cases x with
  | none => exact ⟨fun z => absurd ((nI_leI (by omega) (by omega)).mp z) (by omega), fun _ => rfl⟩
  | some y =>
    have h3 := hx y rfl
    dsimp only
    refine ⟨fun z => by rw [if_pos ((nI_leI (by omega) (by omega)).mp z)], fun z => by rw [if_neg (fun y => z ((nI_leI (by omega) (by omega)).mpr y))]⟩
theorem IZ_lo (h : IZ M) {w : Nat} (hw : w < 5) : M 247 w = nI (lo5 w) ∧ M 248 w = nI (hi5 w) := h w hw
theorem hi5_le (w : Nat) : hi5 w ≤ 20 ∧ lo5 w ≤ hi5 w + 1 := by
  unfold hi5 lo5
  split
  · omega
  · split <;> omega
theorem lohi (w : Nat) : lo5 w ≤ hi5 w := by
  unfold hi5 lo5
  split
  · omega
  · split <;> omega
theorem n100 (w v : Nat) : (100 : Int32) * nI w + nI v = nI (100 * w + v) := by
  rw [show (100 : Int32) * nI w = nI (100 * w) from nI_mul 100 w, nI_add]
theorem C_asks2 {K : wK} {S w : Nat} (hd : 4 ≤ d) (hc : cr M 1 g) (hg : gok g B) (hB : B < 2 ^ 20) (hz : IZ M) (hS : S < 256) (hp : ∀ j, j < 8 → S.testBit j = true → 0 < g j) (hw : w < 5) (F : Option (Nat × Nat)) (hK : H112_34 d (nI S) (nI (bc S)) (ab F) (al (bc S + 1) F) (nI (w + 1)) M ML R K) : ∀ n v, v + n = hi5 w + 1 → ∀ x, aok x → q_av g S w n v x = F → H112_48 d (nI S) (nI (bc S)) (ab x) (al (bc S + 1) x) (nI w) (nI v) M ML R K := by
  obtain ⟨z1, z2⟩ := IZ_lo hz hw
  have h5 := hi5_le w
  have hb := bc_le S
  intro n
  induction n with
  | zero =>
    intro v hv x hx e
    have e : x = F := e
    subst e
    refine h112_48 ⟨w, rfl, hw, ?_⟩
    rw [z2, nI_1]
    exact ⟨fun _ => hK, fun y => absurd ((nI_ltI (by omega) (by omega)).mpr (by omega)) y⟩
  | succ n ih =>
    intro v hv x hx e
    rw [q_av] at e
    refine h112_48 ⟨w, rfl, hw, ?_⟩
    rw [z2]
    refine ⟨fun y => absurd ((nI_ltI (by omega) (by omega)).mp y) (by omega), fun _ => ?_⟩
    refine wI_of (t_whereSo fm_W1 (M, ML, R) (nI S) w hw (nI v)) (by omega) ?_
    dsimp only
    rw [c_hws hc hg hB hS hp hw (by omega) 8 (by omega)]
    refine R_bc (by omega) (bm_lt _ 8 (by omega)) ?_
    have hy := a_y_le g S w v
    have hal := a_l_le g S w v
    rw [show bc (bm (fun q => S.testBit q && so g q w v) 8) = a_y g S w v from rfl, nI_sub hy]
    refine R_max (by omega) ?_
    rw [jd_max_n (by omega) (by omega), show max (a_y g S w v) (bc S - a_y g S w v) = a_l g S w v from rfl, nI_1, n100]
    obtain ⟨c1, c2⟩ := al_cmp (g := g) (S := S) (w := w) (v := v) (m := bc S + 1) hx (by omega) (by omega)
    refine ⟨fun y => ?_, fun y => ?_⟩
    · rw [c1 y] at e
      exact ih (v + 1) (by omega) x hx e
    · rw [c2 y] at e
      exact ih (v + 1) (by omega) (some (100 * w + v, a_l g S w v)) (fun y e => by cases e; dsimp only; omega) e
def q_asA (x : Option (Nat × Nat)) : Int32 := ab x
def q_asW (x : Option (Nat × Nat)) : List Int64 := [(al 0 x).toInt64]
theorem C_asks1 {S : Nat} (hd : 4 ≤ d) (hg : gok g B) (hB : B < 2 ^ 20) (hz : IZ M) (hS : S < 256) (hp : ∀ j, j < 8 → S.testBit j = true → 0 < g j) (h : BC g ts rw M0 L0 M ML) : ∀ n w, w + n = 5 → ∀ x, aok x → (w = 5 → ∃ y, x = some y) → H112_34 d (nI S) (nI (bc S)) (ab x) (al (bc S + 1) x) (nI w) M ML R (CQ (q_asA (q_aw g S n w x)) (q_asW (q_aw g S n w x)) M0 L0 R) := by
  intro n
  induction n with
  | zero =>
    intro w hw x hx hs
    refine h112_34 ⟨fun _ => ?_, fun z => absurd ((nI_leI (a := 5) (by decide) (by omega)).mpr (by omega)) z⟩
    obtain ⟨y, rfl⟩ := hs (by omega)
    refine B_clear (by omega) h (fun M1 h1 f1 => ?_)
    refine B_add (by omega) h1 (by decide) _ (fun M2 L2 h2 _ _ => ?_)
    exact h2.q
  | succ n ih =>
    intro w hw x hx hs
    have h5 := hi5_le w
    refine h112_34 ⟨fun z => absurd ((nI_leI (a := 5) (by decide) (by omega)).mp z) (by omega), fun _ => ⟨w, rfl, by omega, ?_⟩⟩
    rw [(IZ_lo hz (show w < 5 by omega)).1, q_aw]
    refine C_asks2 hd h.1 hg hB hz hS hp (by omega) (q_av g S w (hi5 w + 1 - lo5 w) (lo5 w) x) ?_ (hi5 w + 1 - lo5 w) (lo5 w) (by omega) x hx rfl
    refine ih (w + 1) (by omega) _ (q_av_ok g S w _ _ x hx) (fun _ => ?_)
    have hpos : ∃ m, hi5 w + 1 - lo5 w = m + 1 := ⟨hi5 w - lo5 w, by have := lohi w; omega⟩
    obtain ⟨m, em⟩ := hpos
    rw [em, q_av]
    have keep : ∀ n v y, ∃ z, q_av g S w n v (some y) = some z := by
      intro n
      induction n with
      | zero => intro v y; exact ⟨y, rfl⟩
      | succ n ih2 =>
        intro v y
        rw [q_av, q_a1]
        split
        · exact ih2 _ _
        · exact ih2 _ _
    have one : ∃ y, q_a1 g S w (lo5 w) x = some y := by
      unfold q_a1
      split
      · exact ⟨_, rfl⟩
      · split
        · exact ⟨_, rfl⟩
        · exact ⟨_, rfl⟩
    obtain ⟨y, ey⟩ := one
    rw [ey]
    exact keep m _ y
theorem C_asks (hd : 5 ≤ d) (h : IC g un kp tx ts rw he sa M ML R) (hs : SO g un kp ts B) (hB : B < 2 ^ 20) : wI (d + 1) 112 [.ref 0] M ML R (if fS g he he.length = 0 then CQ (-2) rw M ML R else CQ (q_asA (q_aw g (fS g he he.length) 5 0 none)) (q_asW (q_aw g (fS g he he.length) 5 0 none)) M ML R) := by
  refine w112 (C_fitting hd h.2.1 hs.1 hB h.2.2.2.2.2.2.1 ?_)
  have hl := fS_lt g he he.length
  by_cases z : fS g he he.length = 0
  · rw [if_pos z, z]
    exact ⟨fun y => absurd nI_0 y, fun _ => h.b.q⟩
  · rw [if_neg z]
    refine ⟨fun _ => ?_, fun y => absurd y (nI_ne0 (by omega) (by omega))⟩
    refine R_bc (by omega) hl ?_
    rw [nI_1]
    exact C_asks1 (by omega) hs.1 hB h.2.2.2.2.2.2.2.2 hl (fun j hj hb => fS_p hj hb) h.b 5 0 (by omega) none (fun y e => by cases e) (fun y => absurd y (by omega))
/-! the reference -/
theorem R_isSo {K : wK} (hd : 3 ≤ d) (ha : rr (M 220) g) (hg : gok g B) (hB : B < 2 ^ 20) {q w v : Nat} (hq : q < 8) (hw : w < 5) (hv : v ≤ 20) (hK : K (if so g q w v = true then 1 else 0) M ML R) : wI d 211 [.ref 219, .int (nI q), .int (nI w), .int (nI v)] M ML R K := by
  obtain ⟨d, rfl⟩ : ∃ e, d = e + 1 := ⟨d - 1, by omega⟩
  have hl := hg.lo hq
  have hee := hg.e hq
  have hdn := hg.dnB hq
  have e1 : (nI v = 1) ↔ v = 1 := nI_eq (b := 1) (by omega) (by decide)
  have wn : ∀ j, j < 5 → (nI w = nI j ↔ w = j) := fun j hj => nI_eq (by omega) (by omega)
  refine w211 ⟨fun z => ?_, fun z => ?_, fun z => ?_, fun z => ?_, fun z0 z1 z2 z3 => ?_⟩
  · have := (wn 0 (by decide)).mp z
    subst this
    rw [so_0] at hK
    refine ⟨8 + q, ix8 q, by omega, ?_⟩
    rw [ha _ (by omega)]
    refine ⟨fun y => ?_, fun y => ?_⟩
    · rw [if_neg (by simp; exact fun x => y (by rw [x]))] at hK; exact hK
    · rw [if_pos (by simp; exact (nI_eq (by omega) (by omega)).mp y)] at hK; exact hK
  · have := (wn 1 (by decide)).mp z
    subst this
    rw [so_1] at hK
    refine ⟨q, rfl, by omega, ?_⟩
    rw [ha _ (by omega)]
    refine ⟨fun y => ?_, fun y => ?_⟩
    · rw [if_neg (by simp; exact (nI_ltI (by omega) (by omega)).mp y)] at hK; exact hK
    · rw [if_pos (by simp; exact Nat.le_of_not_lt (fun x => y ((nI_ltI (by omega) (by omega)).mpr x)))] at hK; exact hK
  · have := (wn 2 (by decide)).mp z
    subst this
    rw [so_2] at hK
    refine R_rdy fm_N220 (by omega) ha hg (by omega) hq ?_
    by_cases z1 : g_rd g q = true <;> by_cases z2 : v = 1
    · rw [if_pos z1]
      rw [if_pos (by simp [z1, z2])] at hK
      exact ⟨fun y => absurd (e1.mpr z2) y, fun _ => ⟨fun y => absurd rfl y, fun _ => hK⟩⟩
    · rw [if_pos z1]
      rw [if_neg (by simp [z1, z2])] at hK
      exact ⟨fun _ => ⟨fun _ => hK, fun y => absurd y (by decide)⟩, fun y => absurd (e1.mp y) z2⟩
    · rw [if_neg z1]
      rw [if_neg (by simp [z1, z2])] at hK
      exact ⟨fun y => absurd (e1.mpr z2) y, fun _ => ⟨fun _ => hK, fun y => absurd y (by decide)⟩⟩
    · rw [if_neg z1]
      rw [if_pos (by simp [z1, z2])] at hK
      exact ⟨fun _ => ⟨fun y => absurd rfl y, fun _ => hK⟩, fun y => absurd (e1.mp y) z2⟩
  · have := (wn 3 (by decide)).mp z
    subst this
    rw [so_3] at hK
    refine ⟨q, rfl, by omega, 8 + q, ix8 q, by omega, ?_⟩
    rw [ha _ (by omega), ha _ (by omega), show (2 : Int32) * nI (g q) = nI (2 * g q) from nI_mul 2 (g q)]
    by_cases z1 : g (8 + q) ≤ 2 * g q <;> by_cases z2 : v = 1
    · rw [if_pos (by simp [z1, z2])] at hK
      exact ⟨fun y => absurd ((nI_ltI (by omega) (by omega)).mp y) (by omega), fun _ => ⟨fun y => absurd (e1.mpr z2) y, fun _ => ⟨fun y => absurd rfl y, fun _ => hK⟩⟩⟩
    · rw [if_neg (by simp [z1, z2])] at hK
      exact ⟨fun y => absurd ((nI_ltI (by omega) (by omega)).mp y) (by omega), fun _ => ⟨fun _ => ⟨fun _ => hK, fun y => absurd y (by decide)⟩, fun y => absurd (e1.mp y) z2⟩⟩
    · rw [if_neg (by simp [z1, z2])] at hK
      exact ⟨fun _ => ⟨fun y => absurd (e1.mpr z2) y, fun _ => ⟨fun _ => hK, fun y => absurd y (by decide)⟩⟩, fun y => absurd ((nI_ltI (by omega) (by omega)).mpr (by omega)) y⟩
    · rw [if_pos (by simp [z1, z2])] at hK
      exact ⟨fun _ => ⟨fun _ => ⟨fun y => absurd rfl y, fun _ => hK⟩, fun y => absurd (e1.mp y) z2⟩, fun y => absurd ((nI_ltI (by omega) (by omega)).mpr (by omega)) y⟩
  · have w4 : w = 4 := by
      have a0 : ¬ w = 0 := fun y => z0 ((wn 0 (by decide)).mpr y)
      have a1 : ¬ w = 1 := fun y => z1 ((wn 1 (by decide)).mpr y)
      have a2 : ¬ w = 2 := fun y => z2 ((wn 2 (by decide)).mpr y)
      have a3 : ¬ w = 3 := fun y => z3 ((wn 3 (by decide)).mpr y)
      omega
    subst w4
    rw [so_4] at hK
    refine ⟨32 + q, ix32 q, by omega, ?_⟩
    rw [ha _ (by omega)]
    refine ⟨fun y => ?_, fun y => ?_⟩
    · rw [if_neg (by simp; exact (nI_ltI (by omega) (by omega)).mp y)] at hK; exact hK
    · rw [if_pos (by simp; exact Nat.le_of_not_lt (fun x => y ((nI_ltI (by omega) (by omega)).mpr x)))] at hK; exact hK
theorem R_fit2 {K : wK} (hd : 3 ≤ d) (ha : rr (M 220) g) (hg : gok g B) (hB : B < 2 ^ 20) (hl : he.length ≤ 12) (hh : ∀ p ∈ he, p.1 < 5 ∧ p.2 ≤ 20) (hj : JH M he) {q : Nat} (hq : q < 8) {x1 : Int32} (hK : ∀ x3 : Int32, x3 = (if fA g he q he.length = true then 1 else 0) → (x3 = 0 → H212_4 d (x1 ||| (0 : Int32)) (nI q + (1 : Int32)) M ML R K) ∧ (¬ x3 = 0 → H212_4 d (x1 ||| ((1 : Int32) <<< (nI q &&& 31))) (nI q + (1 : Int32)) M ML R K)) : ∀ n k, k + n = he.length → H212_22 d x1 (nI q) (if fA g he q k = true then 1 else 0) (nI k) M ML R K := by
  obtain ⟨j1, j2⟩ := hj
  intro n
  induction n with
  | zero =>
    intro k hk
    have : k = he.length := by omega
    subst this
    refine h212_22 ⟨fun _ => hK _ rfl, fun z => absurd ?_ z⟩
    rw [j1]
    exact Int32.le_refl _
  | succ n ih =>
    intro k hk
    refine h212_22 ⟨fun z => ?_, fun _ => ⟨fun z => ?_, fun z => ?_⟩⟩
    · rw [j1] at z
      exact absurd ((nI_leI (by omega) (by omega)).mp z) (by omega)
    · have hf : fA g he q k = false := by
        cases hb : fA g he q k with
        | false => rfl
        | true => rw [hb, if_pos rfl] at z; exact absurd z (by decide)
      have := fA_stop (n + 1) k hf
      rw [hk] at this
      exact hK _ (by rw [hf, this])
    · obtain ⟨x1', x2'⟩ := he_get hh (show k < he.length by omega)
      refine ⟨k, rfl, by omega, k, rfl, by omega, ?_⟩
      rw [(j2 k (by omega)).1, (j2 k (by omega)).2]
      refine R_isSo hd ha hg hB hq x1' x2' ?_
      have hf : fA g he q k = true := by
        cases hb : fA g he q k with
        | true => rfl
        | false => rw [hb, if_neg (by decide)] at z; exact absurd rfl z
      have := ih (k + 1) (by omega)
      rw [fA, hf, Bool.true_and] at this
      rw [nI_1]
      exact this
theorem R_fit1 {K : wK} (hd : 3 ≤ d) (ha : rr (M 220) g) (hg : gok g B) (hB : B < 2 ^ 20) (hl : he.length ≤ 12) (hh : ∀ p ∈ he, p.1 < 5 ∧ p.2 ≤ 20) (hj : JH M he) (hK : K (nI (fS g he he.length)) M ML R) : ∀ n q, q + n = 8 → H212_4 d (nI (bm (fun q => fA g he q he.length) q)) (nI q) M ML R K := by
  intro n
  induction n with
  | zero =>
    intro q hq
    have : q = 8 := by omega
    subst this
    exact h212_4 ⟨fun _ => hK, fun z => absurd (by decide) z⟩
  | succ n ih =>
    intro q hq
    refine h212_4 ⟨fun z => absurd ((nI_leI (a := 8) (by decide) (by omega)).mp z) (by omega), fun _ => ?_⟩
    refine R_th fm_N220 (by omega) ha hg (by omega) ?_
    have e0 : (if 0 < g q then (1 : Int32) else 0) = if fA g he q 0 = true then 1 else 0 := by
      rw [fA]
      by_cases z : 0 < g q
      · rw [if_pos z, if_pos (by simp [z])]
      · rw [if_neg z, if_neg (by simp [z])]
    rw [e0]
    refine R_fit2 hd ha hg hB hl hh hj (by omega) (fun x3 e3 => ?_) he.length 0 (by omega)
    have := ih (q + 1) (by omega)
    rw [bm] at this
    rw [nI_1]
    by_cases z : fA g he q he.length = true
    · rw [if_pos z] at e3 this
      subst e3
      rw [← bt_or _ (bm_lt _ q (by omega)) q (by omega)] at this
      exact ⟨fun y => absurd y (by decide), fun _ => this⟩
    · rw [if_neg z] at e3 this
      subst e3
      rw [show ∀ x : Int32, x ||| 0 = x from fun x => Int32.or_zero]
      exact ⟨fun _ => this, fun y => absurd rfl y⟩
theorem R_fitting {K : wK} (hd : 4 ≤ d) (ha : rr (M 220) g) (hg : gok g B) (hB : B < 2 ^ 20) (hl : he.length ≤ 12) (hh : ∀ p ∈ he, p.1 < 5 ∧ p.2 ≤ 20) (hj : JH M he) (hK : K (nI (fS g he he.length)) M ML R) : wI d 212 [.ref 219] M ML R K := by
  obtain ⟨d, rfl⟩ : ∃ e, d = e + 1 := ⟨d - 1, by omega⟩
  exact w212 (R_fit1 (by omega) ha hg hB hl hh hj hK 8 0 (by omega))
theorem R_fits (hd : 4 ≤ d) (hl : he.length ≤ 12) (hh : ∀ p ∈ he, p.1 < 5 ∧ p.2 ≤ 20) (h : IR g un kp tx ts rw he sa M ML R) (hs : SO g un kp ts B) (hB : B < 2 ^ 20) : wI (d + 1) 213 [.ref 219] M ML R (RQ (nI (fS g he he.length)) [nL (bc (fS g he he.length))] M ML R) := by
  have hb := h.b.u (a := 219) (i := 5) (x := 0) (by omega)
  refine w213 (fun M1 e1 => ?_)
  subst e1
  refine R_fitting hd hb.1 hs.1 hB hl hh h.t0.2.2.2.2.2.1 (fun M3 e3 => ?_)
  subst e3
  refine R_bc (by omega) (fS_lt _ _ _) ?_
  refine B_tell (by omega) hb.z (by decide) _ (fun M2 L2 h2 _ _ => ?_)
  exact h2.q
theorem R_asks3 {K : wK} {S w v : Nat} (hd : 3 ≤ d) (ha : rr (M 220) g) (hg : gok g B) (hB : B < 2 ^ 20) (hS : S < 256) (hw : w < 5) (hv : v ≤ 20) {x : Option (Nat × Nat)} (hx : aok x) (hK : H214_39 d (nI S) (ab (q_a1 g S w v x)) (al 1000000 (q_a1 g S w v x)) (nI w) (nI (v + 1)) M ML R K) : ∀ n q, q + n = 8 → H214_55 d (nI S) (ab x) (al 1000000 x) (nI w) (nI v) (nI ((List.range q).countP (fun j => S.testBit j && so g j w v))) (nI q) M ML R K := by
  have hal := a_l_le g S w v
  have hb := bc_le S
  have hy := a_y_le g S w v
  intro n
  induction n with
  | zero =>
    intro q hq
    have : q = 8 := by omega
    subst this
    refine h214_55 ⟨fun _ => ?_, fun z => absurd (by decide) z⟩
    have e : (List.range 8).countP (fun j => S.testBit j && so g j w v) = a_y g S w v := by rw [a_y, sset, bc_bm]
    rw [e]
    refine R_bc (by omega) hS ?_
    rw [nI_sub hy]
    refine R_max (by omega) ?_
    rw [jd_max_n (by omega) (by omega), show max (a_y g S w v) (bc S - a_y g S w v) = a_l g S w v from rfl, nI_1, n100]
    obtain ⟨c1, c2⟩ := al_cmp (g := g) (S := S) (w := w) (v := v) (m := 1000000) hx (by omega) (by decide)
    refine ⟨fun y => ?_, fun y => ?_⟩
    · rw [c2 (fun z => absurd y (Int32.not_lt.mpr z))] at hK
      exact hK
    · rw [c1 (Int32.not_lt.mp y)] at hK
      exact hK
  | succ n ih =>
    intro q hq
    refine h214_55 ⟨fun z => absurd ((nI_leI (a := 8) (by decide) (by omega)).mp z) (by omega), fun _ => ?_⟩
    have i2 := ih (q + 1) (by omega)
    have es : (List.range (q + 1)).countP (fun j => S.testBit j && so g j w v) = (List.range q).countP (fun j => S.testBit j && so g j w v) + if (S.testBit q && so g q w v) = true then 1 else 0 := by
      rw [List.range_succ, List.countP_append, List.countP_cons, List.countP_nil, Nat.zero_add]
    rw [es] at i2
    rw [nI_1]
    refine R_has (by omega) hS (by omega) ?_
    by_cases z : S.testBit q = true
    · rw [if_pos z]
      refine ⟨fun y => absurd y (by decide), fun _ => ?_⟩
      refine R_isSo hd ha hg hB (by omega) hw hv ?_
      by_cases y : so g q w v = true
      · rw [if_pos y]
        rw [if_pos (by rw [z, y]; rfl), ← nI_1] at i2
        exact ⟨fun x => absurd x (by decide), fun _ => i2⟩
      · rw [if_neg y]
        rw [if_neg (by rw [z, Bool.eq_false_iff.mpr y]; decide)] at i2
        rw [Int32.add_zero]
        exact ⟨fun _ => i2, fun x => absurd rfl x⟩
    · rw [if_neg z]
      rw [if_neg (by rw [Bool.eq_false_iff.mpr z]; simp)] at i2
      rw [Int32.add_zero]
      exact ⟨fun _ => i2, fun x => absurd rfl x⟩
theorem low_5 : ∀ w, w < 5 → md_low (nI w) = nI (lo5 w) ∧ md_high (nI w) = nI (hi5 w) := by decide +kernel
theorem R_asks2 {K : wK} {S w : Nat} (hd : 3 ≤ d) (ha : rr (M 220) g) (hg : gok g B) (hB : B < 2 ^ 20) (hS : S < 256) (hw : w < 5) (F : Option (Nat × Nat)) (hK : H214_26 d (nI S) (ab F) (al 1000000 F) (nI (w + 1)) M ML R K) : ∀ n v, v + n = hi5 w + 1 → ∀ x, aok x → q_av g S w n v x = F → H214_39 d (nI S) (ab x) (al 1000000 x) (nI w) (nI v) M ML R K := by
  have h5 := hi5_le w
  intro n
  induction n with
  | zero =>
    intro v hv x hx e
    have e : x = F := e
    subst e
    refine h214_39 (wI_of (t_mhigh _ (nI w)) (by omega) ?_)
    rw [(low_5 w hw).2, nI_1]
    exact ⟨fun _ => hK, fun y => absurd ((nI_ltI (by omega) (by omega)).mpr (by omega)) y⟩
  | succ n ih =>
    intro v hv x hx e
    rw [q_av] at e
    refine h214_39 (wI_of (t_mhigh _ (nI w)) (by omega) ?_)
    rw [(low_5 w hw).2]
    refine ⟨fun y => absurd ((nI_ltI (by omega) (by omega)).mp y) (by omega), fun _ => ?_⟩
    exact R_asks3 hd ha hg hB hS hw (by omega) hx (ih (v + 1) (by omega) _ (q_a1_ok g S w v hx) e) 8 0 (by omega)
theorem R_asks1 {S : Nat} (hd : 3 ≤ d) (hg : gok g B) (hB : B < 2 ^ 20) (hS : S < 256) (h : BR g ts rw M0 L0 R0 M ML R) : ∀ n w, w + n = 5 → ∀ x, aok x → (w = 5 → ∃ y, x = some y) → H214_26 d (nI S) (ab x) (al 1000000 x) (nI w) M ML R (RQ (q_asA (q_aw g S n w x)) (q_asW (q_aw g S n w x)) M0 L0 R0) := by
  intro n
  induction n with
  | zero =>
    intro w hw x hx hs
    refine h214_26 ⟨fun _ M1 e1 => ?_, fun z => absurd ((nI_leI (a := 5) (by decide) (by omega)).mpr (by omega)) z⟩
    subst e1
    obtain ⟨y, rfl⟩ := hs (by omega)
    refine B_tell (by omega) h.z (by decide) _ (fun M2 L2 h2 _ _ => ?_)
    exact h2.q
  | succ n ih =>
    intro w hw x hx hs
    have h5 := hi5_le w
    refine h214_26 ⟨fun z => absurd ((nI_leI (a := 5) (by decide) (by omega)).mp z) (by omega), fun _ => wI_of (t_mlow _ (nI w)) (by omega) ?_⟩
    rw [(low_5 w (by omega)).1, q_aw]
    refine R_asks2 hd h.1 hg hB hS (by omega) (q_av g S w (hi5 w + 1 - lo5 w) (lo5 w) x) ?_ (hi5 w + 1 - lo5 w) (lo5 w) (by omega) x hx rfl
    refine ih (w + 1) (by omega) _ (q_av_ok g S w _ _ x hx) (fun _ => ?_)
    have hpos : ∃ m, hi5 w + 1 - lo5 w = m + 1 := ⟨hi5 w - lo5 w, by have := lohi w; omega⟩
    obtain ⟨m, em⟩ := hpos
    rw [em, q_av]
    have keep : ∀ n v y, ∃ z, q_av g S w n v (some y) = some z := by
      intro n
      induction n with
      | zero => intro v y; exact ⟨y, rfl⟩
      | succ n ih2 =>
        intro v y
        rw [q_av, q_a1]
        split
        · exact ih2 _ _
        · exact ih2 _ _
    have one : ∃ y, q_a1 g S w (lo5 w) x = some y := by
      unfold q_a1
      split
      · exact ⟨_, rfl⟩
      · split
        · exact ⟨_, rfl⟩
        · exact ⟨_, rfl⟩
    obtain ⟨y, ey⟩ := one
    rw [ey]
    exact keep m _ y
theorem R_asks (hd : 4 ≤ d) (hl : he.length ≤ 12) (hh : ∀ p ∈ he, p.1 < 5 ∧ p.2 ≤ 20) (h : IR g un kp tx ts rw he sa M ML R) (hs : SO g un kp ts B) (hB : B < 2 ^ 20) : wI (d + 1) 214 [.ref 219] M ML R (if fS g he he.length = 0 then RQ (-2) rw M ML R else RQ (q_asA (q_aw g (fS g he he.length) 5 0 none)) (q_asW (q_aw g (fS g he he.length) 5 0 none)) M ML R) := by
  have hb := h.b.u (a := 219) (i := 5) (x := 0) (by omega)
  refine w214 (fun M1 e1 => ?_)
  subst e1
  refine R_fitting hd hb.1 hs.1 hB hl hh h.t0.2.2.2.2.2.1 ?_
  have hlt := fS_lt g he he.length
  by_cases z : fS g he he.length = 0
  · rw [if_pos z, z]
    exact ⟨fun y => absurd nI_0 y, fun _ => hb.q⟩
  · rw [if_neg z]
    refine ⟨fun _ => ?_, fun y => absurd y (nI_ne0 (by omega) (by omega))⟩
    exact R_asks1 (by omega) hs.1 hB hlt hb 5 0 (by omega) none (fun y e => by cases e) (fun y => absurd y (by omega))
end hear
