/-! the world as a row of naturals: upper, lower, joined, early, done of 8 TASKS, PROCESSORS, SLOT, misses -/
abbrev gr : Type := Nat → Nat
def g_rel (g : gr) (q i : Nat) : Nat := g (16 + q) + p_rel (g q) (g (8 + q)) i
def g_dl (g : gr) (q i : Nat) : Nat := g (16 + q) + p_dl (g q) (g (8 + q)) i
def g_ov (g : gr) (q i : Nat) : Nat := p_ov (g q) (g (8 + q)) i
def g_gp (g : gr) (q i : Nat) : Nat := if p_gp (g q) (g (8 + q)) i = 0 then 0 else g (16 + q) + p_gp (g q) (g (8 + q)) i
def g_wt (g : gr) (q : Nat) : Nat := g q * (27720 / g (8 + q))
def g_ws (g : gr) : Nat → Nat
  | 0 => 0
  | k + 1 => g_ws g k + g_wt g k
abbrev g_nx (g : gr) (q : Nat) : Nat := g (32 + q) + 1
def g_rd (g : gr) (q : Nat) : Bool := decide (0 < g q) && (decide (g (24 + q) = 1) || decide (g_rel g q (g_nx g q) ≤ g 41))
def g_ld (g : gr) (c p q : Nat) : Int :=
  if c = 98 then (g_ov g p (g_nx g p) : Int) - g_ov g q (g_nx g q) else if c = 100 then (g_dl g q (g_nx g q) : Int) - g_dl g p (g_nx g p) else if c = 103 then (if g_ov g p (g_nx g p) = 0 then 0 else if g_ov g q (g_nx g q) = 0 then 0 else (g_gp g p (g_nx g p) : Int) - g_gp g q (g_nx g q)) else if c = 119 then ((g p * g (8 + q) : Nat) : Int) - ((g q * g (8 + p) : Nat) : Int) else (g_rel g q (g_nx g q) : Int) - g_rel g p (g_nx g p)
def g_ah (g : gr) (p q : Nat) : List Nat → Bool
  | [] => decide (p < q)
  | c :: r => if g_ld g c p q = 0 then g_ah g p q r else decide (0 < g_ld g c p q)
def g_pk (g : gr) (ts : List Nat) (w : Nat) : Nat → Option Nat
  | 0 => none
  | k + 1 => if w.testBit k = true then (match g_pk g ts w k with
    | none => some k
    | some j => if g_ah g k j ts = true then some k else some j) else g_pk g ts w k
/-- those of w, each time the first, n of them at most -/
def g_or (g : gr) (ts : List Nat) : Nat → Nat → List Nat
  | 0, _ => []
  | n + 1, w => match g_pk g ts w 8 with
    | none => []
    | some j => j :: g_or g ts n (w &&& (255 - 1 <<< j))
def g_w (g : gr) (held : Int32) : Nat := bm (fun q => decide (¬ nI q = held) && g_rd g q) 8
/-- who is run -/
def g_rn (g : gr) (ts : List Nat) (held : Int32) : Nat := bl (g_or g ts (g 40) (g_w g held))
def g_d2 (g : gr) (w : Nat) : gr := fun k => if 32 ≤ k ∧ k < 40 ∧ w.testBit (k - 32) = true then g k + 1 else g k
def g_ms (g : gr) : Nat → Nat := bm (fun q => decide (0 < g q) && decide (g_dl g q (g_nx g q) = g 41 + 1))
def g_st (g : gr) (w : Nat) : gr := fun k => if k = 42 then g 42 + bc (g_ms (g_d2 g w) 8) else if k = 41 then g 41 + 1 else g_d2 g w k
/-- a SLOT goes by -/
def g_go (g : gr) (ts : List Nat) (held : Int32) : gr := g_st g (g_rn g ts held)
def tk0 (g : gr) (q : Nat) : Prop := g q = 0 ∧ g (8 + q) = 0 ∧ g (16 + q) = 0 ∧ g (24 + q) = 0 ∧ g (32 + q) = 0
def tk1 (g : gr) (q : Nat) : Prop := 1 ≤ g q ∧ g q ≤ g (8 + q) ∧ g (8 + q) ≤ 12 ∧ g (24 + q) ≤ 1 ∧ g (16 + q) + g (32 + q) ≤ g 41
/-- a world that can be -/
def gok (g : gr) (B : Nat) : Prop := 1 ≤ g 40 ∧ g 40 ≤ 4 ∧ g 41 ≤ B ∧ g 42 ≤ 8 * g 41 ∧ g_ws g 8 ≤ 27720 * g 40 ∧ ∀ q, q < 8 → tk0 g q ∨ tk1 g q
theorem gok.p {g : gr} {B : Nat} (h : gok g B) {q : Nat} (hq : q < 8) (h0 : 0 < g q) : tk1 g q := by
  rcases h.2.2.2.2.2 q hq with z | z
  · have := z.1; omega
  · exact z
theorem gok.n {g : gr} {B : Nat} (h : gok g B) {q : Nat} (hq : q < 8) (h0 : ¬ 0 < g q) : tk0 g q := by
  rcases h.2.2.2.2.2 q hq with z | z
  · exact z
  · have := z.1; omega
theorem gok.e {g : gr} {B : Nat} (h : gok g B) {q : Nat} (hq : q < 8) : g q ≤ 12 := by
  rcases h.2.2.2.2.2 q hq with z | z
  · have := z.1; omega
  · have := z.2.1; have := z.2.2.1; omega
theorem gok.lo {g : gr} {B : Nat} (h : gok g B) {q : Nat} (hq : q < 8) : g (8 + q) ≤ 12 := by
  rcases h.2.2.2.2.2 q hq with z | z
  · have := z.2.1; omega
  · exact z.2.2.1
theorem gok.lo0 {g : gr} {B : Nat} (h : gok g B) {q : Nat} (hq : q < 8) : 0 < g (8 + q) ↔ 0 < g q := by
  rcases h.2.2.2.2.2 q hq with z | z
  · have := z.1; have := z.2.1; omega
  · have := z.1; have := z.2.1; omega
theorem gok.dn {g : gr} {B : Nat} (h : gok g B) {q : Nat} (hq : q < 8) : g (16 + q) + g (32 + q) ≤ g 41 := by
  rcases h.2.2.2.2.2 q hq with z | z
  · have := z.2.2.1; have := z.2.2.2.2; omega
  · exact z.2.2.2.2
theorem gok.wt {g : gr} {B : Nat} (h : gok g B) {q : Nat} (hq : q < 8) : g_wt g q ≤ 12 * 27720 := by
  unfold g_wt
  exact Nat.mul_le_mul (h.e hq) (Nat.div_le_self _ _)
/-- the reference's row -/
def rr (a : Nat → Int32) (g : gr) : Prop := ∀ k, k < 43 → a k = nI (g k)
/-- the class's world at b -/
def ct (M : Nat → Nat → Int32) (b : Nat) (g : gr) (q : Nat) : Prop := M (b + 2) q = nI (g (8 + q)) ∧ M (b + 3) q = nI (g_wt g q) ∧ (∃ x, x ≤ 12 ∧ M (b + 1) q = nI x) ∧ (∃ y, y ≤ g 41 ∧ M (b + 6) q = nI y) ∧
  (0 < g q → M (b + 1) q = nI (g q) ∧ M (b + 4) q = nI (g (16 + q)) ∧ M (b + 5) q = nI (g (24 + q)) ∧ M (b + 6) q = nI (g (32 + q)) ∧ M (b + 7) q = nI (g_rel g q (g_nx g q)) ∧ M (b + 8) q = nI (g_dl g q (g_nx g q)) ∧ M (b + 9) q = nI (g_ov g q (g_nx g q)) ∧ M (b + 10) q = nI (g_gp g q (g_nx g q)))
def cr (M : Nat → Nat → Int32) (b : Nat) (g : gr) : Prop := M b 10 = nI (g 40) ∧ M b 11 = nI (g 41) ∧ M b 12 = nI (g 42) ∧ ∀ q, q < 8 → ct M b g q
/-- TIES: letters -/
def tsok (ts : List Nat) : Prop := ts.length ≤ 5 ∧ ∀ c ∈ ts, c = 98 ∨ c = 100 ∨ c = 103 ∨ c = 114 ∨ c = 119
def tr (M : Nat → Nat → Int32) (t : Nat) (ts : List Nat) : Prop := M t 1 = nI ts.length ∧ ∀ k, k < ts.length → M (t + 1) k = nI (ts.getD k 0)
theorem g_ov_lt (g : gr) (q i : Nat) : g_ov g q i < 2 := by
  unfold g_ov p_ov
  split <;> omega
section gbd
variable {g : gr} {B q i : Nat}
theorem g_rel_lt (h : gok g B) (hB : B < 2 ^ 22) (hq : q < 8) (hi : i < 2 ^ 23) : g_rel g q i < 2 ^ 30 := by
  have h1 := h.dn hq
  have h2 := h.2.2.1
  have h3 := p_rel_lt (e := g q) (p := g (8 + q)) (i := i) (by omega) (h.lo hq)
  unfold g_rel
  omega
theorem g_dl_lt (h : gok g B) (hB : B < 2 ^ 22) (hq : q < 8) (hi : i < 2 ^ 23) : g_dl g q i < 2 ^ 30 := by
  have h1 := h.dn hq
  have h2 := h.2.2.1
  have h3 := p_dl_lt (e := g q) (p := g (8 + q)) (i := i) (by omega) (h.lo hq) (h.e hq)
  unfold g_dl
  omega
theorem g_gp_lt (h : gok g B) (hB : B < 2 ^ 22) (hq : q < 8) (hi : i < 2 ^ 23) : g_gp g q i < 2 ^ 30 := by
  have h1 := h.dn hq
  have h2 := h.2.2.1
  have h3 := p_gp_lt (e := g q) (p := g (8 + q)) (i := i) (h.e hq) (h.lo hq) hi
  unfold g_gp
  split <;> omega
theorem g_nx_lt (h : gok g B) (hB : B < 2 ^ 22) (hq : q < 8) : g_nx g q < 2 ^ 23 := by
  have h1 := h.dn hq
  have h2 := h.2.2.1
  unfold g_nx
  omega
end gbd
