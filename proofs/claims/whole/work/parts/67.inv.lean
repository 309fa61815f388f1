/-! what stays where -/
def fr {α : Type} (S : Nat → Nat → Prop) (M M1 : Nat → Nat → α) : Prop := ∀ a i, ¬ S a i → M1 a i = M a i
theorem fr.rfl {α : Type} {S : Nat → Nat → Prop} {M : Nat → Nat → α} : fr S M M := fun _ _ _ => Eq.refl _
theorem fr.tr {α : Type} {S : Nat → Nat → Prop} {M M1 M2 : Nat → Nat → α} (h1 : fr S M M1) (h2 : fr S M1 M2) : fr S M M2 := fun a i h => (h2 a i h).trans (h1 a i h)
theorem fr.mono {α : Type} {S T : Nat → Nat → Prop} {M M1 : Nat → Nat → α} (h : fr S M M1) (k : ∀ a i, S a i → T a i) : fr T M M1 := fun a i z => h a i (fun y => z (k a i y))
theorem fr_u {S : Nat → Nat → Prop} {M : Nat → Nat → Int32} {a i : Nat} {x : Int32} (h : S a i) : fr S M (fm_u M a i x) := fun c j z => by
  by_cases e : c = a
  · subst e
    exact fm_u_ix (fun e2 => z (by subst e2; exact h))
  · rw [fm_u_off e]
theorem fr_u2 {S : Nat → Nat → Prop} {M M1 : Nat → Nat → Int32} {a i : Nat} {x : Int32} (f : fr S M M1) (h : S a i) : fr S M (fm_u M1 a i x) := f.tr (fr_u h)
theorem fr_row {S : Nat → Nat → Prop} {M : Nat → Nat → Int32} {a : Nat} {f : Nat → Int32} (h : ∀ i, S a i) : fr S M (fm_row M a f) := fun c j z => by
  rw [fm_row_off (fun e => z (by subst e; exact h j))]
theorem fr_off {α : Type} {S : Nat → Nat → Prop} {M M1 : Nat → Nat → α} (P : Nat → Prop) (h : ∀ a, ¬ P a → M1 a = M a) (k : ∀ a i, P a → S a i) : fr S M M1 := fun a i z => by rw [h a (fun y => z (k a i y))]
/-- the class's scratch, its ROW among it -/
abbrev CS (a i : Nat) : Prop := (a = 1 ∧ 13 ≤ i) ∨ (12 ≤ a ∧ a ≤ 33) ∨ (a = 38 ∧ 2 ≤ i) ∨ a = 42 ∨ a = 43 ∨ a = 44 ∨ (52 ≤ a ∧ a ≤ 64)
abbrev CL (a _i : Nat) : Prop := a = 45 ∨ a = 53 ∨ a = 62
/-- the reference's scratch, its ROW among it -/
abbrev RS (a i : Nat) : Prop := (a = 219 ∧ ¬ i = 2 ∧ ¬ i = 8 ∧ ¬ i = 19 ∧ ¬ i = 36 ∧ ¬ i = 39) ∨ a = 223 ∨ a = 224 ∨ (226 ≤ a ∧ a ≤ 235) ∨ a = 240 ∨ a = 241 ∨ a = 245
abbrev RLg (a i : Nat) : Prop := a = 222 ∨ (a = 219 ∧ 9 ≤ i ∧ i ≤ 10)
abbrev RR (a i : Nat) : Prop := a = 219 ∧ i = 12
theorem cr_fr {M M1 : Nat → Nat → Int32} {b : Nat} {g : gr} (h : cr M b g) (f : ∀ a i, b ≤ a → a ≤ b + 10 → (a = b → 10 ≤ i ∧ i ≤ 12) → M1 a i = M a i) : cr M1 b g := by
  obtain ⟨h1, h2, h3, h4⟩ := h
  refine ⟨?_, ?_, ?_, fun q hq => ct_cg (fun j _ _ => f _ _ (by omega) (by omega) (by omega)) (h4 q hq)⟩
  · rw [f _ _ (by omega) (by omega) (by omega)]; exact h1
  · rw [f _ _ (by omega) (by omega) (by omega)]; exact h2
  · rw [f _ _ (by omega) (by omega) (by omega)]; exact h3
theorem cr_bn {M : Nat → Nat → Int32} {b B : Nat} {g : gr} (h : cr M b g) (hg : gok g B) (hB : B < 2 ^ 22) : wd_bn M b B := fun q hq => by
  obtain ⟨-, -, ⟨x, hx, e1⟩, ⟨y, hy, e2⟩, -⟩ := h.2.2.2 q hq
  have := hg.2.2.1
  rw [e1, e2, nI_toInt (by omega), nI_toInt (by omega)]
  omega
def g0 : gr := fun _ => 0
def IP (M : Nat → Nat → Int32) (un : List gr) (kp : Nat → Option gr) : Prop := (∃ o, o < 12 ∧ un.length ≤ 12 ∧ M 34 1 = nI o ∧ M 34 2 = nI un.length ∧ ∀ k, k < un.length → cr M (65 + 11 * ((o + k) % 12)) (un.getD k g0)) ∧ ∀ i, i < 2 → (kp i = none → M 37 i = 0) ∧ ∀ u, kp i = some u → M 37 i = 1 ∧ cr M (65 + 11 * (12 + i)) u
def IX (M : Nat → Nat → Int32) (tx : List Nat) : Prop := tx.length ≤ 80 ∧ (∀ c ∈ tx, c < 256) ∧ M 38 1 = nI tx.length ∧ ∀ k, k < tx.length → M 39 k = nI (tx.getD k 0)
def IW (M : Nat → Nat → Int32) (ML : Nat → Nat → Int64) (rw : List Int64) : Prop := rw.length ≤ 8 ∧ M 44 1 = nI rw.length ∧ ∀ k, k < rw.length → ML 45 k = rw.getD k 0
def IH (M : Nat → Nat → Int32) (he : List (Nat × Nat)) : Prop := he.length ≤ 12 ∧ (∀ p ∈ he, p.1 < 5 ∧ p.2 ≤ 20) ∧ M 46 2 = nI he.length ∧ ∀ k, k < he.length → M 47 k = nI (he.getD k (0, 0)).1 ∧ M 48 k = nI (he.getD k (0, 0)).2
def IS (M : Nat → Nat → Int32) (sa : List (Nat × Nat)) : Prop := sa.length ≤ 10 ∧ (∀ p ∈ sa, 1 ≤ p.1 ∧ p.1 ≤ 12 ∧ p.2 ≤ 150) ∧ M 49 3 = nI sa.length ∧ ∀ k, k < sa.length → M 50 k = nI (sa.getD k (0, 0)).1 ∧ M 51 k = nI (sa.getD k (0, 0)).2
def IZ (M : Nat → Nat → Int32) : Prop := ∀ k, k < 5 → M 247 k = nI (if k < 2 then 1 else 0) ∧ M 248 k = nI (if k < 2 then 12 else if k < 4 then 1 else 20)
/-- the class's object tells all this -/
def IC (g : gr) (un : List gr) (kp : Nat → Option gr) (tx ts : List Nat) (rw : List Int64) (he sa : List (Nat × Nat)) (M : Nat → Nat → Int32) (ML : Nat → Nat → Int64) (R : Nat → Nat → Option Nat) : Prop := pa_R R ∧ cr M 1 g ∧ IP M un kp ∧ IX M tx ∧ tr M 40 ts ∧ IW M ML rw ∧ IH M he ∧ IS M sa ∧ IZ M
def by8 (c : Nat) : Int32 := vp_nar .byte (nI c)
def JP (M : Nat → Nat → Int32) (un : List gr) (kp : Nat → Option gr) : Prop := (M 219 19 = nI un.length ∧ ∀ k, k < un.length → ∀ j, j < 43 → M 225 (43 * k + j) = nI (un.getD k g0 j)) ∧ ∀ i, i < 2 → (kp i = none → M 243 i = 0) ∧ ∀ u, kp i = some u → M 243 i = 1 ∧ ∀ j, j < 43 → M 242 (43 * i + j) = nI (u j)
def JX (M : Nat → Nat → Int32) (tx : List Nat) : Prop := M 219 2 = nI tx.length ∧ ∀ k, k < tx.length → M 221 k = by8 (tx.getD k 0)
def JT (M : Nat → Nat → Int32) (R : Nat → Nat → Option Nat) (ts : List Nat) : Prop := R 219 6 = some 244 ∧ R 219 7 = some 245 ∧ M 219 8 = nI ts.length ∧ ∀ k, k < ts.length → M 244 k = nI (ts.getD k 0)
def JW (M : Nat → Nat → Int32) (ML : Nat → Nat → Int64) (rw : List Int64) : Prop := M 219 4 = nI rw.length ∧ ∀ k, k < rw.length → ML 222 k = rw.getD k 0
def JH (M : Nat → Nat → Int32) (he : List (Nat × Nat)) : Prop := M 219 36 = nI he.length ∧ ∀ k, k < he.length → M 236 k = nI (he.getD k (0, 0)).1 ∧ M 237 k = nI (he.getD k (0, 0)).2
def JS (M : Nat → Nat → Int32) (sa : List (Nat × Nat)) : Prop := M 219 39 = nI sa.length ∧ ∀ k, k < sa.length → M 238 k = nI (sa.getD k (0, 0)).1 ∧ M 239 k = nI (sa.getD k (0, 0)).2
/-- the reference tells all this -/
def IR (g : gr) (un : List gr) (kp : Nat → Option gr) (tx ts : List Nat) (rw : List Int64) (he sa : List (Nat × Nat)) (M : Nat → Nat → Int32) (ML : Nat → Nat → Int64) (R : Nat → Nat → Option Nat) : Prop := rr (M 220) g ∧ JP M un kp ∧ JX M tx ∧ JT M R ts ∧ JW M ML rw ∧ JH M he ∧ JS M sa
/-- it can be so -/
def SO (g : gr) (un : List gr) (kp : Nat → Option gr) (ts : List Nat) (B : Nat) : Prop := gok g B ∧ (∀ u ∈ un, gok u B) ∧ (∀ i u, kp i = some u → gok u B) ∧ tsok ts
section inv
variable {g : gr} {un : List gr} {kp : Nat → Option gr} {tx ts : List Nat} {rw rw' : List Int64} {he sa : List (Nat × Nat)} {M M1 : Nat → Nat → Int32} {ML L1 : Nat → Nat → Int64} {R R1 : Nat → Nat → Option Nat}
theorem IP_fr (h : IP M un kp) (f : ∀ a i, (34 ≤ a ∧ a ≤ 37) ∨ (65 ≤ a ∧ a ≤ 218) → M1 a i = M a i) : IP M1 un kp := by
  obtain ⟨⟨o, h1, h2, h3, h4, h5⟩, h6⟩ := h
  refine ⟨⟨o, h1, h2, by rw [f _ _ (by omega)]; exact h3, by rw [f _ _ (by omega)]; exact h4, fun k hk => cr_fr (h5 k hk) (fun a i y1 y2 _ => f _ _ (by have := Nat.mod_lt (o + k) (show 0 < 12 by decide); omega))⟩, fun i hi => ⟨fun z => by rw [f _ _ (by omega)]; exact (h6 i hi).1 z, fun u z => ⟨by rw [f _ _ (by omega)]; exact ((h6 i hi).2 u z).1, cr_fr ((h6 i hi).2 u z).2 (fun a i y1 y2 _ => f _ _ (by omega))⟩⟩⟩
theorem IX_fr (h : IX M tx) (f : ∀ a i, (a = 38 ∧ i = 1) ∨ a = 39 → M1 a i = M a i) : IX M1 tx := by
  obtain ⟨h1, h2, h3, h4⟩ := h
  exact ⟨h1, h2, by rw [f _ _ (by omega)]; exact h3, fun k hk => by rw [f _ _ (by omega)]; exact h4 k hk⟩
theorem tr_fr {t : Nat} (h : tr M t ts) (f : ∀ a i, a = t ∨ a = t + 1 → M1 a i = M a i) : tr M1 t ts := by
  obtain ⟨h1, h2⟩ := h
  exact ⟨by rw [f _ _ (by omega)]; exact h1, fun k hk => by rw [f _ _ (by omega)]; exact h2 k hk⟩
theorem IW_fr (h : IW M ML rw) (f : ∀ i, M1 44 i = M 44 i) (f2 : ∀ i, L1 45 i = ML 45 i) : IW M1 L1 rw := by
  obtain ⟨h1, h2, h3⟩ := h
  exact ⟨h1, by rw [f]; exact h2, fun k hk => by rw [f2]; exact h3 k hk⟩
theorem IH_fr (h : IH M he) (f : ∀ a i, a = 46 ∨ a = 47 ∨ a = 48 → M1 a i = M a i) : IH M1 he := by
  obtain ⟨h1, h2, h3, h4⟩ := h
  exact ⟨h1, h2, by rw [f _ _ (by omega)]; exact h3, fun k hk => by rw [f _ _ (by omega), f _ _ (by omega)]; exact h4 k hk⟩
theorem IS_fr (h : IS M sa) (f : ∀ a i, a = 49 ∨ a = 50 ∨ a = 51 → M1 a i = M a i) : IS M1 sa := by
  obtain ⟨h1, h2, h3, h4⟩ := h
  exact ⟨h1, h2, by rw [f _ _ (by omega)]; exact h3, fun k hk => by rw [f _ _ (by omega), f _ _ (by omega)]; exact h4 k hk⟩
theorem IZ_fr (h : IZ M) (f : ∀ a i, a = 247 ∨ a = 248 → M1 a i = M a i) : IZ M1 := fun k hk => by rw [f _ _ (by omega), f _ _ (by omega)]; exact h k hk
theorem JP_fr (h : JP M un kp) (f : ∀ a i, (a = 219 ∧ i = 19) ∨ a = 225 ∨ a = 242 ∨ a = 243 → M1 a i = M a i) : JP M1 un kp := by
  obtain ⟨⟨h1, h2⟩, h3⟩ := h
  exact ⟨⟨by rw [f _ _ (by omega)]; exact h1, fun k hk j hj => by rw [f _ _ (by omega)]; exact h2 k hk j hj⟩, fun i hi => ⟨fun z => by rw [f _ _ (by omega)]; exact (h3 i hi).1 z, fun u z => ⟨by rw [f _ _ (by omega)]; exact ((h3 i hi).2 u z).1, fun j hj => by rw [f _ _ (by omega)]; exact ((h3 i hi).2 u z).2 j hj⟩⟩⟩
theorem JX_fr (h : JX M tx) (f : ∀ a i, (a = 219 ∧ i = 2) ∨ a = 221 → M1 a i = M a i) : JX M1 tx := ⟨by rw [f _ _ (by omega)]; exact h.1, fun k hk => by rw [f _ _ (by omega)]; exact h.2 k hk⟩
theorem JT_fr (h : JT M R ts) (f : ∀ a i, (a = 219 ∧ i = 8) ∨ a = 244 → M1 a i = M a i) (f2 : R1 219 6 = R 219 6) (f3 : R1 219 7 = R 219 7) : JT M1 R1 ts := ⟨by rw [f2]; exact h.1, by rw [f3]; exact h.2.1, by rw [f _ _ (by omega)]; exact h.2.2.1, fun k hk => by rw [f _ _ (by omega)]; exact h.2.2.2 k hk⟩
theorem JW_fr (h : JW M ML rw) (f : M1 219 4 = M 219 4) (f2 : ∀ i, L1 222 i = ML 222 i) : JW M1 L1 rw := ⟨by rw [f]; exact h.1, fun k hk => by rw [f2]; exact h.2 k hk⟩
theorem JH_fr (h : JH M he) (f : ∀ a i, (a = 219 ∧ i = 36) ∨ a = 236 ∨ a = 237 → M1 a i = M a i) : JH M1 he := ⟨by rw [f _ _ (by omega)]; exact h.1, fun k hk => by rw [f _ _ (by omega), f _ _ (by omega)]; exact h.2 k hk⟩
theorem JS_fr (h : JS M sa) (f : ∀ a i, (a = 219 ∧ i = 39) ∨ a = 238 ∨ a = 239 → M1 a i = M a i) : JS M1 sa := ⟨by rw [f _ _ (by omega)]; exact h.1, fun k hk => by rw [f _ _ (by omega), f _ _ (by omega)]; exact h.2 k hk⟩
theorem rr_fr (h : rr (M 220) g) (f : ∀ i, M1 220 i = M 220 i) : rr (M1 220) g := fun k hk => by rw [f]; exact h k hk
/-- the ROW alone is told anew -/
theorem IC.q (h : IC g un kp tx ts rw he sa M ML R) (f : fr CS M M1) (w : IW M1 L1 rw') : IC g un kp tx ts rw' he sa M1 L1 R := by
  obtain ⟨h1, h2, h3, h4, h5, h6, h7, h8, h9⟩ := h
  exact ⟨h1, cr_fr h2 (fun a i y1 y2 y3 => f a i (by omega)), IP_fr h3 (fun a i y => f a i (by omega)), IX_fr h4 (fun a i y => f a i (by omega)), tr_fr h5 (fun a i y => f a i (by omega)), w, IH_fr h7 (fun a i y => f a i (by omega)), IS_fr h8 (fun a i y => f a i (by omega)), IZ_fr h9 (fun a i y => f a i (by omega))⟩
theorem IR.q (h : IR g un kp tx ts rw he sa M ML R) (f : fr RS M M1) (w : JW M1 L1 rw') (f2 : fr RR R R1) : IR g un kp tx ts rw' he sa M1 L1 R1 := by
  obtain ⟨h1, h2, h3, h4, h5, h6, h7⟩ := h
  exact ⟨rr_fr h1 (fun i => f _ i (by omega)), JP_fr h2 (fun a i y => f a i (by omega)), JX_fr h3 (fun a i y => f a i (by omega)), JT_fr h4 (fun a i y => f a i (by omega)) (f2 _ _ (by omega)) (f2 _ _ (by omega)), w, JH_fr h6 (fun a i y => f a i (by omega)), JS_fr h7 (fun a i y => f a i (by omega))⟩
end inv
/-- a question to the class, to the reference: what they answer, what the ROW is then -/
def CQ (A : Int32) (W : List Int64) (M : Nat → Nat → Int32) (ML : Nat → Nat → Int64) (R : Nat → Nat → Option Nat) : wK := fun v M1 L1 R1 => v = A ∧ IW M1 L1 W ∧ fr CS M M1 ∧ fr CL ML L1 ∧ R1 = R
def RQ (A : Int32) (W : List Int64) (M : Nat → Nat → Int32) (ML : Nat → Nat → Int64) (R : Nat → Nat → Option Nat) : wK := fun v M1 L1 R1 => v = A ∧ JW M1 L1 W ∧ fr RS M M1 ∧ fr RLg ML L1 ∧ fr RR R R1
