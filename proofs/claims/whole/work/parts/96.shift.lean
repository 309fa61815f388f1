/-! shift: ACTS -/
def alen (c : Nat) : Nat := if c = 42 then 1 else if c = 110 then 3 else if c = 112 ∨ c = 108 ∨ c = 104 then 2 else 0
def isd (c : Nat) : Bool := decide (48 ≤ c) && decide (c ≤ 57)
def cp (tx : List Nat) (p : Nat) : Nat := tx.getD p 0
/-- none, or where the sign is that can't stand there -/
def fbs (tx : List Nat) (m : Nat) : Nat → Nat → Nat → Option Nat
  | 0, _, mi => if 0 < mi ∨ m < tx.length then some m else none
  | n + 1, p, mi => if mi = 0 then (if alen (cp tx p) = 0 then some p else fbs tx m n (p + 1) (alen (cp tx p) - 1)) else if isd (cp tx p) = true then fbs tx m n (p + 1) (mi - 1) else some p
def fbA (tx : List Nat) : Option Nat := fbs tx (min tx.length 60) (min tx.length 60) 0 0
/-- the ACT at p -/
def dec (tx : List Nat) (p : Nat) : Nat × Nat := (cp tx p, if cp tx p = 42 then 0 else if cp tx p = 110 then 10 * (cp tx (p + 1) - 48) + (cp tx (p + 2) - 48) else cp tx (p + 1) - 48)
def act (g : gr) (ts : List Nat) (a : Nat × Nat) : Option gr := if a.1 = 42 then some (g_it g ts 1) else if a.1 = 110 then (if a.2 ≤ 60 then some (g_it g ts a.2) else none) else if a.1 = 112 then (if 1 ≤ a.2 ∧ a.2 ≤ 4 ∧ ¬ a.2 = g 40 ∧ g_ws g 8 ≤ 27720 * a.2 then some (g_pr g a.2) else none) else if a.1 = 108 then (if a.2 < 8 ∧ 0 < g a.2 ∧ g_mf g a.2 ≤ g 41 then some (g_lv g a.2) else none) else (if a.2 < 8 ∧ 0 < g a.2 then some (g_hu g a.2) else none)
def rns (tx ts : List Nat) : Nat → Nat → gr → Nat → Nat × gr × Nat
  | 0, _, gk, k => (k, gk, 0)
  | f + 1, p, gk, k => if tx.length ≤ p then (k, gk, 0) else (match act gk ts (dec tx p) with
    | none => (k, gk, 1)
    | some g2 => rns tx ts f (p + alen (cp tx p)) g2 (k + 1))
theorem alen_c {c : Nat} (h : ¬ alen c = 0) : (c = 42 ∧ alen c = 1) ∨ (c = 110 ∧ alen c = 3) ∨ ((c = 112 ∨ c = 108 ∨ c = 104) ∧ alen c = 2) := by
  unfold alen at h ⊢
  by_cases h1 : c = 42
  · subst h1; simp
  · rw [if_neg h1] at h ⊢
    by_cases h2 : c = 110
    · subst h2; simp
    · rw [if_neg h2] at h ⊢
      by_cases h3 : c = 112 ∨ c = 108 ∨ c = 104
      · rw [if_pos h3]; exact Or.inr (Or.inr ⟨h3, rfl⟩)
      · rw [if_neg h3] at h; exact absurd rfl h
/-- an ACT that can stand: its digits -/
theorem fbs_ok {tx : List Nat} {m n p : Nat} (hm : m ≤ tx.length) (hp : p + (n + 1) = m) (h : fbs tx m (n + 1) p 0 = none) : ¬ alen (cp tx p) = 0 ∧ p + alen (cp tx p) ≤ m ∧ (∀ i, 1 ≤ i → i < alen (cp tx p) → isd (cp tx (p + i)) = true) ∧ fbs tx m (m - (p + alen (cp tx p))) (p + alen (cp tx p)) 0 = none := by
  rw [fbs, if_pos rfl] at h
  by_cases z : alen (cp tx p) = 0
  · rw [if_pos z] at h; cases h
  · rw [if_neg z] at h
    refine ⟨z, ?_⟩
    rcases alen_c z with ⟨_, e⟩ | ⟨_, e⟩ | ⟨_, e⟩
    · rw [e] at h ⊢
      refine ⟨by omega, fun i h1 h2 => by omega, ?_⟩
      rw [show m - (p + 1) = n by omega]
      exact h
    · rw [e] at h ⊢
      cases n with
      | zero => rw [fbs, if_pos (by omega)] at h; cases h
      | succ n =>
        rw [fbs, if_neg (by omega)] at h
        by_cases d1 : isd (cp tx (p + 1)) = true
        · rw [if_pos d1] at h
          cases n with
          | zero => rw [fbs, if_pos (by omega)] at h; cases h
          | succ n =>
            rw [fbs, if_neg (by omega)] at h
            by_cases d2 : isd (cp tx (p + 1 + 1)) = true
            · rw [if_pos d2] at h
              refine ⟨by omega, fun i h1 h2 => ?_, ?_⟩
              · have : i = 1 ∨ i = 2 := by omega
                rcases this with rfl | rfl
                · exact d1
                · exact d2
              · rw [show m - (p + 3) = n by omega]
                exact h
            · rw [if_neg d2] at h; cases h
        · rw [if_neg d1] at h; cases h
    · rw [e] at h ⊢
      cases n with
      | zero => rw [fbs, if_pos (by omega)] at h; cases h
      | succ n =>
        rw [fbs, if_neg (by omega)] at h
        by_cases d1 : isd (cp tx (p + 1)) = true
        · rw [if_pos d1] at h
          refine ⟨by omega, fun i h1 h2 => ?_, ?_⟩
          · have : i = 1 := by omega
            subst this; exact d1
          · rw [show m - (p + 2) = n by omega]
            exact h
        · rw [if_neg d1] at h; cases h
theorem gok_up {g : gr} {B C : Nat} (h : gok g B) (hC : B ≤ C) : gok g C := ⟨h.1, h.2.1, by have := h.2.2.1; omega, h.2.2.2⟩
theorem act_ok {g g2 : gr} {ts : List Nat} {a : Nat × Nat} {B : Nat} (hg : gok g B) (h : act g ts a = some g2) : gok g2 (B + (if a.1 = 110 then 60 else 1)) := by
  unfold act at h
  split at h
  next z => cases h; rw [if_neg (by omega)]; exact g_it_ok hg ts 1
  next =>
    split at h
    next z =>
      split at h
      next y => cases h; rw [if_pos z]; exact gok_up (g_it_ok hg ts a.2) (by omega)
      next => cases h
    next z =>
      rw [if_neg z]
      split at h
      · split at h
        next y => cases h; exact gok_up (gok_pr hg y.1 y.2.1 y.2.2.2) (by omega)
        next => cases h
      · split at h
        · split at h
          next y => cases h; exact gok_up (gok_lv hg y.1) (by omega)
          next => cases h
        · split at h
          next y => cases h; exact gok_up (gok_hu hg y.1 y.2) (by omega)
          next => cases h
section shift
variable {d B b r : Nat} {g gk g' u : gr} {ts tx tx' t' : List Nat} {rw rw' : List Int64} {un un' : List gr} {kp kp' : Nat → Option gr} {he sa : List (Nat × Nat)} {M0 M M1 : Nat → Nat → Int32} {L0 ML L1 : Nat → Nat → Int64} {R0 R R1 : Nat → Nat → Option Nat}
theorem cp_lt {p : Nat} (hx : ∀ c ∈ tx, c < 256) (hp : p < tx.length) : cp tx p < 256 := by
  rw [cp, getD_lt tx p hp]
  exact hx _ (List.getElem_mem hp)
theorem c_sgn (hx : IX M tx) (p : Nat) (hp : p < 2 ^ 20) : sc_sign M (nI p) = if p < tx.length then nI (cp tx p) else -1 := by
  obtain ⟨x1, x2, x3, x4⟩ := hx
  rw [sc_sign, if_neg (nI_nneg (by omega)), x3, nI_clamp (by omega)]
  by_cases z : p < tx.length
  · rw [if_pos z, if_neg (fun y => absurd ((nI_leI (by omega) (by omega)).mp y) (by omega)), x4 p z]
    rfl
  · rw [if_neg z, if_pos ((nI_leI (by omega) (by omega)).mpr (by omega))]
theorem dig_c : ∀ c, c < 256 → (if nI c < 48 then (-1 : Int32) else if 57 < nI c then -1 else nI c - 48) = if isd c = true then nI (c - 48) else -1 := by decide +kernel
theorem c_dig (hx : IX M tx) (p : Nat) (hp : p < 2 ^ 20) : sc_dig M (nI p) = if p < tx.length ∧ isd (cp tx p) = true then nI (cp tx p - 48) else -1 := by
  rw [sc_dig, c_sgn hx p hp]
  by_cases z : p < tx.length
  · rw [if_pos z, dig_c _ (cp_lt hx.2.1 z)]
    by_cases y : isd (cp tx p) = true
    · rw [if_pos y, if_pos ⟨z, y⟩]
    · rw [if_neg y, if_neg (fun w => y w.2)]
  · rw [if_neg z, if_neg (show ¬ (p < tx.length ∧ isd (cp tx p) = true) from fun w => z w.1)]
    rfl
theorem act_c : ∀ c, c < 256 → (if nI c = 42 then (1 : Int32) else if nI c = 104 then 2 else if nI c = 108 then 2 else if nI c = 110 then 3 else if nI c = 112 then 2 else 0) = nI (alen c) := by decide +kernel
theorem c_alen (hx : IX M tx) {p : Nat} (hp : p < tx.length) : sc_act M (nI p) = nI (alen (cp tx p)) := by
  have := hx.1
  rw [sc_act, c_sgn hx p (by omega), if_pos hp]
  exact act_c _ (cp_lt hx.2.1 hp)
theorem alen_3 (c : Nat) : alen c ≤ 3 := by
  unfold alen
  split
  · omega
  · split
    · omega
    · split <;> omega
theorem c_fb (hx : IX M tx) {m : Nat} (hm : m = min tx.length 60) : ∀ n p mi, p + n = m → mi ≤ 3 → sc_fb M m n p (nI mi) = match fbs tx m n p mi with | none => -1 | some f => nI f := by
  have hxl := hx.1
  intro n
  induction n with
  | zero =>
    intro p mi hp hmi
    rw [sc_fb, fbs, hx.2.2.1]
    by_cases z : 0 < mi
    · rw [if_pos (nI_pos1 z (by omega)), if_pos (Or.inl z)]
    · rw [if_neg (show ¬ (0 : Int32) < nI mi from fun y => z ((nI_ltI (a := 0) (by decide) (by omega)).mp y))]
      by_cases y : m < tx.length
      · rw [if_pos (Or.inr y), if_neg (fun w => absurd ((nI_leI (by omega) (by omega)).mp w) (by omega))]
      · rw [if_neg (show ¬ (0 < mi ∨ m < tx.length) by omega), if_pos (show nI tx.length ≤ nI m from (nI_leI (by omega) (by omega)).mpr (by omega))]
  | succ n ih =>
    intro p mi hp hmi
    have hpl : p < tx.length := by omega
    have h3 := alen_3 (cp tx p)
    rw [sc_fb, fbs, c_alen hx hpl, c_dig hx p (by omega)]
    by_cases z : mi = 0
    · subst z
      rw [if_pos (by decide), if_pos rfl]
      by_cases y : alen (cp tx p) = 0
      · rw [if_pos y, y, if_neg (by decide)]
      · rw [if_neg y, show nI (alen (cp tx p)) - 1 = nI (alen (cp tx p) - 1) from nI_sub (b := 1) (by omega), if_pos (show (0 : Int32) ≤ nI (alen (cp tx p) - 1) from (nI_leI (a := 0) (by decide) (by omega)).mpr (by omega)), ih (p + 1) _ (by omega) (by omega)]
    · rw [if_neg (show ¬ nI mi ≤ 0 from fun y => absurd ((nI_leI (b := 0) (by omega) (by decide)).mp y) (by omega)), if_neg z]
      by_cases y : isd (cp tx p) = true
      · have hc := cp_lt hx.2.1 hpl
        rw [show (if p < tx.length ∧ isd (cp tx p) = true then nI (cp tx p - 48) else -1) = nI (cp tx p - 48) from if_pos ⟨hpl, y⟩, if_pos (show ¬ nI (cp tx p - 48) = -1 from nI_nm1 (by omega)), if_pos y, show nI mi + -1 = nI (mi - 1) from (by rw [← Int32.sub_eq_add_neg]; exact nI_sub (b := 1) (by omega)), ih (p + 1) _ (by omega) (by omega)]
      · rw [show (if p < tx.length ∧ isd (cp tx p) = true then nI (cp tx p - 48) else (-1 : Int32)) = -1 from if_neg (fun w => y w.2), if_neg (show ¬ ¬ (-1 : Int32) = -1 from fun w => w rfl), if_neg y]
/-- now alone has changed -/
theorem IC.n (h : IC gk un kp tx ts rw he sa M ML R) (f : fr (fun a _ => 1 ≤ a ∧ a ≤ 11) M M1) (c : cr M1 1 g') : IC g' un kp tx ts rw he sa M1 ML R := h.w0 (f.mono (fun a i z => by omega)) (fun i => f _ i (by omega)) c (IP_fr h.p (fun a i y => f a i (by omega)))
theorem C_act {K : wK} {p : Nat} (hd : 6 ≤ d) (h : IC gk un kp tx ts rw he sa M ML R) (hg : gok gk B) (hB : B < 2 ^ 20) (hts : tsok ts) (hp : p < tx.length) (ha : ¬ alen (cp tx p) = 0) (hl : p + alen (cp tx p) ≤ tx.length) (hdg : ∀ i, 1 ≤ i → i < alen (cp tx p) → isd (cp tx (p + i)) = true) (h1 : ∀ g2, act gk ts (dec tx p) = some g2 → ∀ v M1, 0 ≤ v → IC g2 un kp tx ts rw he sa M1 ML R → fr (fun a _ => 1 ≤ a ∧ a ≤ 11) M M1 → K v M1 ML R) (h0 : act gk ts (dec tx p) = none → ∀ v, ¬ 0 ≤ v → K v M ML R) : wI (d + 1) 89 [.ref 0, .int (nI p)] M ML R K := by
  have hxl := h.xl
  have hX := h.2.2.2.1
  have hP := hg.2.1
  have e1 : ∀ i, nI p + nI i = nI (p + i) := fun i => nI_add p i
  have hsc : sc_ok M := ⟨tx.length, hxl.1, hX.2.2.1⟩
  have dv : ∀ i, 1 ≤ i → i < alen (cp tx p) → sc_dig M (nI (p + i)) = nI (cp tx (p + i) - 48) ∧ cp tx (p + i) - 48 ≤ 9 := fun i y1 y2 => by
    have hd := hdg i y1 y2
    rw [c_dig hX _ (by omega), if_pos ⟨by omega, hd⟩]
    simp only [isd, Bool.and_eq_true, decide_eq_true_eq] at hd
    exact ⟨rfl, by omega⟩
  have hcl := cp_lt hxl.2 hp
  have cn : ∀ j, j < 256 → (nI (cp tx p) = nI j ↔ cp tx p = j) := fun j hj => nI_eq (by omega) (by omega)
  refine w89 (wI_of (t_digitAt (M, ML, R) hsc _) (by omega) (wI_of (t_signAt (M, ML, R) hsc _) (by omega) ?_))
  dsimp only
  rw [c_sgn hX p (by omega), if_pos hp, show nI p + 1 = nI (p + 1) from nI_1 p]
  have two : alen (cp tx p) = 2 → sc_dig M (nI (p + 1)) = nI (cp tx (p + 1) - 48) ∧ cp tx (p + 1) - 48 ≤ 9 := fun y => dv 1 (by omega) (by omega)
  have hw : ∀ M1, (∀ a, ¬ (1 ≤ a ∧ a ≤ 1 + 10) → M1 a = M a) → fr (fun a _ => 1 ≤ a ∧ a ≤ 11) M M1 := fun M1 y a i z => by rw [y a (by omega)]
  refine ⟨fun z => ?_, fun z => ?_, fun z => ?_, fun z => ?_, fun z => ?_, fun z1 z2 z3 z4 z5 => ?_⟩
  · have e := (cn 42 (by decide)).mp z
    have hd0 : act gk ts (dec tx p) = some (g_it gk ts 1) := by unfold act dec; rw [e]; rfl
    refine C_gbm (n := 1) fm_W1 fm_T40 (by omega) hd h.2.1 hg hB h.2.2.2.2.1 hts (by omega) (fun M1 c1 _ g1 => ?_)
    exact h1 _ hd0 _ M1 ((nI_leI (a := 0) (by decide) (by have := q_rn_le (g := gk) (ts := ts) 1; omega)).mpr (by omega)) (h.n (hw M1 g1) c1) (hw M1 g1)
  · have e := (cn 104 (by decide)).mp z
    obtain ⟨k1, k2⟩ := two (by rw [e]; rfl)
    have hde : dec tx p = (104, cp tx (p + 1) - 48) := by unfold dec; rw [e]; rfl
    rw [k1]
    refine C_turn fm_W1 (by omega) h.2.1 hg _ (fun q hq eq hq0 M1 c1 f1 => ?_) (fun y => ?_)
    · have := (nI_eq (by omega) (by omega)).mp eq
      refine h1 (g_hu gk q) ?_ _ M1 ((nI_leI (a := 0) (by decide) (by omega)).mpr (by omega)) (h.n (f1.mono (fun a i z => by omega)) c1) (f1.mono (fun a i z => by omega))
      rw [hde, this]
      unfold act
      dsimp only
      rw [if_neg (by decide), if_neg (by decide), if_neg (by decide), if_neg (by decide), if_pos ⟨hq, hq0⟩]
    · refine h0 ?_ _ (by decide)
      rw [hde]
      unfold act
      dsimp only
      rw [if_neg (by decide), if_neg (by decide), if_neg (by decide), if_neg (by decide), if_neg (fun w => y ((th_nI w.1).mpr w.2))]
  · have e := (cn 108 (by decide)).mp z
    obtain ⟨k1, k2⟩ := two (by rw [e]; rfl)
    have hde : dec tx p = (108, cp tx (p + 1) - 48) := by unfold dec; rw [e]; rfl
    rw [k1]
    have acte : act gk ts (dec tx p) = if cp tx (p + 1) - 48 < 8 ∧ 0 < gk (cp tx (p + 1) - 48) ∧ g_mf gk (cp tx (p + 1) - 48) ≤ gk 41 then some (g_lv gk (cp tx (p + 1) - 48)) else none := by
      rw [hde]
      unfold act
      dsimp only
      rw [if_neg (by decide), if_neg (by decide), if_neg (by decide), if_pos rfl]
    rw [acte] at h1 h0
    refine C_letGo fm_W1 (by omega) h.2.1 hg hB _ (fun q hq eq hq0 hm M1 c1 f1 => ?_) (fun q hq eq hq0 hm => ?_) (fun y => ?_)
    · have := (nI_eq (by omega) (by omega)).mp eq
      rw [this, if_pos ⟨hq, hq0, hm⟩] at h1
      exact h1 _ rfl _ M1 ((nI_leI (a := 0) (by decide) (by have := bc_le (g_ts (g_lv gk q)); omega)).mpr (by omega)) (h.n (f1.mono (fun a i z => by omega)) c1) (f1.mono (fun a i z => by omega))
    · have := (nI_eq (by omega) (by omega)).mp eq
      rw [this, if_neg (fun w => hm w.2.2)] at h0
      exact h0 rfl _ (by decide)
    · rw [if_neg (fun w => y ((th_nI w.1).mpr w.2.1))] at h0
      exact h0 rfl _ (by decide)
  · have e := (cn 110 (by decide)).mp z
    have l3 : alen (cp tx p) = 3 := by rw [e]; rfl
    obtain ⟨k1, k2⟩ := dv 1 (by omega) (by omega)
    obtain ⟨k3, k4⟩ := dv 2 (by omega) (by omega)
    have hde : dec tx p = (110, 10 * (cp tx (p + 1) - 48) + (cp tx (p + 2) - 48)) := by unfold dec; rw [e]; rfl
    rw [k1]
    refine wI_of (t_digitAt (M, ML, R) hsc _) (by omega) ?_
    dsimp only
    rw [show nI p + 2 = nI (p + 2) from nI_add p 2, k3, show (10 : Int32) * nI (cp tx (p + 1) - 48) = nI (10 * (cp tx (p + 1) - 48)) from nI_mul 10 _, nI_add]
    have acte : act gk ts (dec tx p) = if 10 * (cp tx (p + 1) - 48) + (cp tx (p + 2) - 48) ≤ 60 then some (g_it gk ts (10 * (cp tx (p + 1) - 48) + (cp tx (p + 2) - 48))) else none := by
      rw [hde]
      unfold act
      dsimp only
      rw [if_neg (by decide), if_pos rfl]
    rw [acte] at h1 h0
    by_cases y : 10 * (cp tx (p + 1) - 48) + (cp tx (p + 2) - 48) ≤ 60
    · rw [if_pos y] at h1
      refine C_gbm fm_W1 fm_T40 (by omega) hd h.2.1 hg hB h.2.2.2.2.1 hts y (fun M1 c1 _ g1 => ?_)
      exact h1 _ rfl _ M1 ((nI_leI (a := 0) (by decide) (by have := q_rn_le (g := gk) (ts := ts) (10 * (cp tx (p + 1) - 48) + (cp tx (p + 2) - 48)); omega)).mpr (by omega)) (h.n (hw M1 g1) c1) (hw M1 g1)
    · rw [if_neg y] at h0
      exact C_gbmN fm_W1 fm_T40 (by omega) hd h.2.1 hg hB h.2.2.2.2.1 hts (Or.inr ((nI_ltI (a := 60) (by decide) (by omega)).mpr (by omega))) (h0 rfl _ (by decide))
  · have e := (cn 112 (by decide)).mp z
    obtain ⟨k1, k2⟩ := two (by rw [e]; rfl)
    have hde : dec tx p = (112, cp tx (p + 1) - 48) := by unfold dec; rw [e]; rfl
    rw [k1]
    have acte : act gk ts (dec tx p) = if 1 ≤ cp tx (p + 1) - 48 ∧ cp tx (p + 1) - 48 ≤ 4 ∧ ¬ cp tx (p + 1) - 48 = gk 40 ∧ g_ws gk 8 ≤ 27720 * (cp tx (p + 1) - 48) then some (g_pr gk (cp tx (p + 1) - 48)) else none := by
      rw [hde]
      unfold act
      dsimp only
      rw [if_neg (by decide), if_neg (by decide), if_pos rfl]
    rw [acte] at h1 h0
    generalize cp tx (p + 1) - 48 = v at *
    refine C_takeP fm_W1 (by omega) h.2.1 hg _ (fun w w1 w2 eq y x => ?_) (fun w w1 w2 eq y => ?_) (fun w w1 w2 eq y x => ?_) (fun y => ?_)
    · have := (nI_eq (by omega) (by omega)).mp eq
      subst this
      rw [if_pos ⟨w1, w2, y, x⟩] at h1
      have f1 : fr (fun a _ => 1 ≤ a ∧ a ≤ 11) M (fm_u M 1 10 (nI v)) := fr_u (by omega)
      exact h1 _ rfl _ _ ((nI_leI (a := 0) (by decide) (by omega)).mpr (by omega)) (h.n f1 (cr_pr h.2.1)) f1
    · have := (nI_eq (by omega) (by omega)).mp eq
      subst this
      rw [if_neg (fun w => w.2.2.1 y)] at h0
      exact h0 rfl _ (by decide)
    · have := (nI_eq (by omega) (by omega)).mp eq
      subst this
      rw [if_neg (fun w => x w.2.2.2)] at h0
      exact h0 rfl _ (by decide)
    · have n14 : ¬ (1 ≤ v ∧ v ≤ 4) := fun w => by
        rcases y with y | y
        · exact absurd ((nI_ltI (b := 1) (by omega) (by decide)).mp y) (by omega)
        · exact absurd ((nI_ltI (a := 4) (by decide) (by omega)).mp y) (by omega)
      rw [if_neg (fun w => n14 ⟨w.1, w.2.1⟩)] at h0
      exact h0 rfl _ (by decide)
  · exfalso
    rcases alen_c ha with ⟨e, _⟩ | ⟨e, _⟩ | ⟨e, _⟩
    · exact z1 ((cn 42 (by decide)).mpr e)
    · exact z4 ((cn 110 (by decide)).mpr e)
    · rcases e with e | e | e
      · exact z5 ((cn 112 (by decide)).mpr e)
      · exact z3 ((cn 108 (by decide)).mpr e)
      · exact z2 ((cn 104 (by decide)).mpr e)
end shift
