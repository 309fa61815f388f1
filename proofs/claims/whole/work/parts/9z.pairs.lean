section pairs
variable {B : Nat} {M M1 : Nat → Nat → Int32} {ML L1 : Nat → Nat → Int64} {R R1 : Nat → Nat → Option Nat}
theorem P_use (hI : IV B M ML R) (hB : B + 1700 < 2 ^ 20) : PRd (B + 1700) 92 188 [] M ML R := by
  obtain ⟨g, un, kp, tx, ts, rw, he, sa, hi, hr, hs⟩ := hI
  exact prQ hi hr hs (by omega) (C_use (d := 109) (by omega) hi hs) (fun M1 L1 h => R_use (d := 109) (by omega) h hs)
theorem P_order (hI : IV B M ML R) (hB : B + 1700 < 2 ^ 20) : PRd (B + 1700) 93 189 [] M ML R := by
  obtain ⟨g, un, kp, tx, ts, rw, he, sa, hi, hr, hs⟩ := hI
  exact prQ hi hr hs (by omega) (C_order (d := 109) (by omega) hi hs (by omega)) (fun M1 L1 h => R_order (d := 109) (by omega) h hs (by omega))
theorem P_behind (hI : IV B M ML R) (hB : B + 1700 < 2 ^ 20) : PRd (B + 1700) 94 191 [] M ML R := by
  obtain ⟨g, un, kp, tx, ts, rw, he, sa, hi, hr, hs⟩ := hI
  exact prQ hi hr hs (by omega) (C_behind (d := 109) (by omega) hi hs (by omega)) (fun M1 L1 h => R_behind (d := 109) (by omega) h hs (by omega))
theorem P_misses (hI : IV B M ML R) (hB : B + 1700 < 2 ^ 20) : PRd (B + 1700) 98 195 [] M ML R := by
  obtain ⟨g, un, kp, tx, ts, rw, he, sa, hi, hr, hs⟩ := hI
  exact prQ hi hr hs (by omega) (C_misses (d := 109) (by omega) hi hs (by omega)) (fun M1 L1 h => R_misses (d := 109) (by omega) h hs (by omega))
theorem P_room (hI : IV B M ML R) (hB : B + 1700 < 2 ^ 20) : PRd (B + 1700) 107 205 [] M ML R := by
  obtain ⟨g, un, kp, tx, ts, rw, he, sa, hi, hr, hs⟩ := hI
  exact prQ hi hr hs (by omega) (C_room (d := 109) (by omega) hi hs) (fun M1 L1 h => R_room (d := 109) (by omega) h hs)
theorem P_fewest (hI : IV B M ML R) (hB : B + 1700 < 2 ^ 20) : PRd (B + 1700) 108 206 [] M ML R := by
  obtain ⟨g, un, kp, tx, ts, rw, he, sa, hi, hr, hs⟩ := hI
  exact prQ hi hr hs (by omega) (C_fewest (d := 109) (by omega) hi hs) (fun M1 L1 h => R_fewest (d := 109) (by omega) h hs)
theorem P_fits (hI : IV B M ML R) (hB : B + 1700 < 2 ^ 20) : PRd (B + 1700) 111 213 [] M ML R := by
  obtain ⟨g, un, kp, tx, ts, rw, he, sa, hi, hr, hs⟩ := hI
  exact prQ hi hr hs (by omega) (C_fits (d := 109) (by omega) hi hs (by omega)) (fun M1 L1 h => R_fits (d := 109) (by omega) hi.hl.1 hi.hl.2 h hs (by omega))
theorem P_weights (hI : IV B M ML R) (hB : B + 1700 < 2 ^ 20) : PRd (B + 1700) 115 218 [] M ML R := by
  obtain ⟨g, un, kp, tx, ts, rw, he, sa, hi, hr, hs⟩ := hI
  exact prQ hi hr hs (by omega) (C_weights (d := 109) (by omega) hi) (fun M1 L1 h => R_weights (d := 109) (by omega) hi.sl.1 hi.sl.2 h)
theorem P_looks (hI : IV B M ML R) (hB : B + 1700 < 2 ^ 20) : PRd (B + 1700) 116 219 [] M ML R := by
  obtain ⟨g, un, kp, tx, ts, rw, he, sa, hi, hr, hs⟩ := hI
  exact prQ hi hr hs (by omega) (C_looks (d := 109) (by omega) hi) (fun M1 L1 h => R_looks (d := 109) (by omega) hi.sl.1 hi.sl.2 h)
theorem P_flow (hI : IV B M ML R) (hB : B + 1700 < 2 ^ 20) (a : Int32) : PRd (B + 1700) 104 203 [.int a] M ML R := by
  obtain ⟨g, un, kp, tx, ts, rw, he, sa, hi, hr, hs⟩ := hI
  exact prQ hi hr hs (by omega) (C_flow (d := 109) (by omega) hi hs (by omega) a) (fun M1 L1 h => R_flow (d := 109) (by omega) h hs (by omega) a)
theorem P_count (hI : IV B M ML R) (hB : B + 1700 < 2 ^ 20) (a : Int32) : PRd (B + 1700) 129 233 [.int a] M ML R := by
  obtain ⟨g, un, kp, tx, ts, rw, he, sa, hi, hr, hs⟩ := hI
  exact prQ hi hr hs (by omega) (C_count (d := 109) (by omega) hi hs a) (fun M1 L1 h => R_count (d := 109) (by omega) h hs a)
theorem P_round (hI : IV B M ML R) (hB : B + 1700 < 2 ^ 20) : PRd (B + 1700) 99 196 [] M ML R := by
  obtain ⟨g, un, kp, tx, ts, rw, he, sa, hi, hr, hs⟩ := hI
  have c := C_round (d := 109) (by omega) hi hs (by omega)
  have r := fun (M1 : Nat → Nat → Int32) (L1 : Nat → Nat → Int64) (h : IR g un kp tx ts rw he sa M1 L1 R) => R_round (d := 109) (by omega) h hs (by omega)
  by_cases z : g_ts g = 0
  · rw [if_pos z] at c
    exact prQ hi hr hs (by omega) c (fun M1 L1 h => by have r := r M1 L1 h; rw [if_pos z] at r; exact r)
  · rw [if_neg z] at c
    exact prQ hi hr hs (by omega) c (fun M1 L1 h => by have r := r M1 L1 h; rw [if_neg z] at r; exact r)
theorem P_asks (hI : IV B M ML R) (hB : B + 1700 < 2 ^ 20) : PRd (B + 1700) 112 214 [] M ML R := by
  obtain ⟨g, un, kp, tx, ts, rw, he, sa, hi, hr, hs⟩ := hI
  have c := C_asks (d := 109) (by omega) hi hs (by omega)
  have r := fun (M1 : Nat → Nat → Int32) (L1 : Nat → Nat → Int64) (h : IR g un kp tx ts rw he sa M1 L1 R) => R_asks (d := 109) (by omega) hi.hl.1 hi.hl.2 h hs (by omega)
  by_cases z : fS g he he.length = 0
  · rw [if_pos z] at c
    exact prQ hi hr hs (by omega) c (fun M1 L1 h => by have r := r M1 L1 h; rw [if_pos z] at r; exact r)
  · rw [if_neg z] at c
    exact prQ hi hr hs (by omega) c (fun M1 L1 h => by have r := r M1 L1 h; rw [if_neg z] at r; exact r)
theorem P_runs (hI : IV B M ML R) (hB : B + 1700 < 2 ^ 20) (v : Int32) : PRd (B + 1700) 96 193 [.int v] M ML R := by
  obtain ⟨g, un, kp, tx, ts, rw, he, sa, hi, hr, hs⟩ := hI
  rcases rngc 0 99 (by decide) (by decide) v with ⟨n, n1, n2, rfl⟩ | z
  · exact prQ hi hr hs (by omega) ((C_runs (d := 109) (by omega) hi hs (by omega) _).1 n n2 rfl) (fun M1 L1 h => (R_runs (d := 109) (by omega) h hs (by omega) _).1 n n2 rfl)
  · exact prQ hi hr hs (by omega) ((C_runs (d := 109) (by omega) hi hs (by omega) _).2 z) (fun M1 L1 h => (R_runs (d := 109) (by omega) h hs (by omega) _).2 z)
theorem P_pairs (hI : IV B M ML R) (hB : B + 1700 < 2 ^ 20) (v : Int32) : PRd (B + 1700) 101 198 [.int v] M ML R := by
  obtain ⟨g, un, kp, tx, ts, rw, he, sa, hi, hr, hs⟩ := hI
  rcases rngc 1 60 (by decide) (by decide) v with ⟨n, n1, n2, rfl⟩ | z
  · have c := (C_pairs (d := 108) (by omega) hi hs (by omega) _).1 n n1 n2 rfl
    have r := fun (M1 : Nat → Nat → Int32) (L1 : Nat → Nat → Int64) (h : IR g un kp tx ts rw he sa M1 L1 R) => (R_pairs (d := 109) (by omega) h hs (by omega) _).1 n n1 n2 rfl
    by_cases z : 2 ≤ bc (g_ts g)
    · rw [if_pos z] at c
      exact prQ hi hr hs (by omega) c (fun M1 L1 h => by have r := r M1 L1 h; rw [if_pos z] at r; exact r)
    · rw [if_neg z] at c
      exact prQ hi hr hs (by omega) c (fun M1 L1 h => by have r := r M1 L1 h; rw [if_neg z] at r; exact r)
  · exact prQ hi hr hs (by omega) ((C_pairs (d := 108) (by omega) hi hs (by omega) _).2 z) (fun M1 L1 h => (R_pairs (d := 109) (by omega) h hs (by omega) _).2 z)
theorem P_lags (hI : IV B M ML R) (hB : B + 1700 < 2 ^ 20) (v : Int32) : PRd (B + 1700) 103 199 [.int v] M ML R := by
  obtain ⟨g, un, kp, tx, ts, rw, he, sa, hi, hr, hs⟩ := hI
  rcases rngc 1 60 (by decide) (by decide) v with ⟨n, n1, n2, rfl⟩ | z
  · have c := (C_lags (d := 109) (by omega) hi hs (by omega) _).1 n n1 n2 rfl
    have r := fun (M1 : Nat → Nat → Int32) (L1 : Nat → Nat → Int64) (h : IR g un kp tx ts rw he sa M1 L1 R) => (R_lags (d := 109) (by omega) h hs (by omega) _).1 n n1 n2 rfl
    by_cases z : g_ts g = 0
    · rw [if_pos z] at c
      exact prQ hi hr hs (by omega) c (fun M1 L1 h => by have r := r M1 L1 h; rw [if_pos z] at r; exact r)
    · rw [if_neg z] at c
      exact prQ hi hr hs (by omega) c (fun M1 L1 h => by have r := r M1 L1 h; rw [if_neg z] at r; exact r)
  · exact prQ hi hr hs (by omega) ((C_lags (d := 109) (by omega) hi hs (by omega) _).2 z) (fun M1 L1 h => (R_lags (d := 109) (by omega) h hs (by omega) _).2 z)
theorem P_divisors (hI : IV B M ML R) (hB : B + 1700 < 2 ^ 20) (v : Int32) : PRd (B + 1700) 118 222 [.int v] M ML R := by
  obtain ⟨g, un, kp, tx, ts, rw, he, sa, hi, hr, hs⟩ := hI
  rcases rngc 0 200 (by decide) (by decide) v with ⟨n, n1, n2, rfl⟩ | z
  · exact prQ hi hr hs (by omega) ((C_div (d := 109) (by omega) hi _).1 n n2 rfl) (fun M1 L1 h => (R_div (d := 109) (by omega) h _).1 n n2 rfl)
  · exact prQ hi hr hs (by omega) ((C_div (d := 109) (by omega) hi _).2 z) (fun M1 L1 h => (R_div (d := 109) (by omega) h _).2 z)
theorem P_rests (hI : IV B M ML R) (hB : B + 1700 < 2 ^ 20) (v : Int32) : PRd (B + 1700) 119 225 [.int v] M ML R := by
  obtain ⟨g, un, kp, tx, ts, rw, he, sa, hi, hr, hs⟩ := hI
  rcases rngc 0 18 (by decide) (by decide) v with ⟨n, n1, n2, rfl⟩ | z
  · exact prQ hi hr hs (by omega) ((C_rests (d := 109) (by omega) hi _).1 n n2 rfl) (fun M1 L1 h => (R_rests (d := 109) (by omega) h _).1 n n2 rfl)
  · exact prQ hi hr hs (by omega) ((C_rests (d := 109) (by omega) hi _).2 z) (fun M1 L1 h => (R_rests (d := 109) (by omega) h _).2 z)
theorem P_years (hI : IV B M ML R) (hB : B + 1700 < 2 ^ 20) (s v : Int32) : PRd (B + 1700) 124 230 [.int s, .int v] M ML R := by
  obtain ⟨g, un, kp, tx, ts, rw, he, sa, hi, hr, hs⟩ := hI
  rcases rngc 1 60 (by decide) (by decide) v with ⟨n, n1, n2, rfl⟩ | z
  · exact prQ hi hr hs (by omega) ((C_years (d := 109) (by omega) hi hs (by omega) s _).1 n n1 n2 rfl) (fun M1 L1 h => (R_years (d := 109) (by omega) h hs (by omega) s _).1 n n1 n2 rfl)
  · exact prQ hi hr hs (by omega) ((C_years (d := 109) (by omega) hi hs (by omega) s _).2 z) (fun M1 L1 h => (R_years (d := 109) (by omega) h hs (by omega) s _).2 z)
theorem P_lag (hI : IV B M ML R) (hB : B + 1700 < 2 ^ 20) (t : Int32) : PRd (B + 1700) 91 187 [.int t] M ML R := by
  obtain ⟨g, un, kp, tx, ts, rw, he, sa, hi, hr, hs⟩ := hI
  by_cases z : th g t
  · obtain ⟨q, hq, rfl, h0⟩ := z
    exact prQ hi hr hs (by omega) ((C_lagM (d := 109) (by omega) hi hs _).1 q hq rfl h0) (fun M1 L1 h => (R_lagM (d := 109) (by omega) h hs _).1 q hq rfl h0)
  · exact prQ hi hr hs (by omega) ((C_lagM (d := 109) (by omega) hi hs _).2 z) (fun M1 L1 h => (R_lagM (d := 109) (by omega) h hs _).2 z)
theorem P_ahead (hI : IV B M ML R) (hB : B + 1700 < 2 ^ 20) (t : Int32) : PRd (B + 1700) 95 192 [.int t] M ML R := by
  obtain ⟨g, un, kp, tx, ts, rw, he, sa, hi, hr, hs⟩ := hI
  by_cases z : th g t
  · obtain ⟨q, hq, rfl, h0⟩ := z
    have c := (C_ahead (d := 109) (by omega) hi hs (by omega) _).1 q hq rfl h0
    have r := fun (M1 : Nat → Nat → Int32) (L1 : Nat → Nat → Int64) (h : IR g un kp tx ts rw he sa M1 L1 R) => (R_ahead (d := 109) (by omega) h hs (by omega) _).1 q hq rfl h0
    by_cases z : g_rd g q = true
    · rw [if_pos z] at c
      exact prQ hi hr hs (by omega) c (fun M1 L1 h => by have r := r M1 L1 h; rw [if_pos z] at r; exact r)
    · rw [if_neg z] at c
      exact prQ hi hr hs (by omega) c (fun M1 L1 h => by have r := r M1 L1 h; rw [if_neg z] at r; exact r)
  · exact prQ hi hr hs (by omega) ((C_ahead (d := 109) (by omega) hi hs (by omega) _).2 z) (fun M1 L1 h => (R_ahead (d := 109) (by omega) h hs (by omega) _).2 z)
theorem P_waits (hI : IV B M ML R) (hB : B + 1700 < 2 ^ 20) (t : Int32) : PRd (B + 1700) 105 204 [.int t] M ML R := by
  obtain ⟨g, un, kp, tx, ts, rw, he, sa, hi, hr, hs⟩ := hI
  by_cases z : th g t
  · obtain ⟨q, hq, rfl, h0⟩ := z
    exact prQ hi hr hs (by omega) ((C_waits (d := 108) (by omega) hi hs (by omega) _).1 q hq rfl h0) (fun M1 L1 h => (R_waits (d := 109) (by omega) h hs (by omega) _).1 q hq rfl h0)
  · exact prQ hi hr hs (by omega) ((C_waits (d := 108) (by omega) hi hs (by omega) _).2 z) (fun M1 L1 h => (R_waits (d := 109) (by omega) h hs (by omega) _).2 z)
theorem P_when (hI : IV B M ML R) (hB : B + 1700 < 2 ^ 20) (t v : Int32) : PRd (B + 1700) 97 194 [.int t, .int v] M ML R := by
  obtain ⟨g, un, kp, tx, ts, rw, he, sa, hi, hr, hs⟩ := hI
  by_cases z : th g t
  · rcases rngc 1 60 (by decide) (by decide) v with ⟨n, n1, n2, rfl⟩ | y
    · obtain ⟨q, hq, rfl, h0⟩ := z
      have c := (C_when (d := 109) (by omega) hi hs (by omega) _ _).1 q n hq rfl h0 n1 n2 rfl
      have r := fun (M1 : Nat → Nat → Int32) (L1 : Nat → Nat → Int64) (h : IR g un kp tx ts rw he sa M1 L1 R) => (R_when (d := 109) (by omega) h hs (by omega) _ _).1 q n hq rfl h0 n1 n2 rfl
      by_cases z : g (32 + q) < n
      · rw [if_pos z] at c
        exact prQ hi hr hs (by omega) c (fun M1 L1 h => by have r := r M1 L1 h; rw [if_pos z] at r; exact r)
      · rw [if_neg z] at c
        exact prQ hi hr hs (by omega) c (fun M1 L1 h => by have r := r M1 L1 h; rw [if_neg z] at r; exact r)
    · exact prQ hi hr hs (by omega) ((C_when (d := 109) (by omega) hi hs (by omega) _ _).2 (Or.inr y)) (fun M1 L1 h => (R_when (d := 109) (by omega) h hs (by omega) _ _).2 (Or.inr y))
  · exact prQ hi hr hs (by omega) ((C_when (d := 109) (by omega) hi hs (by omega) _ _).2 (Or.inl z)) (fun M1 L1 h => (R_when (d := 109) (by omega) h hs (by omega) _ _).2 (Or.inl z))
theorem P_share (hI : IV B M ML R) (hB : B + 1700 < 2 ^ 20) (t v : Int32) : PRd (B + 1700) 100 197 [.int t, .int v] M ML R := by
  obtain ⟨g, un, kp, tx, ts, rw, he, sa, hi, hr, hs⟩ := hI
  by_cases z : th g t
  · rcases rngc 1 60 (by decide) (by decide) v with ⟨n, n1, n2, rfl⟩ | y
    · obtain ⟨q, hq, rfl, h0⟩ := z
      exact prQ hi hr hs (by omega) ((C_share (d := 109) (by omega) hi hs (by omega) _ _).1 q n hq rfl h0 n1 n2 rfl) (fun M1 L1 h => (R_share (d := 109) (by omega) h hs (by omega) _ _).1 q n hq rfl h0 n1 n2 rfl)
    · exact prQ hi hr hs (by omega) ((C_share (d := 109) (by omega) hi hs (by omega) _ _).2 (Or.inr y)) (fun M1 L1 h => (R_share (d := 109) (by omega) h hs (by omega) _ _).2 (Or.inr y))
  · exact prQ hi hr hs (by omega) ((C_share (d := 109) (by omega) hi hs (by omega) _ _).2 (Or.inl z)) (fun M1 L1 h => (R_share (d := 109) (by omega) h hs (by omega) _ _).2 (Or.inl z))
theorem P_odds (hI : IV B M ML R) (hB : B + 1700 < 2 ^ 20) (a b c : Int32) : PRd (B + 1700) 117 220 [.int a, .int b, .int c] M ML R := by
  obtain ⟨g, un, kp, tx, ts, rw, he, sa, hi, hr, hs⟩ := hI
  rcases rngc 0 8 (by decide) (by decide) a with ⟨n, n1, n2, rfl⟩ | z
  · rcases rngc 0 8 (by decide) (by decide) b with ⟨k, k1, k2, rfl⟩ | z
    · rcases rngc 0 10 (by decide) (by decide) c with ⟨p, p1, p2, rfl⟩ | z
      · exact prQ hi hr hs (by omega) ((C_odds (d := 109) (by omega) hi _ _ _).1 n k p n2 k2 p2 rfl rfl rfl) (fun M1 L1 h => (R_odds (d := 109) (by omega) h _ _ _).1 n k p n2 k2 p2 rfl rfl rfl)
      · exact prQ hi hr hs (by omega) ((C_odds (d := 109) (by omega) hi _ _ _).2 (Or.inr (Or.inr z))) (fun M1 L1 h => (R_odds (d := 109) (by omega) h _ _ _).2 (Or.inr (Or.inr z)))
    · exact prQ hi hr hs (by omega) ((C_odds (d := 109) (by omega) hi _ _ _).2 (Or.inr (Or.inl z))) (fun M1 L1 h => (R_odds (d := 109) (by omega) h _ _ _).2 (Or.inr (Or.inl z)))
  · exact prQ hi hr hs (by omega) ((C_odds (d := 109) (by omega) hi _ _ _).2 (Or.inl z)) (fun M1 L1 h => (R_odds (d := 109) (by omega) h _ _ _).2 (Or.inl z))
theorem P_joins (hI : IV B M ML R) (hB : B + 1700 < 2 ^ 20) : PRd (B + 1700) 76 163 [] M ML R := by
  obtain ⟨g, un, kp, tx, ts, rw, he, sa, hi, hr, hs⟩ := hI
  exact prK hr (C_joins (d := 109) (by omega) hi hs (by omega)) (fun M1 L1 h => R_joins (d := 109) (by omega) hi.ul hi.xl.1 hi.xl.2 h hs) (hs.jn (by omega))
theorem P_ties (hI : IV B M ML R) (hB : B + 1700 < 2 ^ 20) : PRd (B + 1700) 77 166 [] M ML R := by
  obtain ⟨g, un, kp, tx, ts, rw, he, sa, hi, hr, hs⟩ := hI
  exact prK hr (C_ties (d := 109) (by omega) hi) (fun M1 L1 h => R_ties (d := 109) (by omega) hi.xl.1 hi.xl.2 h) (hs.ti (by omega))
theorem P_slot (hI : IV B M ML R) (hB : B + 1700 < 2 ^ 20) : PRd (B + 1700) 82 173 [] M ML R := by
  obtain ⟨g, un, kp, tx, ts, rw, he, sa, hi, hr, hs⟩ := hI
  exact prK hr (C_slot (d := 109) (by omega) hi hs (by omega)) (fun M1 L1 h => R_slot (d := 109) (by omega) hi.ul h hs (by omega)) (hs.p (by omega) (gok_up (gok_go hs.1 ts (-1)) (by omega)))
theorem P_shift (hI : IV B M ML R) (hB : B + 1700 < 2 ^ 20) : PRd (B + 1700) 88 182 [] M ML R := by
  obtain ⟨g, un, kp, tx, ts, rw, he, sa, hi, hr, hs⟩ := hI
  exact prK hr (C_shift (d := 109) (by omega) hi hs (by omega)) (fun M1 L1 h => R_shift (d := 109) (by omega) hi.ul hi.xl.1 hi.xl.2 h hs (by omega)) (hs.sf hi.xl.1)
theorem P_undo (hI : IV B M ML R) (hB : B + 1700 < 2 ^ 20) : PRd (B + 1700) 90 185 [] M ML R := by
  obtain ⟨g, un, kp, tx, ts, rw, he, sa, hi, hr, hs⟩ := hI
  exact prK hr (C_undo (d := 110) (by omega) hi) (fun M1 L1 h => R_undo (d := 110) (by omega) hi.ul h) (hs.uu (by omega))
theorem P_forget (hI : IV B M ML R) (hB : B + 1700 < 2 ^ 20) : PRd (B + 1700) 110 210 [] M ML R := by
  obtain ⟨g, un, kp, tx, ts, rw, he, sa, hi, hr, hs⟩ := hI
  exact prK hr (C_forget (d := 110) (by omega) hi) (fun M1 L1 h => R_forget (d := 110) (by omega) h) (hs.up (by omega))
theorem P_denies (hI : IV B M ML R) (hB : B + 1700 < 2 ^ 20) : PRd (B + 1700) 114 216 [] M ML R := by
  obtain ⟨g, un, kp, tx, ts, rw, he, sa, hi, hr, hs⟩ := hI
  exact prK hr (C_denies (d := 110) (by omega) hi) (fun M1 L1 h => R_denies (d := 110) (by omega) h) (hs.up (by omega))
theorem P_law (hI : IV B M ML R) (hB : B + 1700 < 2 ^ 20) : PRd (B + 1700) 122 227 [] M ML R := by
  obtain ⟨g, un, kp, tx, ts, rw, he, sa, hi, hr, hs⟩ := hI
  exact prK hr (C_law (d := 109) (by omega) hi hs (by omega)) (fun M1 L1 h => R_law (d := 109) (by omega) hi.xl.1 hi.xl.2 h hs (by omega)) (hs.up (by omega))
theorem P_sign (hI : IV B M ML R) (hB : B + 1700 < 2 ^ 20) (v : Int32) : PRd (B + 1700) 74 151 [.int v] M ML R := by
  obtain ⟨g, un, kp, tx, ts, rw, he, sa, hi, hr, hs⟩ := hI
  have c := C_sign (d := 110) (by omega) hi v
  have r := fun (M1 : Nat → Nat → Int32) (L1 : Nat → Nat → Int64) (h : IR g un kp tx ts rw he sa M1 L1 R) => R_sign (d := 110) (by omega) hi.xl.1 h v
  by_cases z : tx.length + 4 ≤ 80
  · rw [if_pos z] at c
    exact prK hr c (fun M1 L1 h => by have r := r M1 L1 h; rw [if_pos z] at r; exact r) (hs.up (by omega))
  · rw [if_neg z] at c
    exact prK hr c (fun M1 L1 h => by have r := r M1 L1 h; rw [if_neg z] at r; exact r) (hs.up (by omega))
theorem P_end (hI : IV B M ML R) (hB : B + 1700 < 2 ^ 20) (v : Int32) : PRd (B + 1700) 75 152 [.int v] M ML R := by
  obtain ⟨g, un, kp, tx, ts, rw, he, sa, hi, hr, hs⟩ := hI
  have hl := hi.xl.1
  rcases rngc 0 tx.length (by decide) (by omega) v with ⟨n, n1, n2, rfl⟩ | z
  · exact prK hr ((C_end (d := 110) (by omega) hi _).1 n n2 rfl) (fun M1 L1 h => (R_end (d := 110) (by omega) hl h _).1 n n2 rfl) (hs.up (by omega))
  · exact prK hr ((C_end (d := 110) (by omega) hi _).2 z) (fun M1 L1 h => (R_end (d := 110) (by omega) hl h _).2 z) (hs.up (by omega))
theorem P_slots (hI : IV B M ML R) (hB : B + 1700 < 2 ^ 20) (v : Int32) : PRd (B + 1700) 83 175 [.int v] M ML R := by
  obtain ⟨g, un, kp, tx, ts, rw, he, sa, hi, hr, hs⟩ := hI
  rcases rngc 0 60 (by decide) (by decide) v with ⟨n, n1, n2, rfl⟩ | z
  · exact prK hr ((C_slots (d := 109) (by omega) hi hs (by omega) _).1 n n2 rfl) (fun M1 L1 h => (R_slots (d := 109) (by omega) hi.ul h hs (by omega) _).1 n n2 rfl) (hs.p (by omega) (gok_up (g_it_ok hs.1 ts n) (by omega)))
  · exact prK hr ((C_slots (d := 109) (by omega) hi hs (by omega) _).2 z) (fun M1 L1 h => (R_slots (d := 109) (by omega) hi.ul h hs (by omega) _).2 z) (hs.up (by omega))
theorem P_processors (hI : IV B M ML R) (hB : B + 1700 < 2 ^ 20) (a : Int32) : PRd (B + 1700) 84 177 [.int a] M ML R := by
  obtain ⟨g, un, kp, tx, ts, rw, he, sa, hi, hr, hs⟩ := hI
  rcases rngc 1 4 (by decide) (by decide) a with ⟨v, n1, n2, rfl⟩ | z
  · have c := (C_processors (d := 109) (by omega) hi hs _).1 v n1 n2 rfl
    have r := fun (M1 : Nat → Nat → Int32) (L1 : Nat → Nat → Int64) (h : IR g un kp tx ts rw he sa M1 L1 R) => (R_processors (d := 109) (by omega) hi.ul h hs _).1 v n1 n2 rfl
    by_cases z : v = g 40
    · rw [if_pos z] at c
      exact prK hr c (fun M1 L1 h => by have r := r M1 L1 h; rw [if_pos z] at r; exact r) (hs.up (by omega))
    · rw [if_neg z] at c
      by_cases y : g_ws g 8 ≤ 27720 * v
      · rw [if_pos y] at c
        exact prK hr c (fun M1 L1 h => by have r := r M1 L1 h; rw [if_neg z, if_pos y] at r; exact r) (hs.p (by omega) (gok_up (gok_pr hs.1 n1 n2 y) (by omega)))
      · rw [if_neg y] at c
        exact prK hr c (fun M1 L1 h => by have r := r M1 L1 h; rw [if_neg z, if_neg y] at r; exact r) (hs.up (by omega))
  · exact prK hr ((C_processors (d := 109) (by omega) hi hs _).2 z) (fun M1 L1 h => (R_processors (d := 109) (by omega) hi.ul h hs _).2 z) (hs.up (by omega))
theorem P_leaves (hI : IV B M ML R) (hB : B + 1700 < 2 ^ 20) (t : Int32) : PRd (B + 1700) 85 180 [.int t] M ML R := by
  obtain ⟨g, un, kp, tx, ts, rw, he, sa, hi, hr, hs⟩ := hI
  by_cases z : th g t
  · obtain ⟨q, hq, rfl, h0⟩ := z
    have c := (C_leaves (d := 109) (by omega) hi hs (by omega) _).1 q hq rfl h0
    have r := fun (M1 : Nat → Nat → Int32) (L1 : Nat → Nat → Int64) (h : IR g un kp tx ts rw he sa M1 L1 R) => (R_leaves (d := 109) (by omega) hi.ul h hs (by omega) _).1 q hq rfl h0
    by_cases z : g_mf g q ≤ g 41
    · rw [if_pos z] at c
      exact prK hr c (fun M1 L1 h => by have r := r M1 L1 h; rw [if_pos z] at r; exact r) (hs.p (by omega) (gok_up (gok_lv hs.1 hq) (by omega)))
    · rw [if_neg z] at c
      exact prK hr c (fun M1 L1 h => by have r := r M1 L1 h; rw [if_neg z] at r; exact r) (hs.up (by omega))
  · exact prK hr ((C_leaves (d := 109) (by omega) hi hs (by omega) _).2 z) (fun M1 L1 h => (R_leaves (d := 109) (by omega) hi.ul h hs (by omega) _).2 z) (hs.up (by omega))
theorem P_hurries (hI : IV B M ML R) (hB : B + 1700 < 2 ^ 20) (t : Int32) : PRd (B + 1700) 86 181 [.int t] M ML R := by
  obtain ⟨g, un, kp, tx, ts, rw, he, sa, hi, hr, hs⟩ := hI
  by_cases z : th g t
  · obtain ⟨q, hq, rfl, h0⟩ := z
    exact prK hr ((C_hurries (d := 109) (by omega) hi hs _).1 q hq rfl h0) (fun M1 L1 h => (R_hurries (d := 109) (by omega) hi.ul h hs _).1 q hq rfl h0) (hs.p (by omega) (gok_up (gok_hu hs.1 hq h0) (by omega)))
  · exact prK hr ((C_hurries (d := 109) (by omega) hi hs _).2 z) (fun M1 L1 h => (R_hurries (d := 109) (by omega) hi.ul h hs _).2 z) (hs.up (by omega))
theorem P_heard (hI : IV B M ML R) (hB : B + 1700 < 2 ^ 20) (a v : Int32) : PRd (B + 1700) 109 209 [.int a, .int v] M ML R := by
  obtain ⟨g, un, kp, tx, ts, rw, he, sa, hi, hr, hs⟩ := hI
  have hl := hi.hl.1
  have c := C_heard (d := 109) (by omega) hi a v
  have r := fun (M1 : Nat → Nat → Int32) (L1 : Nat → Nat → Int64) (h : IR g un kp tx ts rw he sa M1 L1 R) => R_heard (d := 109) (by omega) hl h a v
  rcases rngc 0 4 (by decide) (by decide) a with ⟨w, w1, w2, ew⟩ | z
  · have b1 : lo5 w < 2 ^ 31 := by unfold lo5; split <;> omega
    have b2 : hi5 w < 2 ^ 31 := by unfold hi5; split <;> (try split) <;> omega
    rcases rngc (lo5 w) (hi5 w) b1 b2 v with ⟨x, x1, x2, ex⟩ | z
    · by_cases y : he.length < 12
      · exact prK hr (c.1 w x (by omega) ew x1 x2 ex y) (fun M1 L1 h => (r M1 L1 h).1 w x (by omega) ew x1 x2 ex y) (hs.up (by omega))
      · exact prK hr (c.2 (Or.inr (Or.inr (by omega)))) (fun M1 L1 h => (r M1 L1 h).2 (Or.inr (Or.inr (by omega)))) (hs.up (by omega))
    · exact prK hr (c.2 (Or.inr (Or.inl ⟨w, by omega, ew, z⟩))) (fun M1 L1 h => (r M1 L1 h).2 (Or.inr (Or.inl ⟨w, by omega, ew, z⟩))) (hs.up (by omega))
  · exact prK hr (c.2 (Or.inl z)) (fun M1 L1 h => (r M1 L1 h).2 (Or.inl z)) (hs.up (by omega))
theorem P_saw (hI : IV B M ML R) (hB : B + 1700 < 2 ^ 20) (a v : Int32) : PRd (B + 1700) 113 215 [.int a, .int v] M ML R := by
  obtain ⟨g, un, kp, tx, ts, rw, he, sa, hi, hr, hs⟩ := hI
  have hl := hi.sl.1
  have c := C_saw (d := 110) (by omega) hi a v
  have r := fun (M1 : Nat → Nat → Int32) (L1 : Nat → Nat → Int64) (h : IR g un kp tx ts rw he sa M1 L1 R) => R_saw (d := 110) (by omega) hl h a v
  rcases rngc 1 12 (by decide) (by decide) a with ⟨w, w1, w2, ew⟩ | z
  · rcases rngc 0 150 (by decide) (by decide) v with ⟨x, x1, x2, ex⟩ | z
    · by_cases y : sa.length < 10
      · exact prK hr (c.1 w x w1 w2 ew x2 ex y) (fun M1 L1 h => (r M1 L1 h).1 w x w1 w2 ew x2 ex y) (hs.up (by omega))
      · exact prK hr (c.2 (Or.inr (Or.inr (by omega)))) (fun M1 L1 h => (r M1 L1 h).2 (Or.inr (Or.inr (by omega)))) (hs.up (by omega))
    · exact prK hr (c.2 (Or.inr (Or.inl z))) (fun M1 L1 h => (r M1 L1 h).2 (Or.inr (Or.inl z))) (hs.up (by omega))
  · exact prK hr (c.2 (Or.inl z)) (fun M1 L1 h => (r M1 L1 h).2 (Or.inl z)) (hs.up (by omega))
theorem P_keep (hI : IV B M ML R) (hB : B + 1700 < 2 ^ 20) (v : Int32) : PRd (B + 1700) 127 231 [.int v] M ML R := by
  obtain ⟨g, un, kp, tx, ts, rw, he, sa, hi, hr, hs⟩ := hI
  rcases rngc 0 1 (by decide) (by decide) v with ⟨n, n1, n2, rfl⟩ | z
  · exact prK hr ((C_keep (d := 110) (by omega) hi _).1 n (by omega) rfl) (fun M1 L1 h => (R_keep (d := 110) (by omega) h _).1 n (by omega) rfl) (hs.kk (by omega) n)
  · exact prK hr ((C_keep (d := 110) (by omega) hi _).2 z) (fun M1 L1 h => (R_keep (d := 110) (by omega) h _).2 z) (hs.up (by omega))
theorem P_again (hI : IV B M ML R) (hB : B + 1700 < 2 ^ 20) (v : Int32) : PRd (B + 1700) 128 232 [.int v] M ML R := by
  obtain ⟨g, un, kp, tx, ts, rw, he, sa, hi, hr, hs⟩ := hI
  rcases rngc 0 1 (by decide) (by decide) v with ⟨n, n1, n2, rfl⟩ | z
  · cases e : kp n with
    | none => exact prK hr ((C_again (d := 110) (by omega) hi _).2 (Or.inr ⟨n, by omega, rfl, e⟩)) (fun M1 L1 h => (R_again (d := 110) (by omega) h _).2 (Or.inr ⟨n, by omega, rfl, e⟩)) (hs.up (by omega))
    | some u => exact prK hr ((C_again (d := 110) (by omega) hi _).1 n u (by omega) rfl e) (fun M1 L1 h => (R_again (d := 110) (by omega) h _).1 n u (by omega) rfl e) (hs.ag (by omega) e)
  · exact prK hr ((C_again (d := 110) (by omega) hi _).2 (Or.inl z)) (fun M1 L1 h => (R_again (d := 110) (by omega) h _).2 (Or.inl z)) (hs.up (by omega))
theorem P_sheet (hI : IV B M ML R) (hB : B + 1700 < 2 ^ 20) (a v f s : Int32) : PRd (B + 1700) 80 169 [.int a, .int v, .int f, .int s] M ML R := by
  obtain ⟨g, un, kp, tx, ts, rw, he, sa, hi, hr, hs⟩ := hI
  have c := C_sheet (d := 109) (by omega) hi hs a v f s
  have r := fun (M1 : Nat → Nat → Int32) (L1 : Nat → Nat → Int64) (h : IR g un kp tx ts rw he sa M1 L1 R) => R_sheet (d := 109) (by omega) h hs a v f s
  have ok : ∀ E, SO (q_sh2 g E a f s).1 un kp ts (B + 1700) := fun E => hs.gg (by omega) (s_l_ok (s_b_le E a f s) 8 0 (by omega) (s := (g, 0, 0)) (gok_up hs.1 (by omega)))
  have go : ∀ kind E, kind ≤ 3 → E ≤ 8 → a = nI kind → v ≤ 8 → (kind < 3 → v = nI E) → (kind = 3 → E = 0) → PRd (B + 1700) 80 169 [.int a, .int v, .int f, .int s] M ML R := fun kind E k1 k2 k3 k4 k5 k6 => by
    have c := c.1 kind E k1 k2 k3 k4 k5 k6
    by_cases z : a = 3
    · rw [if_pos z] at c
      exact prK hr c (fun M1 L1 h => by have r := (r M1 L1 h).1 kind E k1 k2 k3 k4 k5 k6; rw [if_pos z] at r; exact r) (ok E)
    · rw [if_neg z] at c
      exact prK hr c (fun M1 L1 h => by have r := (r M1 L1 h).1 kind E k1 k2 k3 k4 k5 k6; rw [if_neg z] at r; exact r) (ok E)
  rcases rngc 0 3 (by decide) (by decide) a with ⟨kind, w1, w2, ew⟩ | z
  · by_cases y : v ≤ 8
    · by_cases k3 : kind = 3
      · exact go kind 0 w2 (by omega) ew y (fun q => by omega) (fun _ => rfl)
      · rcases rngc 0 8 (by decide) (by decide) v with ⟨E, e1, e2, ee⟩ | z
        · exact go kind E w2 e2 ew y (fun _ => ee) (fun q => absurd q k3)
        · have hv : v < 0 := z.resolve_right (fun q => absurd y (Int32.not_le.mpr q))
          exact prK hr (c.2.2 kind (by omega) ew hv) (fun M1 L1 h => (r M1 L1 h).2.2 kind (by omega) ew hv) (hs.up (by omega))
    · exact prK hr (c.2.1 (Or.inr y)) (fun M1 L1 h => (r M1 L1 h).2.1 (Or.inr y)) (hs.up (by omega))
  · exact prK hr (c.2.1 (Or.inl z)) (fun M1 L1 h => (r M1 L1 h).2.1 (Or.inl z)) (hs.up (by omega))
end pairs
