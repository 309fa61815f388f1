def jd_cmp (x y : Int32) : Int32 := if y ≤ x then (if ¬ x = y then 1 else 0) else -1
set_option maxRecDepth 20000 in
theorem t_icmp (h : mj_H) (x y : Int32) : mj_big 1 235 [.int x, .int y] h (some (.int (jd_cmp x y))) h := by
  refine mj_ofB _ _ rfl rfl rfl ?_
  repeat' first
    | refine mj_auto2 [] 80 rfl ?_
    | refine mj_if rfl rfl (fun c1 => ?_) (fun c1 => ?_)
    | refine mj_rt rfl rfl rfl ⟨?_, by with_reducible rfl⟩
    | refine mj_rt rfl rfl rfl ⟨?_, ?_⟩
    | refine mj_rtl rfl rfl ⟨?_, by with_reducible rfl⟩
    | refine mj_rtl rfl rfl ⟨?_, ?_⟩
    | refine mj_rtv rfl rfl ⟨rfl, by with_reducible rfl⟩
    | refine mj_rtv rfl rfl ⟨rfl, ?_⟩
  all_goals simp [jd_cmp, *]
def jd_b1 (x : Int32) : Int32 := x - (mj_ushr x 1 &&& 1431655765)
def jd_b2 (x : Int32) : Int32 := (x &&& 858993459) + (mj_ushr x 2 &&& 858993459)
def jd_b3 (x : Int32) : Int32 := x + mj_ushr x 4 &&& 252645135
def jd_b4 (x : Int32) : Int32 := x + mj_ushr x 8
def jd_b5 (x : Int32) : Int32 := x + mj_ushr x 16
def jd_bc (x : Int32) : Int32 := jd_b5 (jd_b4 (jd_b3 (jd_b2 (jd_b1 x)))) &&& 63
set_option maxRecDepth 20000 in
theorem t_bitCount (h : mj_H) (x : Int32) : mj_big 1 236 [.int x] h (some (.int (jd_bc x))) h := by
  refine mj_ofB _ _ rfl rfl rfl ?_
  obtain ⟨x1, e1⟩ : ∃ z, z = jd_b1 x := ⟨_, rfl⟩
  refine mj_steps (pc' := 10) (L' := [some (.int x1)]) (st' := []) 8 (by rw [e1]; rfl) ?_
  obtain ⟨x2, e2⟩ : ∃ z, z = jd_b2 x1 := ⟨_, rfl⟩
  refine mj_steps (pc' := 24) (L' := [some (.int x2)]) (st' := []) 10 (by rw [e2]; rfl) ?_
  obtain ⟨x3, e3⟩ : ∃ z, z = jd_b3 x2 := ⟨_, rfl⟩
  refine mj_steps (pc' := 34) (L' := [some (.int x3)]) (st' := []) 8 (by rw [e3]; rfl) ?_
  obtain ⟨x4, e4⟩ : ∃ z, z = jd_b4 x3 := ⟨_, rfl⟩
  refine mj_steps (pc' := 41) (L' := [some (.int x4)]) (st' := []) 6 (by rw [e4]; rfl) ?_
  obtain ⟨x5, e5⟩ : ∃ z, z = jd_b5 x4 := ⟨_, rfl⟩
  refine mj_steps (pc' := 48) (L' := [some (.int x5)]) (st' := []) 6 (by rw [e5]; rfl) ?_
  refine mj_auto1 [] 50 rfl ?_
  exact mj_rt rfl rfl rfl ⟨by rw [jd_bc, e5, e4, e3, e2, e1], rfl⟩
def jd_lcmp (x y : Int64) : Int32 := if 0 ≤ lg_cmp x y then (if ¬ lg_cmp x y = 0 then 1 else 0) else -1
set_option maxRecDepth 20000 in
theorem t_lcmp (h : mj_H) (x y : Int64) : mj_big 1 237 [.long x, .long y] h (some (.int (jd_lcmp x y))) h := by
  refine mj_ofB _ _ rfl rfl rfl ?_
  repeat' first
    | refine mj_auto4 [] 80 rfl ?_
    | refine mj_if rfl rfl (fun c1 => ?_) (fun c1 => ?_)
    | refine mj_rt rfl rfl rfl ⟨?_, by with_reducible rfl⟩
    | refine mj_rt rfl rfl rfl ⟨?_, ?_⟩
    | refine mj_rtl rfl rfl ⟨?_, by with_reducible rfl⟩
    | refine mj_rtl rfl rfl ⟨?_, ?_⟩
    | refine mj_rtv rfl rfl ⟨rfl, by with_reducible rfl⟩
    | refine mj_rtv rfl rfl ⟨rfl, ?_⟩
  all_goals simp [jd_lcmp, *]
def jd_labs (x : Int64) : Int64 := if 0 ≤ lg_cmp x 0 then x else -x
set_option maxRecDepth 20000 in
theorem t_labs (h : mj_H) (x : Int64) : mj_big 1 238 [.long x] h (some (.long (jd_labs x))) h := by
  refine mj_ofB _ _ rfl rfl rfl ?_
  repeat' first
    | refine mj_auto2 [] 80 rfl ?_
    | refine mj_if rfl rfl (fun c1 => ?_) (fun c1 => ?_)
    | refine mj_rt rfl rfl rfl ⟨?_, by with_reducible rfl⟩
    | refine mj_rt rfl rfl rfl ⟨?_, ?_⟩
    | refine mj_rtl rfl rfl ⟨?_, by with_reducible rfl⟩
    | refine mj_rtl rfl rfl ⟨?_, ?_⟩
    | refine mj_rtv rfl rfl ⟨rfl, by with_reducible rfl⟩
    | refine mj_rtv rfl rfl ⟨rfl, ?_⟩
  all_goals simp [jd_labs, *]
def jd_max (x y : Int32) : Int32 := if x < y then y else x
set_option maxRecDepth 20000 in
theorem t_max (h : mj_H) (x y : Int32) : mj_big 1 239 [.int x, .int y] h (some (.int (jd_max x y))) h := by
  refine mj_ofB _ _ rfl rfl rfl ?_
  repeat' first
    | refine mj_auto2 [] 80 rfl ?_
    | refine mj_if rfl rfl (fun c1 => ?_) (fun c1 => ?_)
    | refine mj_rt rfl rfl rfl ⟨?_, by with_reducible rfl⟩
    | refine mj_rt rfl rfl rfl ⟨?_, ?_⟩
    | refine mj_rtl rfl rfl ⟨?_, by with_reducible rfl⟩
    | refine mj_rtl rfl rfl ⟨?_, ?_⟩
    | refine mj_rtv rfl rfl ⟨rfl, by with_reducible rfl⟩
    | refine mj_rtv rfl rfl ⟨rfl, ?_⟩
  all_goals simp [jd_max, *]
def jd_min (x y : Int32) : Int32 := if y < x then y else x
set_option maxRecDepth 20000 in
theorem t_min (h : mj_H) (x y : Int32) : mj_big 1 240 [.int x, .int y] h (some (.int (jd_min x y))) h := by
  refine mj_ofB _ _ rfl rfl rfl ?_
  repeat' first
    | refine mj_auto2 [] 80 rfl ?_
    | refine mj_if rfl rfl (fun c1 => ?_) (fun c1 => ?_)
    | refine mj_rt rfl rfl rfl ⟨?_, by with_reducible rfl⟩
    | refine mj_rt rfl rfl rfl ⟨?_, ?_⟩
    | refine mj_rtl rfl rfl ⟨?_, by with_reducible rfl⟩
    | refine mj_rtl rfl rfl ⟨?_, ?_⟩
    | refine mj_rtv rfl rfl ⟨rfl, by with_reducible rfl⟩
    | refine mj_rtv rfl rfl ⟨rfl, ?_⟩
  all_goals simp [jd_min, *]
def jd_fi (f : Nat → Int32) (n : Nat) (x : Int32) : Nat → Int32 := fun i => if i < n then x else f i
def jd_fl (f : Nat → Int64) (n : Nat) (x : Int64) : Nat → Int64 := fun i => if i < n then x else f i
theorem jd_fi_s (f : Nat → Int32) (k : Nat) (x : Int32) : upd (jd_fi f k x) k x = jd_fi f (k + 1) x := by
  funext i
  simp only [upd, jd_fi]
  by_cases h : i = k
  · subst h; simp
  · by_cases h2 : i < k
    · rw [if_neg h, if_pos h2, if_pos (by omega)]
    · rw [if_neg h, if_neg h2, if_neg (by omega)]
theorem jd_fi_0 (f : Nat → Int32) (x : Int32) : jd_fi f 0 x = f := by funext i; simp [jd_fi]
theorem jd_fl_s (f : Nat → Int64) (k : Nat) (x : Int64) : vp_updL (jd_fl f k x) k x = jd_fl f (k + 1) x := by
  funext i
  simp only [vp_updL, jd_fl]
  by_cases h : i = k
  · subst h; simp
  · by_cases h2 : i < k
    · rw [if_neg h, if_pos h2, if_pos (by omega)]
    · rw [if_neg h, if_neg h2, if_neg (by omega)]
theorem jd_fl_0 (f : Nat → Int64) (x : Int64) : jd_fl f 0 x = f := by funext i; simp [jd_fl]
theorem fm_row_u (M : Nat → Nat → Int32) (a i : Nat) (f : Nat → Int32) (x : Int32) : fm_u (fm_row M a f) a i x = fm_row M a (upd f i x) := by
  funext c
  by_cases h : c = a
  · subst h; simp [fm_u, fm_row]
  · simp [fm_u, fm_row, h]
theorem fm_row_self (M : Nat → Nat → Int32) (a : Nat) : fm_row M a (M a) = M := by
  funext c
  by_cases h : c = a
  · subst h; simp [fm_row]
  · simp [fm_row, h]
def fm_rowl (M : Nat → Nat → Int64) (a : Nat) (f : Nat → Int64) : Nat → Nat → Int64 := fun c => if c = a then f else M c
theorem fm_rowl_u (M : Nat → Nat → Int64) (a i : Nat) (f : Nat → Int64) (x : Int64) : fm_ul (fm_rowl M a f) a i x = fm_rowl M a (vp_updL f i x) := by
  funext c
  by_cases h : c = a
  · subst h; simp [fm_ul, fm_rowl]
  · simp [fm_ul, fm_rowl, h]
theorem fm_rowl_self (M : Nat → Nat → Int64) (a : Nat) : fm_rowl M a (M a) = M := by
  funext c
  by_cases h : c = a
  · subst h; simp [fm_rowl]
  · simp [fm_rowl, h]
set_option maxRecDepth 20000 in
theorem t_fill {a n : Nat} (ha : fm_sh a = .inl (0, n)) (hn : n < 2 ^ 31) (S : fm_S) (x : Int32) : mj_big 1 242 [.ref a, .int x] (fm_mk S) none (fm_mk (fm_row S.1 a (jd_fi (S.1 a) n x), S.2)) := by
  refine mj_ofB _ _ rfl rfl rfl ?_
  have lp : ∀ (m k : Nat), k + m = n → mj_Rn 0 none kJ7_fill_53178 (fun v g => v = none ∧ g = fm_mk (fm_row S.1 a (jd_fi (S.1 a) n x), S.2)) (fm_mk (fm_row S.1 a (jd_fi (S.1 a) k x), S.2)) 5 [some (.ref a), some (.int x), some (.int (nI k)), some (.int (nI n))] [] := by
    intro m
    induction m with
    | zero =>
      intro k hk
      obtain rfl : k = n := by omega
      refine mj_begin4 [5] 50 rfl ?_
      refine mj_if rfl rfl (fun c1 => ?_) (fun c1 => absurd (nI_le (Nat.le_refl k) hn) c1)
      exact mj_rtv rfl rfl ⟨rfl, rfl⟩
    | succ m ih =>
      intro k hk
      have e1 : ¬ nI n ≤ nI k := nI_ge (by omega) hn
      have e2 : vp_in (nI k) n := in_nI (by omega) hn
      have e3 : (nI k).toNatClampNeg = k := nI_clamp (by omega)
      have ih := ih (k + 1) (by omega)
      rw [← nI_1] at ih
      refine mj_begin4 [5] 50 rfl ?_
      refine mj_if rfl rfl (fun c1 => absurd c1 e1) (fun c1 => ?_)
      refine mj_auto4 [5] 50 rfl ?_
      refine fm_st ha rfl e2 ?_
      refine mj_auto4 [5] 50 rfl ?_
      rw [e3]
      dsimp only
      rw [fm_row_u, jd_fi_s]
      exact ih
  refine mj_auto4 [5] 50 rfl ?_
  refine fm_len ha rfl ?_
  refine mj_auto4 [5] 50 rfl ?_
  have q := lp n 0 (by omega)
  rw [jd_fi_0, fm_row_self] at q
  exact q
set_option maxRecDepth 20000 in
theorem t_filll {a n : Nat} (ha : fm_sh a = .inl (1, n)) (hn : n < 2 ^ 31) (S : fm_S) (x : Int64) : mj_big 1 241 [.ref a, .long x] (fm_mk S) none (fm_mk (S.1, fm_rowl S.2.1 a (jd_fl (S.2.1 a) n x), S.2.2)) := by
  refine mj_ofB _ _ rfl rfl rfl ?_
  have lp : ∀ (m k : Nat), k + m = n → mj_Rn 0 none kJ7_fill_d0a16 (fun v g => v = none ∧ g = fm_mk (S.1, fm_rowl S.2.1 a (jd_fl (S.2.1 a) n x), S.2.2)) (fm_mk (S.1, fm_rowl S.2.1 a (jd_fl (S.2.1 a) k x), S.2.2)) 6 [some (.ref a), some (.long x), none, some (.int (nI k)), some (.int (nI n))] [] := by
    intro m
    induction m with
    | zero =>
      intro k hk
      obtain rfl : k = n := by omega
      refine mj_begin5 [6] 50 rfl ?_
      refine mj_if rfl rfl (fun c1 => ?_) (fun c1 => absurd (nI_le (Nat.le_refl k) hn) c1)
      exact mj_rtv rfl rfl ⟨rfl, rfl⟩
    | succ m ih =>
      intro k hk
      have e1 : ¬ nI n ≤ nI k := nI_ge (by omega) hn
      have e2 : vp_in (nI k) n := in_nI (by omega) hn
      have e3 : (nI k).toNatClampNeg = k := nI_clamp (by omega)
      have ih := ih (k + 1) (by omega)
      rw [← nI_1] at ih
      refine mj_begin5 [6] 50 rfl ?_
      refine mj_if rfl rfl (fun c1 => absurd c1 e1) (fun c1 => ?_)
      refine mj_auto5 [6] 50 rfl ?_
      refine fm_stl ha rfl e2 ?_
      refine mj_auto5 [6] 50 rfl ?_
      rw [e3]
      dsimp only
      rw [fm_rowl_u, jd_fl_s]
      exact ih
  refine mj_auto5 [6] 50 rfl ?_
  refine fm_lenl ha rfl ?_
  refine mj_auto5 [6] 50 rfl ?_
  have q := lp n 0 (by omega)
  rw [jd_fl_0, fm_rowl_self] at q
  exact q
