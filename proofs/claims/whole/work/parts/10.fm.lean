abbrev fm_Sh : Type := (Nat × Nat) ⊕ (Nat × List (Nat × Nat))
abbrev fm_S : Type := (Nat → Nat → Int32) × (Nat → Nat → Int64) × (Nat → Nat → Option Nat)
def fm_list : List fm_Sh := [
  .inr (10, [(2, 1), (2, 12), (2, 23), (2, 34), (2, 38), (2, 40), (2, 42), (2, 44), (2, 46), (2, 49), (2, 53), (2, 54), (2, 61), (2, 62)]),
  .inr (9, [(2, 2), (2, 3), (2, 4), (2, 5), (2, 6), (2, 7), (2, 8), (2, 9), (2, 10), (2, 11), (0, 10), (0, 11), (0, 12), (0, 13), (0, 14), (0, 15), (0, 16)]),
  .inl (0, 8),
  .inl (0, 8),
  .inl (0, 8),
  .inl (0, 8),
  .inl (0, 8),
  .inl (0, 8),
  .inl (0, 8),
  .inl (0, 8),
  .inl (0, 8),
  .inl (0, 8),
  .inr (9, [(2, 13), (2, 14), (2, 15), (2, 16), (2, 17), (2, 18), (2, 19), (2, 20), (2, 21), (2, 22), (0, 10), (0, 11), (0, 12), (0, 13), (0, 14), (0, 15), (0, 16)]),
  .inl (0, 8),
  .inl (0, 8),
  .inl (0, 8),
  .inl (0, 8),
  .inl (0, 8),
  .inl (0, 8),
  .inl (0, 8),
  .inl (0, 8),
  .inl (0, 8),
  .inl (0, 8),
  .inr (9, [(2, 24), (2, 25), (2, 26), (2, 27), (2, 28), (2, 29), (2, 30), (2, 31), (2, 32), (2, 33), (0, 10), (0, 11), (0, 12), (0, 13), (0, 14), (0, 15), (0, 16)]),
  .inl (0, 8),
  .inl (0, 8),
  .inl (0, 8),
  .inl (0, 8),
  .inl (0, 8),
  .inl (0, 8),
  .inl (0, 8),
  .inl (0, 8),
  .inl (0, 8),
  .inl (0, 8),
  .inr (3, [(2, 35), (0, 1), (0, 2), (2, 36), (2, 37)]),
  .inl (5, 12),
  .inl (5, 2),
  .inl (3, 2),
  .inr (5, [(2, 39), (0, 1), (0, 2), (0, 3)]),
  .inl (4, 80),
  .inr (8, [(2, 41), (0, 1)]),
  .inl (0, 5),
  .inr (8, [(2, 43), (0, 1)]),
  .inl (0, 5),
  .inr (4, [(2, 45), (0, 1)]),
  .inl (1, 8),
  .inr (1, [(2, 47), (2, 48), (0, 2)]),
  .inl (0, 12),
  .inl (0, 12),
  .inr (6, [(2, 50), (2, 51), (2, 52), (0, 3)]),
  .inl (0, 10),
  .inl (0, 10),
  .inl (0, 151),
  .inr (0, [(0, 0), (0, 1), (1, 2), (1, 3), (1, 4), (1, 5)]),
  .inr (7, [(2, 55), (2, 56), (2, 57), (2, 58), (2, 59), (2, 60), (0, 6)]),
  .inl (0, 64),
  .inl (0, 64),
  .inl (0, 64),
  .inl (0, 8),
  .inl (0, 136),
  .inl (0, 136),
  .inl (0, 64),
  .inl (1, 9),
  .inr (98, []),
  .inr (98, []),
  .inr (9, [(2, 66), (2, 67), (2, 68), (2, 69), (2, 70), (2, 71), (2, 72), (2, 73), (2, 74), (2, 75), (0, 10), (0, 11), (0, 12), (0, 13), (0, 14), (0, 15), (0, 16)]),
  .inl (0, 8),
  .inl (0, 8),
  .inl (0, 8),
  .inl (0, 8),
  .inl (0, 8),
  .inl (0, 8),
  .inl (0, 8),
  .inl (0, 8),
  .inl (0, 8),
  .inl (0, 8),
  .inr (9, [(2, 77), (2, 78), (2, 79), (2, 80), (2, 81), (2, 82), (2, 83), (2, 84), (2, 85), (2, 86), (0, 10), (0, 11), (0, 12), (0, 13), (0, 14), (0, 15), (0, 16)]),
  .inl (0, 8),
  .inl (0, 8),
  .inl (0, 8),
  .inl (0, 8),
  .inl (0, 8),
  .inl (0, 8),
  .inl (0, 8),
  .inl (0, 8),
  .inl (0, 8),
  .inl (0, 8),
  .inr (9, [(2, 88), (2, 89), (2, 90), (2, 91), (2, 92), (2, 93), (2, 94), (2, 95), (2, 96), (2, 97), (0, 10), (0, 11), (0, 12), (0, 13), (0, 14), (0, 15), (0, 16)]),
  .inl (0, 8),
  .inl (0, 8),
  .inl (0, 8),
  .inl (0, 8),
  .inl (0, 8),
  .inl (0, 8),
  .inl (0, 8),
  .inl (0, 8),
  .inl (0, 8),
  .inl (0, 8),
  .inr (9, [(2, 99), (2, 100), (2, 101), (2, 102), (2, 103), (2, 104), (2, 105), (2, 106), (2, 107), (2, 108), (0, 10), (0, 11), (0, 12), (0, 13), (0, 14), (0, 15), (0, 16)]),
  .inl (0, 8),
  .inl (0, 8),
  .inl (0, 8),
  .inl (0, 8),
  .inl (0, 8),
  .inl (0, 8),
  .inl (0, 8),
  .inl (0, 8),
  .inl (0, 8),
  .inl (0, 8),
  .inr (9, [(2, 110), (2, 111), (2, 112), (2, 113), (2, 114), (2, 115), (2, 116), (2, 117), (2, 118), (2, 119), (0, 10), (0, 11), (0, 12), (0, 13), (0, 14), (0, 15), (0, 16)]),
  .inl (0, 8),
  .inl (0, 8),
  .inl (0, 8),
  .inl (0, 8),
  .inl (0, 8),
  .inl (0, 8),
  .inl (0, 8),
  .inl (0, 8),
  .inl (0, 8),
  .inl (0, 8),
  .inr (9, [(2, 121), (2, 122), (2, 123), (2, 124), (2, 125), (2, 126), (2, 127), (2, 128), (2, 129), (2, 130), (0, 10), (0, 11), (0, 12), (0, 13), (0, 14), (0, 15), (0, 16)]),
  .inl (0, 8),
  .inl (0, 8),
  .inl (0, 8),
  .inl (0, 8),
  .inl (0, 8),
  .inl (0, 8),
  .inl (0, 8),
  .inl (0, 8),
  .inl (0, 8),
  .inl (0, 8),
  .inr (9, [(2, 132), (2, 133), (2, 134), (2, 135), (2, 136), (2, 137), (2, 138), (2, 139), (2, 140), (2, 141), (0, 10), (0, 11), (0, 12), (0, 13), (0, 14), (0, 15), (0, 16)]),
  .inl (0, 8),
  .inl (0, 8),
  .inl (0, 8),
  .inl (0, 8),
  .inl (0, 8),
  .inl (0, 8),
  .inl (0, 8),
  .inl (0, 8),
  .inl (0, 8),
  .inl (0, 8),
  .inr (9, [(2, 143), (2, 144), (2, 145), (2, 146), (2, 147), (2, 148), (2, 149), (2, 150), (2, 151), (2, 152), (0, 10), (0, 11), (0, 12), (0, 13), (0, 14), (0, 15), (0, 16)]),
  .inl (0, 8),
  .inl (0, 8),
  .inl (0, 8),
  .inl (0, 8),
  .inl (0, 8),
  .inl (0, 8),
  .inl (0, 8),
  .inl (0, 8),
  .inl (0, 8),
  .inl (0, 8),
  .inr (9, [(2, 154), (2, 155), (2, 156), (2, 157), (2, 158), (2, 159), (2, 160), (2, 161), (2, 162), (2, 163), (0, 10), (0, 11), (0, 12), (0, 13), (0, 14), (0, 15), (0, 16)]),
  .inl (0, 8),
  .inl (0, 8),
  .inl (0, 8),
  .inl (0, 8),
  .inl (0, 8),
  .inl (0, 8),
  .inl (0, 8),
  .inl (0, 8),
  .inl (0, 8),
  .inl (0, 8),
  .inr (9, [(2, 165), (2, 166), (2, 167), (2, 168), (2, 169), (2, 170), (2, 171), (2, 172), (2, 173), (2, 174), (0, 10), (0, 11), (0, 12), (0, 13), (0, 14), (0, 15), (0, 16)]),
  .inl (0, 8),
  .inl (0, 8),
  .inl (0, 8),
  .inl (0, 8),
  .inl (0, 8),
  .inl (0, 8),
  .inl (0, 8),
  .inl (0, 8),
  .inl (0, 8),
  .inl (0, 8),
  .inr (9, [(2, 176), (2, 177), (2, 178), (2, 179), (2, 180), (2, 181), (2, 182), (2, 183), (2, 184), (2, 185), (0, 10), (0, 11), (0, 12), (0, 13), (0, 14), (0, 15), (0, 16)]),
  .inl (0, 8),
  .inl (0, 8),
  .inl (0, 8),
  .inl (0, 8),
  .inl (0, 8),
  .inl (0, 8),
  .inl (0, 8),
  .inl (0, 8),
  .inl (0, 8),
  .inl (0, 8),
  .inr (9, [(2, 187), (2, 188), (2, 189), (2, 190), (2, 191), (2, 192), (2, 193), (2, 194), (2, 195), (2, 196), (0, 10), (0, 11), (0, 12), (0, 13), (0, 14), (0, 15), (0, 16)]),
  .inl (0, 8),
  .inl (0, 8),
  .inl (0, 8),
  .inl (0, 8),
  .inl (0, 8),
  .inl (0, 8),
  .inl (0, 8),
  .inl (0, 8),
  .inl (0, 8),
  .inl (0, 8),
  .inr (9, [(2, 198), (2, 199), (2, 200), (2, 201), (2, 202), (2, 203), (2, 204), (2, 205), (2, 206), (2, 207), (0, 10), (0, 11), (0, 12), (0, 13), (0, 14), (0, 15), (0, 16)]),
  .inl (0, 8),
  .inl (0, 8),
  .inl (0, 8),
  .inl (0, 8),
  .inl (0, 8),
  .inl (0, 8),
  .inl (0, 8),
  .inl (0, 8),
  .inl (0, 8),
  .inl (0, 8),
  .inr (9, [(2, 209), (2, 210), (2, 211), (2, 212), (2, 213), (2, 214), (2, 215), (2, 216), (2, 217), (2, 218), (0, 10), (0, 11), (0, 12), (0, 13), (0, 14), (0, 15), (0, 16)]),
  .inl (0, 8),
  .inl (0, 8),
  .inl (0, 8),
  .inl (0, 8),
  .inl (0, 8),
  .inl (0, 8),
  .inl (0, 8),
  .inl (0, 8),
  .inl (0, 8),
  .inl (0, 8),
  .inr (11, [(2, 220), (2, 221), (0, 2), (2, 222), (0, 4), (0, 5), (3, 6), (3, 7), (0, 8), (1, 9), (1, 10), (2, 223), (3, 12), (0, 13), (0, 14), (0, 15), (0, 16), (2, 224), (2, 225), (0, 19), (2, 226), (2, 227), (0, 22), (0, 23), (0, 24), (2, 228), (2, 229), (2, 230), (0, 28), (2, 231), (2, 232), (2, 233), (2, 234), (2, 235), (2, 236), (2, 237), (0, 36), (2, 238), (2, 239), (0, 39), (2, 240), (2, 241), (0, 42), (0, 43), (2, 242), (2, 243)]),
  .inl (0, 43),
  .inl (2, 80),
  .inl (1, 16),
  .inl (0, 8),
  .inl (0, 24),
  .inl (0, 516),
  .inl (0, 43),
  .inl (0, 43),
  .inl (0, 160),
  .inl (0, 64),
  .inl (0, 192),
  .inl (0, 64),
  .inl (0, 8),
  .inl (3, 64),
  .inl (3, 8),
  .inl (3, 8),
  .inl (0, 12),
  .inl (0, 12),
  .inl (0, 10),
  .inl (0, 10),
  .inl (0, 151),
  .inl (3, 201),
  .inl (0, 86),
  .inl (3, 2),
  .inl (2, 5),
  .inl (2, 5),
  .inl (1, 1),
  .inl (6, 5),
  .inl (6, 5)]
def fm_sh (a : Nat) : fm_Sh := fm_list.getD a (.inr (99, []))
def fm_fld (S : fm_S) (a : Nat) (q : Nat × Nat) : Value := match q.1 with
  | 0 => .int (S.1 a q.2)
  | 1 => .long (S.2.1 a q.2)
  | 2 => .ref q.2
  | _ => va_rf (S.2.2 a q.2)
def fm_arr (S : fm_S) (a t n : Nat) : mj_C := match t with
  | 1 => .inl (1, n, .inr (.inl (S.2.1 a)))
  | 5 => .inl (5, n, .inr (.inr (.inr (.inr (S.2.2 a)))))
  | _ => .inl (t, n, .inl (S.1 a))
def fm_mk (S : fm_S) : mj_H := fun a => match fm_sh a with
  | .inl (t, n) => fm_arr S a t n
  | .inr (ci, fs) => .inr (ci, fs.map (fm_fld S a))
def fm_u (M : Nat → Nat → Int32) (a i : Nat) (x : Int32) : Nat → Nat → Int32 := fun a' => if a' = a then upd (M a) i x else M a'
def fm_ul (M : Nat → Nat → Int64) (a i : Nat) (x : Int64) : Nat → Nat → Int64 := fun a' => if a' = a then vp_updL (M a) i x else M a'
def fm_row (M : Nat → Nat → Int32) (a : Nat) (f : Nat → Int32) : Nat → Nat → Int32 := fun a' => if a' = a then f else M a'
def fm_ur (M : Nat → Nat → Option Nat) (a i : Nat) (x : Option Nat) : Nat → Nat → Option Nat := fun a' i' => if a' = a ∧ i' = i then x else M a' i'
theorem upd_same (f : Nat → Int32) (k : Nat) (x : Int32) : upd f k x k = x := by simp [upd]
theorem upd_ne {f : Nat → Int32} {k i : Nat} {x : Int32} (h : ¬ i = k) : upd f k x i = f i := by simp [upd, h]
theorem fm_u_row {M : Nat → Nat → Int32} {a i : Nat} {x : Int32} : fm_u M a i x a = upd (M a) i x := by simp [fm_u]
theorem fm_u_off {M : Nat → Nat → Int32} {a i b : Nat} {x : Int32} (h : ¬ b = a) : fm_u M a i x b = M b := by simp [fm_u, h]
theorem fm_row_row {M : Nat → Nat → Int32} {a : Nat} {f : Nat → Int32} : fm_row M a f a = f := by simp [fm_row]
theorem fm_row_off {M : Nat → Nat → Int32} {a b : Nat} {f : Nat → Int32} (h : ¬ b = a) : fm_row M a f b = M b := by simp [fm_row, h]
theorem fm_ul_row {M : Nat → Nat → Int64} {a i : Nat} {x : Int64} : fm_ul M a i x a = vp_updL (M a) i x := by simp [fm_ul]
theorem fm_ul_off {M : Nat → Nat → Int64} {a i b : Nat} {x : Int64} (h : ¬ b = a) : fm_ul M a i x b = M b := by simp [fm_ul, h]
theorem fm_a {S : fm_S} {a t n : Nat} (h : fm_sh a = .inl (t, n)) : fm_mk S a = fm_arr S a t n := by simp [fm_mk, h]
theorem fm_o {S : fm_S} {a ci : Nat} {fs : List (Nat × Nat)} (h : fm_sh a = .inr (ci, fs)) : fm_mk S a = .inr (ci, fs.map (fm_fld S a)) := by simp [fm_mk, h]
theorem fm_up_arr {S : fm_S} {a t n i : Nat} {x : Int32} (h : fm_sh a = .inl (t, n)) (ht : t = 0 ∨ t = 2 ∨ t = 3 ∨ t = 4) : mj_up (fm_mk S) a (.inl (t, n, .inl (upd (S.1 a) i x))) = fm_mk (fm_u S.1 a i x, S.2) := by
  funext b
  by_cases e : b = a
  · subst e
    simp only [mj_up, if_true, fm_a h]
    rcases ht with rfl | rfl | rfl | rfl <;> simp [fm_arr, fm_u]
  · simp only [mj_up, if_neg e, fm_mk]
    cases fm_sh b with
    | inl q =>
      simp only [fm_arr, fm_u_off e]
    | inr q =>
      have e9 : fm_fld S b = fm_fld (fm_u S.1 a i x, S.2) b := by funext p; simp only [fm_fld, fm_u_off e]
      simp only [e9]
theorem fm_up_row {S : fm_S} {a n : Nat} {f : Nat → Int32} (h : fm_sh a = .inl (0, n)) : mj_up (fm_mk S) a (.inl (0, n, .inl f)) = fm_mk (fm_row S.1 a f, S.2) := by
  funext b
  by_cases e : b = a
  · subst e
    simp only [mj_up, if_true, fm_a h]
    simp [fm_arr, fm_row]
  · simp only [mj_up, if_neg e, fm_mk]
    cases fm_sh b with
    | inl q =>
      simp only [fm_arr, fm_row_off e]
    | inr q =>
      have e9 : fm_fld S b = fm_fld (fm_row S.1 a f, S.2) b := by funext p; simp only [fm_fld, fm_row_off e]
      simp only [e9]
theorem fm_up_arl {S : fm_S} {a n i : Nat} {x : Int64} (h : fm_sh a = .inl (1, n)) : mj_up (fm_mk S) a (.inl (1, n, .inr (.inl (vp_updL (S.2.1 a) i x)))) = fm_mk (S.1, fm_ul S.2.1 a i x, S.2.2) := by
  funext b
  by_cases e : b = a
  · subst e
    simp only [mj_up, if_true, fm_a h]
    simp [fm_arr, fm_ul]
  · simp only [mj_up, if_neg e, fm_mk]
    cases fm_sh b with
    | inl q =>
      simp only [fm_arr, fm_ul_off e]
    | inr q =>
      have e9 : fm_fld S b = fm_fld (S.1, fm_ul S.2.1 a i x, S.2.2) b := by funext p; simp only [fm_fld, fm_ul_off e]
      simp only [e9]
theorem fm_ok (a : Nat) (ci : Nat) (fs : List (Nat × Nat)) (k j : Nat) (h : fm_sh a = .inr (ci, fs)) (hk : fs[k]? = some (0, j) ∨ fs[k]? = some (1, j) ∨ fs[k]? = some (3, j)) : j = k := by
  have hd : fm_list.all (fun q => match q with
      | .inl _ => true
      | .inr (_, fs) => fs.zipIdx.all (fun p => p.1.1 == 2 || p.1.2 == p.2)) = true := by decide +kernel
  unfold fm_sh at h
  rw [List.getD_eq_getElem?_getD] at h
  cases hz : fm_list[a]? with
  | none => rw [hz] at h; simp at h; rw [h.2] at hk; simp at hk
  | some q =>
    rw [hz] at h
    simp only [Option.getD_some] at h
    have h1 := List.all_eq_true.mp hd q (List.mem_of_getElem? hz)
    rw [h] at h1
    dsimp only at h1
    rw [List.all_eq_true] at h1
    have key : ∀ c, fs[k]? = some (c, j) → c = 2 ∨ j = k := by
      intro c hc
      have := h1 ((c, j), k) (by
        rw [List.mem_iff_getElem?]
        exact ⟨k, by rw [List.getElem?_zipIdx, hc]; simp⟩)
      simpa using this
    rcases hk with hk | hk | hk
    · exact (key 0 hk).resolve_left (by decide)
    · exact (key 1 hk).resolve_left (by decide)
    · exact (key 3 hk).resolve_left (by decide)
theorem fm_map_set {f g : Nat × Nat → Value} : ∀ (fs : List (Nat × Nat)) (k : Nat) (q : Nat × Nat) (v : Value), fs[k]? = some q → (∀ j p, fs[j]? = some p → j ≠ k → f p = g p) → g q = v → (fs.map f).set k v = fs.map g := by
  intro fs k q v hq h1 h2
  apply List.ext_getElem?
  intro j
  rw [List.getElem?_set]
  by_cases e : k = j
  · subst e
    rw [if_pos rfl, List.getElem?_map, hq]
    have : k < (fs.map f).length := by rw [List.length_map]; exact (List.getElem?_eq_some_iff.mp hq).1
    simp [this, h2]
    exact (List.getElem?_eq_some_iff.mp hq).1
  · rw [if_neg e, List.getElem?_map, List.getElem?_map]
    cases hz : fs[j]? with
    | none => rfl
    | some p => simp [h1 j p hz (fun q => e q.symm)]
theorem fm_up_fI {S : fm_S} {a ci k : Nat} {fs : List (Nat × Nat)} {x : Int32} (h : fm_sh a = .inr (ci, fs)) (hk : fs[k]? = some (0, k)) : mj_up (fm_mk S) a (.inr (ci, (fs.map (fm_fld S a)).set k (.int x))) = fm_mk (fm_u S.1 a k x, S.2) := by
  funext b
  by_cases e : b = a
  · subst e
    simp only [mj_up, if_true, fm_o h]
    rw [fm_map_set (g := fm_fld (fm_u S.1 b k x, S.2) b) fs k (0, k) (.int x) hk ?_ (by simp [fm_fld, fm_u, upd])]
    intro j p hj hne
    obtain ⟨c, y⟩ := p
    simp only [fm_fld, fm_u_row]
    match c, hj with
    | 0, hj =>
      have := fm_ok b ci fs j y h (Or.inl hj)
      subst this
      simp [upd, hne]
    | 1, hj => rfl
    | 2, hj => rfl
    | c + 3, hj => rfl
  · simp only [mj_up, if_neg e, fm_mk]
    cases fm_sh b with
    | inl q => simp only [fm_arr, fm_u_off e]
    | inr q =>
      have e9 : fm_fld S b = fm_fld (fm_u S.1 a k x, S.2) b := by funext p; simp only [fm_fld, fm_u_off e]
      simp only [e9]
theorem fm_up_fL {S : fm_S} {a ci k : Nat} {fs : List (Nat × Nat)} {x : Int64} (h : fm_sh a = .inr (ci, fs)) (hk : fs[k]? = some (1, k)) : mj_up (fm_mk S) a (.inr (ci, (fs.map (fm_fld S a)).set k (.long x))) = fm_mk (S.1, fm_ul S.2.1 a k x, S.2.2) := by
  funext b
  by_cases e : b = a
  · subst e
    simp only [mj_up, if_true, fm_o h]
    rw [fm_map_set (g := fm_fld (S.1, fm_ul S.2.1 b k x, S.2.2) b) fs k (1, k) (.long x) hk ?_ (by simp [fm_fld, fm_ul, vp_updL])]
    intro j p hj hne
    obtain ⟨c, y⟩ := p
    simp only [fm_fld, fm_ul_row]
    match c, hj with
    | 0, hj => rfl
    | 1, hj =>
      have := fm_ok b ci fs j y h (Or.inr (Or.inl hj))
      subst this
      simp [vp_updL, hne]
    | 2, hj => rfl
    | c + 3, hj => rfl
  · simp only [mj_up, if_neg e, fm_mk]
    cases fm_sh b with
    | inl q => simp only [fm_arr, fm_ul_off e]
    | inr q =>
      have e9 : fm_fld S b = fm_fld (S.1, fm_ul S.2.1 a k x, S.2.2) b := by funext p; simp only [fm_fld, fm_ul_off e]
      simp only [e9]
theorem fm_up_fR {S : fm_S} {a ci k : Nat} {fs : List (Nat × Nat)} {x : Nat} (h : fm_sh a = .inr (ci, fs)) (hk : fs[k]? = some (3, k)) : mj_up (fm_mk S) a (.inr (ci, (fs.map (fm_fld S a)).set k (.ref x))) = fm_mk (S.1, S.2.1, fm_ur S.2.2 a k (some x)) := by
  funext b
  by_cases e : b = a
  · subst e
    simp only [mj_up, if_true, fm_o h]
    rw [fm_map_set (g := fm_fld (S.1, S.2.1, fm_ur S.2.2 b k (some x)) b) fs k (3, k) (.ref x) hk ?_ (by simp [fm_fld, fm_ur, va_rf])]
    intro j p hj hne
    obtain ⟨c, y⟩ := p
    simp only [fm_fld]
    match c, hj with
    | 0, hj => rfl
    | 1, hj => rfl
    | 2, hj => rfl
    | 3, hj =>
      have := fm_ok b ci fs j y h (Or.inr (Or.inr hj))
      subst this
      simp [fm_ur, hne]
    | c + 4, hj =>
      exfalso
      have hd : fm_list.all (fun q => match q with
          | .inl _ => true
          | .inr (_, fs) => fs.all (fun p => Nat.ble p.1 3)) = true := by decide +kernel
      unfold fm_sh at h
      rw [List.getD_eq_getElem?_getD] at h
      cases hz : fm_list[b]? with
      | none => rw [hz] at h; simp at h; rw [h.2] at hj; simp at hj
      | some q =>
        rw [hz] at h
        simp only [Option.getD_some] at h
        have h1 := List.all_eq_true.mp hd q (List.mem_of_getElem? hz)
        rw [h] at h1
        dsimp only at h1
        have h2 := Nat.le_of_ble_eq_true (List.all_eq_true.mp h1 _ (List.mem_of_getElem? hj))
        dsimp only at h2
        omega
  · simp only [mj_up, if_neg e, fm_mk]
    cases fm_sh b with
    | inl q =>
      simp only [fm_arr]
      have e9 : fm_ur S.2.2 a k (some x) b = S.2.2 b := by funext i; simp [fm_ur, e]
      rw [e9]
    | inr q =>
      have e9 : fm_ur S.2.2 a k (some x) b = S.2.2 b := by funext i; simp [fm_ur, e]
      have e8 : fm_fld S b = fm_fld (S.1, S.2.1, fm_ur S.2.2 a k (some x)) b := by funext p; simp only [fm_fld, e9]
      simp only [e8]
section fmRules
variable {d : Nat} {ty : Option FieldType} {cs : List mj_E} {Q : Option Value → mj_H → Prop} {S : fm_S} {pc : Nat} {L : mj_L} {ix nx aux a ci k n : Nat} {fs : List (Nat × Nat)} {cv : Int32} {r : List Value}
theorem fm_gI (hs : fm_sh a = .inr (ci, fs)) (h1 : mj_at cs pc = some (.getfield ix, nx, aux, cv)) (hc : aux / 64 = ci) (hk : fs[aux % 64]? = some (0, k)) (kk : mj_Rn d ty cs Q (fm_mk S) nx L (.int (S.1 a k) :: r)) : mj_Rn d ty cs Q (fm_mk S) pc L (.ref a :: r) :=
  mj_get (fm_o hs) h1 hc rfl (by rw [List.getElem?_map, hk]; rfl) kk
theorem fm_gL (hs : fm_sh a = .inr (ci, fs)) (h1 : mj_at cs pc = some (.getfield ix, nx, aux, cv)) (hc : aux / 64 = ci) (hk : fs[aux % 64]? = some (1, k)) (kk : mj_Rn d ty cs Q (fm_mk S) nx L (.long (S.2.1 a k) :: r)) : mj_Rn d ty cs Q (fm_mk S) pc L (.ref a :: r) :=
  mj_get (fm_o hs) h1 hc rfl (by rw [List.getElem?_map, hk]; rfl) kk
theorem fm_gR (hs : fm_sh a = .inr (ci, fs)) (h1 : mj_at cs pc = some (.getfield ix, nx, aux, cv)) (hc : aux / 64 = ci) (hk : fs[aux % 64]? = some (2, k)) (kk : mj_Rn d ty cs Q (fm_mk S) nx L (.ref k :: r)) : mj_Rn d ty cs Q (fm_mk S) pc L (.ref a :: r) :=
  mj_get (fm_o hs) h1 hc rfl (by rw [List.getElem?_map, hk]; rfl) kk
theorem fm_gM {b : Nat} (hs : fm_sh a = .inr (ci, fs)) (h1 : mj_at cs pc = some (.getfield ix, nx, aux, cv)) (hc : aux / 64 = ci) (hk : fs[aux % 64]? = some (3, k)) (hb : S.2.2 a k = some b) (kk : mj_Rn d ty cs Q (fm_mk S) nx L (.ref b :: r)) : mj_Rn d ty cs Q (fm_mk S) pc L (.ref a :: r) :=
  mj_get (fm_o hs) h1 hc rfl (by rw [List.getElem?_map, hk]; simp [fm_fld, hb, va_rf]) kk
theorem fm_pI {x : Int32} (hs : fm_sh a = .inr (ci, fs)) (h1 : mj_at cs pc = some (.putfield ix, nx, aux, cv)) (hc : aux / 64 = ci) (hk : fs[aux % 64]? = some (0, k)) (hf : mj_fit (mj_fty ci (aux % 64)) (.int x) = true) (kk : mj_Rn d ty cs Q (fm_mk (fm_u S.1 a k x, S.2)) nx L r) : mj_Rn d ty cs Q (fm_mk S) pc L (.int x :: .ref a :: r) := by
  have hk2 := fm_ok a ci fs _ _ hs (Or.inl hk)
  refine mj_put (fm_o hs) h1 hc rfl (Nat.ble_eq_true_of_le (by rw [List.length_map]; exact (List.getElem?_eq_some_iff.mp hk).1)) hf ?_
  rw [← hk2] at hk ⊢
  rw [fm_up_fI hs hk]
  exact kk
theorem fm_pL {x : Int64} (hs : fm_sh a = .inr (ci, fs)) (h1 : mj_at cs pc = some (.putfield ix, nx, aux, cv)) (hc : aux / 64 = ci) (hk : fs[aux % 64]? = some (1, k)) (hf : mj_fit (mj_fty ci (aux % 64)) (.long x) = true) (kk : mj_Rn d ty cs Q (fm_mk (S.1, fm_ul S.2.1 a k x, S.2.2)) nx L r) : mj_Rn d ty cs Q (fm_mk S) pc L (.long x :: .ref a :: r) := by
  have hk2 := fm_ok a ci fs _ _ hs (Or.inr (Or.inl hk))
  refine mj_put (fm_o hs) h1 hc rfl (Nat.ble_eq_true_of_le (by rw [List.length_map]; exact (List.getElem?_eq_some_iff.mp hk).1)) hf ?_
  rw [← hk2] at hk ⊢
  rw [fm_up_fL hs hk]
  exact kk
theorem fm_pM {x : Nat} (hs : fm_sh a = .inr (ci, fs)) (h1 : mj_at cs pc = some (.putfield ix, nx, aux, cv)) (hc : aux / 64 = ci) (hk : fs[aux % 64]? = some (3, k)) (hf : mj_fit (mj_fty ci (aux % 64)) (.ref x) = true) (kk : mj_Rn d ty cs Q (fm_mk (S.1, S.2.1, fm_ur S.2.2 a k (some x))) nx L r) : mj_Rn d ty cs Q (fm_mk S) pc L (.ref x :: .ref a :: r) := by
  have hk2 := fm_ok a ci fs _ _ hs (Or.inr (Or.inr hk))
  refine mj_put (fm_o hs) h1 hc rfl (Nat.ble_eq_true_of_le (by rw [List.length_map]; exact (List.getElem?_eq_some_iff.mp hk).1)) hf ?_
  rw [← hk2] at hk ⊢
  rw [fm_up_fR hs hk]
  exact kk
theorem fm_ld {j : Int32} (hs : fm_sh a = .inl (0, n)) (h1 : mj_at cs pc = some (.iaload, nx, aux, cv)) (hj : vp_in j n) (kk : mj_Rn d ty cs Q (fm_mk S) nx L (.int (S.1 a j.toNatClampNeg) :: r)) : mj_Rn d ty cs Q (fm_mk S) pc L (.int j :: .ref a :: r) :=
  mj_iald (fm_a hs) hj h1 kk
theorem fm_ldc {j : Int32} (hs : fm_sh a = .inl (4, n)) (h1 : mj_at cs pc = some (.caload, nx, aux, cv)) (hj : vp_in j n) (kk : mj_Rn d ty cs Q (fm_mk S) nx L (.int (S.1 a j.toNatClampNeg) :: r)) : mj_Rn d ty cs Q (fm_mk S) pc L (.int j :: .ref a :: r) :=
  mj_cald (fm_a hs) hj h1 kk
theorem fm_ldb {j : Int32} (hs : fm_sh a = .inl (2, n)) (h1 : mj_at cs pc = some (.baload, nx, aux, cv)) (hj : vp_in j n) (kk : mj_Rn d ty cs Q (fm_mk S) nx L (.int (S.1 a j.toNatClampNeg) :: r)) : mj_Rn d ty cs Q (fm_mk S) pc L (.int j :: .ref a :: r) :=
  mj_bald (Or.inl (fm_a hs)) hj h1 kk
theorem fm_ldz {j : Int32} (hs : fm_sh a = .inl (3, n)) (h1 : mj_at cs pc = some (.baload, nx, aux, cv)) (hj : vp_in j n) (kk : mj_Rn d ty cs Q (fm_mk S) nx L (.int (S.1 a j.toNatClampNeg) :: r)) : mj_Rn d ty cs Q (fm_mk S) pc L (.int j :: .ref a :: r) :=
  mj_bald (Or.inr (fm_a hs)) hj h1 kk
theorem fm_ldl {j : Int32} (hs : fm_sh a = .inl (1, n)) (h1 : mj_at cs pc = some (.laload, nx, aux, cv)) (hj : vp_in j n) (kk : mj_Rn d ty cs Q (fm_mk S) nx L (.long (S.2.1 a j.toNatClampNeg) :: r)) : mj_Rn d ty cs Q (fm_mk S) pc L (.int j :: .ref a :: r) :=
  mj_lald (fm_a hs) hj h1 kk
theorem fm_lda {j : Int32} {b : Nat} (hs : fm_sh a = .inl (5, n)) (h1 : mj_at cs pc = some (.aaload, nx, aux, cv)) (hj : vp_in j n) (hb : S.2.2 a j.toNatClampNeg = some b) (kk : mj_Rn d ty cs Q (fm_mk S) nx L (.ref b :: r)) : mj_Rn d ty cs Q (fm_mk S) pc L (.int j :: .ref a :: r) :=
  mj_aald (fm_a hs) hj hb h1 kk
theorem fm_st {j x : Int32} (hs : fm_sh a = .inl (0, n)) (h1 : mj_at cs pc = some (.iastore, nx, aux, cv)) (hj : vp_in j n) (kk : mj_Rn d ty cs Q (fm_mk (fm_u S.1 a j.toNatClampNeg x, S.2)) nx L r) : mj_Rn d ty cs Q (fm_mk S) pc L (.int x :: .int j :: .ref a :: r) := by
  refine mj_iast (fm_a hs) hj h1 ?_
  rw [fm_up_arr hs (Or.inl rfl)]
  exact kk
theorem fm_stb {j x : Int32} (hs : fm_sh a = .inl (2, n)) (h1 : mj_at cs pc = some (.bastore, nx, aux, cv)) (hj : vp_in j n) (kk : mj_Rn d ty cs Q (fm_mk (fm_u S.1 a j.toNatClampNeg (vp_nar .byte x), S.2)) nx L r) : mj_Rn d ty cs Q (fm_mk S) pc L (.int x :: .int j :: .ref a :: r) := by
  refine mj_bast (fm_a hs) hj h1 ?_
  rw [fm_up_arr hs (Or.inr (Or.inl rfl))]
  exact kk
theorem fm_stz {j x : Int32} (hs : fm_sh a = .inl (3, n)) (h1 : mj_at cs pc = some (.bastore, nx, aux, cv)) (hj : vp_in j n) (kk : mj_Rn d ty cs Q (fm_mk (fm_u S.1 a j.toNatClampNeg (vp_nar .boolean x), S.2)) nx L r) : mj_Rn d ty cs Q (fm_mk S) pc L (.int x :: .int j :: .ref a :: r) := by
  refine mj_zast (fm_a hs) hj h1 ?_
  rw [fm_up_arr hs (Or.inr (Or.inr (Or.inl rfl)))]
  exact kk
theorem fm_stc {j x : Int32} (hs : fm_sh a = .inl (4, n)) (h1 : mj_at cs pc = some (.castore, nx, aux, cv)) (hj : vp_in j n) (kk : mj_Rn d ty cs Q (fm_mk (fm_u S.1 a j.toNatClampNeg (vp_nar .char x), S.2)) nx L r) : mj_Rn d ty cs Q (fm_mk S) pc L (.int x :: .int j :: .ref a :: r) := by
  refine mj_cast (fm_a hs) hj h1 ?_
  rw [fm_up_arr hs (Or.inr (Or.inr (Or.inr rfl)))]
  exact kk
theorem fm_stl {j : Int32} {x : Int64} (hs : fm_sh a = .inl (1, n)) (h1 : mj_at cs pc = some (.lastore, nx, aux, cv)) (hj : vp_in j n) (kk : mj_Rn d ty cs Q (fm_mk (S.1, fm_ul S.2.1 a j.toNatClampNeg x, S.2.2)) nx L r) : mj_Rn d ty cs Q (fm_mk S) pc L (.long x :: .int j :: .ref a :: r) := by
  refine mj_last (fm_a hs) hj h1 ?_
  rw [fm_up_arl hs]
  exact kk
theorem fm_len (hs : fm_sh a = .inl (0, n)) (h1 : mj_at cs pc = some (.arraylength, nx, aux, cv)) (kk : mj_Rn d ty cs Q (fm_mk S) nx L (.int (Int32.ofNat n) :: r)) : mj_Rn d ty cs Q (fm_mk S) pc L (.ref a :: r) :=
  mj_alen (fm_a hs) rfl h1 kk
theorem fm_lenl (hs : fm_sh a = .inl (1, n)) (h1 : mj_at cs pc = some (.arraylength, nx, aux, cv)) (kk : mj_Rn d ty cs Q (fm_mk S) nx L (.int (Int32.ofNat n) :: r)) : mj_Rn d ty cs Q (fm_mk S) pc L (.ref a :: r) :=
  mj_alen (fm_a hs) rfl h1 kk
theorem fm_cpy {a0 : Nat} (h0 : fm_sh a0 = .inl (0, n)) (hs : fm_sh a = .inl (0, n)) (hk : (nI k).toNatClampNeg = k ∧ ¬ nI k < 0 ∧ k ≤ n) (hr : Nat.ble (r.map fun v => v.category).sum 8 = true) (h1 : mj_at cs pc = some (.invokestatic ix, nx, 9999, cv)) (kk : mj_Rn d ty cs Q (fm_mk (fm_row S.1 a (va_cpy (S.1 a0) (S.1 a) 0 0 k), S.2)) nx L r) : mj_Rn d ty cs Q (fm_mk S) pc L (.int (nI k) :: .int 0 :: .ref a :: .int 0 :: .ref a0 :: r) := by
  refine mj_copy (fm_a h0) (fm_a hs) hr hk.2.1 (by rw [hk.1]; exact Nat.ble_eq_true_of_le hk.2.2) (by rw [hk.1]; exact Nat.ble_eq_true_of_le hk.2.2) h1 ?_
  rw [hk.1, fm_up_row hs]
  exact kk
end fmRules
/-- a World at b -/
def fm_W (b : Nat) : Prop := fm_sh b = .inr (9, [(2, b + 1), (2, b + 2), (2, b + 3), (2, b + 4), (2, b + 5), (2, b + 6), (2, b + 7), (2, b + 8), (2, b + 9), (2, b + 10), (0, 10), (0, 11), (0, 12), (0, 13), (0, 14), (0, 15), (0, 16)]) ∧ fm_sh (b + 1) = .inl (0, 8) ∧ fm_sh (b + 2) = .inl (0, 8) ∧ fm_sh (b + 3) = .inl (0, 8) ∧ fm_sh (b + 4) = .inl (0, 8) ∧ fm_sh (b + 5) = .inl (0, 8) ∧ fm_sh (b + 6) = .inl (0, 8) ∧ fm_sh (b + 7) = .inl (0, 8) ∧ fm_sh (b + 8) = .inl (0, 8) ∧ fm_sh (b + 9) = .inl (0, 8) ∧ fm_sh (b + 10) = .inl (0, 8)
/-- Ties at t -/
def fm_T (t : Nat) : Prop := fm_sh t = .inr (8, [(2, t + 1), (0, 1)]) ∧ fm_sh (t + 1) = .inl (0, 5)
theorem fm_W1 : fm_W 1 := ⟨by decide +kernel, by decide +kernel, by decide +kernel, by decide +kernel, by decide +kernel, by decide +kernel, by decide +kernel, by decide +kernel, by decide +kernel, by decide +kernel, by decide +kernel⟩
theorem fm_W12 : fm_W 12 := ⟨by decide +kernel, by decide +kernel, by decide +kernel, by decide +kernel, by decide +kernel, by decide +kernel, by decide +kernel, by decide +kernel, by decide +kernel, by decide +kernel, by decide +kernel⟩
theorem fm_W23 : fm_W 23 := ⟨by decide +kernel, by decide +kernel, by decide +kernel, by decide +kernel, by decide +kernel, by decide +kernel, by decide +kernel, by decide +kernel, by decide +kernel, by decide +kernel, by decide +kernel⟩
theorem fm_W65a : ∀ k, k < 14 → fm_sh (65 + 11 * k) = .inr (9, [(2, 65 + 11 * k + 1), (2, 65 + 11 * k + 2), (2, 65 + 11 * k + 3), (2, 65 + 11 * k + 4), (2, 65 + 11 * k + 5), (2, 65 + 11 * k + 6), (2, 65 + 11 * k + 7), (2, 65 + 11 * k + 8), (2, 65 + 11 * k + 9), (2, 65 + 11 * k + 10), (0, 10), (0, 11), (0, 12), (0, 13), (0, 14), (0, 15), (0, 16)]) := by decide +kernel
theorem fm_W65c : (List.range 10).all (fun j => (List.range 14).all (fun k => decide (fm_sh (65 + 11 * k + (j + 1)) = .inl (0, 8)))) = true := by decide +kernel
theorem fm_W65b (j : Nat) (hj : j < 10) (k : Nat) (hk : k < 14) : fm_sh (65 + 11 * k + (j + 1)) = .inl (0, 8) := of_decide_eq_true (List.all_eq_true.mp (List.all_eq_true.mp fm_W65c j (List.mem_range.mpr hj)) k (List.mem_range.mpr hk))
theorem fm_W65 : ∀ k, k < 14 → fm_W (65 + 11 * k) := fun k hk => ⟨fm_W65a k hk, fm_W65b 0 (by decide) k hk, fm_W65b 1 (by decide) k hk, fm_W65b 2 (by decide) k hk, fm_W65b 3 (by decide) k hk, fm_W65b 4 (by decide) k hk, fm_W65b 5 (by decide) k hk, fm_W65b 6 (by decide) k hk, fm_W65b 7 (by decide) k hk, fm_W65b 8 (by decide) k hk, fm_W65b 9 (by decide) k hk⟩
theorem fm_T40 : fm_T 40 := by unfold fm_T; decide +kernel
theorem fm_T42 : fm_T 42 := by unfold fm_T; decide +kernel
theorem fm_s0 : fm_sh 0 = .inr (10, [(2, 1), (2, 12), (2, 23), (2, 34), (2, 38), (2, 40), (2, 42), (2, 44), (2, 46), (2, 49), (2, 53), (2, 54), (2, 61), (2, 62)]) := by decide +kernel
theorem fm_s34 : fm_sh 34 = .inr (3, [(2, 35), (0, 1), (0, 2), (2, 36), (2, 37)]) := by decide +kernel
theorem fm_s35 : fm_sh 35 = .inl (5, 12) := by decide +kernel
theorem fm_s36 : fm_sh 36 = .inl (5, 2) := by decide +kernel
theorem fm_s37 : fm_sh 37 = .inl (3, 2) := by decide +kernel
theorem fm_s38 : fm_sh 38 = .inr (5, [(2, 39), (0, 1), (0, 2), (0, 3)]) := by decide +kernel
theorem fm_s39 : fm_sh 39 = .inl (4, 80) := by decide +kernel
theorem fm_s40 : fm_sh 40 = .inr (8, [(2, 41), (0, 1)]) := by decide +kernel
theorem fm_s41 : fm_sh 41 = .inl (0, 5) := by decide +kernel
theorem fm_s42 : fm_sh 42 = .inr (8, [(2, 43), (0, 1)]) := by decide +kernel
theorem fm_s43 : fm_sh 43 = .inl (0, 5) := by decide +kernel
theorem fm_s44 : fm_sh 44 = .inr (4, [(2, 45), (0, 1)]) := by decide +kernel
theorem fm_s45 : fm_sh 45 = .inl (1, 8) := by decide +kernel
theorem fm_s46 : fm_sh 46 = .inr (1, [(2, 47), (2, 48), (0, 2)]) := by decide +kernel
theorem fm_s47 : fm_sh 47 = .inl (0, 12) := by decide +kernel
theorem fm_s48 : fm_sh 48 = .inl (0, 12) := by decide +kernel
theorem fm_s49 : fm_sh 49 = .inr (6, [(2, 50), (2, 51), (2, 52), (0, 3)]) := by decide +kernel
theorem fm_s50 : fm_sh 50 = .inl (0, 10) := by decide +kernel
theorem fm_s51 : fm_sh 51 = .inl (0, 10) := by decide +kernel
theorem fm_s52 : fm_sh 52 = .inl (0, 151) := by decide +kernel
theorem fm_s53 : fm_sh 53 = .inr (0, [(0, 0), (0, 1), (1, 2), (1, 3), (1, 4), (1, 5)]) := by decide +kernel
theorem fm_s54 : fm_sh 54 = .inr (7, [(2, 55), (2, 56), (2, 57), (2, 58), (2, 59), (2, 60), (0, 6)]) := by decide +kernel
theorem fm_s55 : fm_sh 55 = .inl (0, 64) := by decide +kernel
theorem fm_s56 : fm_sh 56 = .inl (0, 64) := by decide +kernel
theorem fm_s57 : fm_sh 57 = .inl (0, 64) := by decide +kernel
theorem fm_s58 : fm_sh 58 = .inl (0, 8) := by decide +kernel
theorem fm_s59 : fm_sh 59 = .inl (0, 136) := by decide +kernel
theorem fm_s60 : fm_sh 60 = .inl (0, 136) := by decide +kernel
theorem fm_s61 : fm_sh 61 = .inl (0, 64) := by decide +kernel
theorem fm_s62 : fm_sh 62 = .inl (1, 9) := by decide +kernel
theorem fm_s219 : fm_sh 219 = .inr (11, [(2, 220), (2, 221), (0, 2), (2, 222), (0, 4), (0, 5), (3, 6), (3, 7), (0, 8), (1, 9), (1, 10), (2, 223), (3, 12), (0, 13), (0, 14), (0, 15), (0, 16), (2, 224), (2, 225), (0, 19), (2, 226), (2, 227), (0, 22), (0, 23), (0, 24), (2, 228), (2, 229), (2, 230), (0, 28), (2, 231), (2, 232), (2, 233), (2, 234), (2, 235), (2, 236), (2, 237), (0, 36), (2, 238), (2, 239), (0, 39), (2, 240), (2, 241), (0, 42), (0, 43), (2, 242), (2, 243)]) := by decide +kernel
theorem fm_s220 : fm_sh 220 = .inl (0, 43) := by decide +kernel
theorem fm_s221 : fm_sh 221 = .inl (2, 80) := by decide +kernel
theorem fm_s222 : fm_sh 222 = .inl (1, 16) := by decide +kernel
theorem fm_s223 : fm_sh 223 = .inl (0, 8) := by decide +kernel
theorem fm_s224 : fm_sh 224 = .inl (0, 24) := by decide +kernel
theorem fm_s225 : fm_sh 225 = .inl (0, 516) := by decide +kernel
theorem fm_s226 : fm_sh 226 = .inl (0, 43) := by decide +kernel
theorem fm_s227 : fm_sh 227 = .inl (0, 43) := by decide +kernel
theorem fm_s228 : fm_sh 228 = .inl (0, 160) := by decide +kernel
theorem fm_s229 : fm_sh 229 = .inl (0, 64) := by decide +kernel
theorem fm_s230 : fm_sh 230 = .inl (0, 192) := by decide +kernel
theorem fm_s231 : fm_sh 231 = .inl (0, 64) := by decide +kernel
theorem fm_s232 : fm_sh 232 = .inl (0, 8) := by decide +kernel
theorem fm_s233 : fm_sh 233 = .inl (3, 64) := by decide +kernel
theorem fm_s234 : fm_sh 234 = .inl (3, 8) := by decide +kernel
theorem fm_s235 : fm_sh 235 = .inl (3, 8) := by decide +kernel
theorem fm_s236 : fm_sh 236 = .inl (0, 12) := by decide +kernel
theorem fm_s237 : fm_sh 237 = .inl (0, 12) := by decide +kernel
theorem fm_s238 : fm_sh 238 = .inl (0, 10) := by decide +kernel
theorem fm_s239 : fm_sh 239 = .inl (0, 10) := by decide +kernel
theorem fm_s240 : fm_sh 240 = .inl (0, 151) := by decide +kernel
theorem fm_s241 : fm_sh 241 = .inl (3, 201) := by decide +kernel
theorem fm_s242 : fm_sh 242 = .inl (0, 86) := by decide +kernel
theorem fm_s243 : fm_sh 243 = .inl (3, 2) := by decide +kernel
theorem fm_s244 : fm_sh 244 = .inl (2, 5) := by decide +kernel
theorem fm_s245 : fm_sh 245 = .inl (2, 5) := by decide +kernel
theorem fm_s246 : fm_sh 246 = .inl (1, 1) := by decide +kernel
theorem fm_s247 : fm_sh 247 = .inl (6, 5) := by decide +kernel
theorem fm_s248 : fm_sh 248 = .inl (6, 5) := by decide +kernel
