def pt_rel (e p i : Int32) : Int32 := if e ≤ 0 then 0 else (i - 1) * p / e
def pt_dl (e p i : Int32) : Int32 := if e ≤ 0 then 0 else (i * p + e - 1) / e
def i_rem (x y : Int32) : Int32 := x - x / y * y
def pt_ov (e p i : Int32) : Int32 := if e ≤ 0 then 0 else if i_rem (i * p) e = 0 then 0 else 1
theorem i32_ne0 {e : Int32} (h : ¬ e ≤ 0) : ¬ e = 0 := fun q => h (by rw [q]; decide)
set_option maxRecDepth 20000 in
theorem t_release (h : mj_H) (e p i : Int32) : mj_big 1 7 [.int e, .int p, .int i] h (some (.int (pt_rel e p i))) h := by
  refine mj_ofB _ _ rfl rfl rfl ?_
  repeat' first
    | refine mj_auto3 [] 80 rfl ?_
    | refine mj_if rfl rfl (fun c1 => ?_) (fun c1 => ?_)
  · exact mj_rt rfl rfl rfl ⟨by rw [pt_rel, if_pos (by assumption)], rfl⟩
  · refine mj_div rfl rfl (i32_ne0 (by assumption)) ?_
    refine mj_auto3 [] 80 rfl ?_
    exact mj_rt rfl rfl rfl ⟨by rw [pt_rel, if_neg (by assumption)], rfl⟩
set_option maxRecDepth 20000 in
theorem t_deadline (h : mj_H) (e p i : Int32) : mj_big 1 8 [.int e, .int p, .int i] h (some (.int (pt_dl e p i))) h := by
  refine mj_ofB _ _ rfl rfl rfl ?_
  repeat' first
    | refine mj_auto3 [] 80 rfl ?_
    | refine mj_if rfl rfl (fun c1 => ?_) (fun c1 => ?_)
  · exact mj_rt rfl rfl rfl ⟨by rw [pt_dl, if_pos (by assumption)], rfl⟩
  · refine mj_div rfl rfl (i32_ne0 (by assumption)) ?_
    refine mj_auto3 [] 80 rfl ?_
    exact mj_rt rfl rfl rfl ⟨by rw [pt_dl, if_neg (by assumption)], rfl⟩
set_option maxRecDepth 20000 in
theorem t_overlap (h : mj_H) (e p i : Int32) : mj_big 1 9 [.int e, .int p, .int i] h (some (.int (pt_ov e p i))) h := by
  refine mj_ofB _ _ rfl rfl rfl ?_
  repeat' first
    | refine mj_auto3 [] 80 rfl ?_
    | refine mj_if rfl rfl (fun c1 => ?_) (fun c1 => ?_)
  · exact mj_rt rfl rfl rfl ⟨by rw [pt_ov, if_pos (by assumption)], rfl⟩
  · refine mj_div rfl rfl (i32_ne0 (by assumption)) ?_
    refine mj_if rfl rfl (fun c2 => ?_) (fun c2 => ?_)
    · refine mj_auto3 [] 80 rfl ?_
      exact mj_rt rfl rfl rfl ⟨by rw [pt_ov, if_neg (by assumption)]; exact (congrArg (fun z => some (Value.int z)) (if_pos c2)).symm, rfl⟩
    · refine mj_auto3 [] 80 rfl ?_
      exact mj_rt rfl rfl rfl ⟨by rw [pt_ov, if_neg (by assumption)]; exact (congrArg (fun z => some (Value.int z)) (if_neg c2)).symm, rfl⟩
def pt_gl (e p i least : Int32) : Nat → Int32 → Int32
  | 0, _ => least
  | n + 1, k => if pt_dl e p k ≤ least then (if pt_ov e p k = 0 then pt_dl e p k else pt_gl e p i least n (k + 1)) else if pt_dl e p k - pt_rel e p k = 3 then pt_dl e p k - 1 else if pt_ov e p k = 0 then pt_dl e p k else pt_gl e p i least n (k + 1)
def pt_gp (e p i : Int32) : Int32 := if p ≤ 2 * e then pt_gl e p i (pt_dl e p i) e.toNatClampNeg i else 0
set_option maxRecDepth 20000 in
theorem t_group_loop (h : mj_H) (e p i least : Int32) (hi : 0 ≤ i.toInt) (hi2 : i.toInt + e.toInt < 2 ^ 31) : ∀ (n : Nat) (k : Int32) (u : Option Value), k.toInt + n = i.toInt + e.toInt → i.toInt ≤ k.toInt →
    mj_Rn 1 (some .int) kX2_group (fun v g => v = some (.int (pt_gl e p i least n k)) ∧ g = h) h 19 [some (.int e), some (.int p), some (.int i), some (.int least), some (.int k), u] [] := by
  have hie : (i + e).toInt = i.toInt + e.toInt := by
    have := Int32.le_toInt e
    exact Kit.i32_add (by omega) (by omega)
  intro n
  induction n with
  | zero =>
    intro k u h1 h2
    refine mj_begin6 [19] 80 rfl ?_
    refine mj_if rfl rfl (fun c => ?_) (fun c => ?_)
    · refine mj_auto6 [19] 80 rfl ?_
      exact mj_rt rfl rfl rfl ⟨rfl, rfl⟩
    · exact absurd (Int32.le_iff_toInt_le.mpr (by omega)) c
  | succ n ih =>
    intro k u h1 h2
    have hk1 : (k + 1).toInt = k.toInt + 1 := Kit.i32_add (by have : (1 : Int32).toInt = 1 := rfl; omega) (by have : (1 : Int32).toInt = 1 := rfl; omega)
    have ih := ih (k + 1) (some (.int (pt_dl e p k))) (by omega) (by omega)
    have hlt : ¬ i + e ≤ k := fun q => by rw [Int32.le_iff_toInt_le] at q; omega
    refine mj_begin6 [19] 80 rfl ?_
    repeat' first
      | refine mj_auto6 [19] 80 rfl ?_
      | refine mj_if rfl rfl (fun c1 => ?_) (fun c1 => ?_)
      | refine mj_csB (t_release ..) rfl rfl rfl rfl rfl rfl rfl ?_
      | refine mj_csB (t_deadline ..) rfl rfl rfl rfl rfl rfl rfl ?_
      | refine mj_csB (t_overlap ..) rfl rfl rfl rfl rfl rfl rfl ?_
    all_goals first
      | exact absurd (by assumption) hlt
      | (refine mj_rt rfl rfl rfl ⟨?_, rfl⟩
         simp only [Classical.not_not] at *
         simp [pt_gl, *]
         done)
      | (rw [show pt_gl e p i least (n + 1) k = pt_gl e p i least n (k + 1) from by simp [pt_gl, *]]
         exact ih)
set_option maxRecDepth 20000 in
theorem t_group (h : mj_H) (e p i : Int32) (he : 0 ≤ e.toInt) (hi : 0 ≤ i.toInt) (hi2 : i.toInt + e.toInt < 2 ^ 31) : mj_big 2 10 [.int e, .int p, .int i] h (some (.int (pt_gp e p i))) h := by
  refine mj_ofB _ _ rfl rfl rfl ?_
  repeat' first
    | refine mj_auto6 [19] 80 rfl ?_
    | refine mj_if rfl rfl (fun c1 => ?_) (fun c1 => ?_)
    | refine mj_csB (t_release ..) rfl rfl rfl rfl rfl rfl rfl ?_
    | refine mj_csB (t_deadline ..) rfl rfl rfl rfl rfl rfl rfl ?_
    | refine mj_csB (t_overlap ..) rfl rfl rfl rfl rfl rfl rfl ?_
  · rw [pt_gp, if_pos c1]
    exact t_group_loop h e p i _ hi hi2 e.toNatClampNeg i none (by have : e.toNatClampNeg = e.toInt.toNat := rfl; omega) (by omega)
  · rw [pt_gp, if_neg c1]
    exact mj_rt rfl rfl rfl ⟨rfl, rfl⟩
