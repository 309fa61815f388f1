/-! the tables: fields lie as told, rows are copied, the classes are known, the two rows stand -/
set_option maxRecDepth 100000 in
theorem st_lay : (mj_cls.zipIdx).all (fun q => (u_ws q.1.1 q.1.2.1 q.1.2.2).all cx_w && decide (∀ k, k < q.1.2.2 → parseFieldDescriptor (q.1.2.1 k).2.2.1 = some (mj_fty q.2 k)) && decide (∀ a, a < q.1.2.2 → ∀ b, b < q.1.2.2 → a ≠ b → (q.1.2.1 a).2.1 ≠ (q.1.2.1 b).2.1)) = true := by decide +kernel
theorem ms_lay_ok : ms_lay := by
  intro ci C T N h
  have h1 : mj_cls.zipIdx[ci]? = some ((C, T, N), ci) := by
    rw [List.getElem?_zipIdx, h]
    simp
  have h2 := List.all_eq_true.mp st_lay _ (List.mem_of_getElem? h1)
  simp only [Bool.and_eq_true, decide_eq_true_eq] at h2
  exact ⟨fun w hw => cx_w_ok (List.all_eq_true.mp h2.1.1 w hw), h2.1.2, h2.2⟩
set_option maxRecDepth 100000 in
theorem ms_cpy_ok : ms_cpy := ⟨cx_w_ok (by decide +kernel), cx_w_ok (by decide +kernel), cx_w_ok (by decide +kernel)⟩
def st_n (ci : Nat) : Nat := match ci with
  | 2 => 3
  | _ => (mj_cls.getD ci ("", TX1, 0)).2.2
set_option maxRecDepth 100000 in
theorem st_inst : (mj_cls.zipIdx).all (fun q => cx_w (.instantiable q.1.1 (st_n q.2))) = true := by decide +kernel
set_option maxRecDepth 100000 in
theorem st_arr : cx_w (.arrayClass .int) = true ∧ cx_w (.arrayClass .long) = true ∧ cx_w (.arrayClass .byte) = true ∧ cx_w (.arrayClass .boolean) = true ∧ cx_w (.arrayClass .char) = true := by decide +kernel
set_option maxRecDepth 100000 in
theorem st_over : Cond.arrayOver (.object "FairSlots$World") ∈ lw_tbl := by decide +kernel
set_option maxRecDepth 100000 in
theorem st_stat : Cond.laysStatic RX1 "LEAST" "[I" ∈ lw_tbl ∧ Cond.laysStatic RX1 "MOST" "[I" ∈ lw_tbl ∧ Cond.initialized RX1 ∈ lw_tbl := by decide +kernel
theorem st_ms {args : Array Value} {s : State} (hts : ∀ w ∈ lw_tbl, w.before args s = true) : ∀ w ∈ ms_T, w.before args s = true := fun w hw => hts w (List.mem_filter.mp hw).1
theorem st_row {args : Array Value} {s : State} {ty : FieldType} (h : (Cond.arrayClass ty).before args s = true) (hn : ∀ C, ty ≠ .object C) : ∃ cA, ArrOfT s cA ty ∧ va_RA s cA ty := by
  obtain ⟨cA, kA, comp, h1, h2, h3⟩ := Cond.arrayClass_spec h
  refine ⟨cA, fun n z => ⟨(fun k h => by cases h), kA, h2, comp, h3⟩, ?_⟩
  cases ty with
  | object C => exact absurd rfl (hn C)
  | _ => exact h1
theorem st_K {args : Array Value} {s : State} (hts : ∀ w ∈ lw_tbl, w.before args s = true) : ∃ (D : va_G) (cA : Nat → ClassId), va_K D mj_cls (ms_tys cA) s ∧ va_AO "FairSlots$World" s := by
  have hm := st_ms hts
  have hk : ∀ ci : Nat, ∃ (cC : ClassId) (iS : Nat → Nat), ∀ q : vw_C, mj_cls[ci]? = some q → u_Kn s q.1 q.2.1 q.2.2 cC iS := by
    intro ci
    cases e : mj_cls[ci]? with
    | none => exact ⟨0, fun _ => 0, fun q h => by cases h⟩
    | some q =>
      obtain ⟨C, T, N⟩ := q
      have h1 : mj_cls.zipIdx[ci]? = some ((C, T, N), ci) := by
        rw [List.getElem?_zipIdx, e]
        simp
      have h2 := List.all_eq_true.mp st_inst _ (List.mem_of_getElem? h1)
      obtain ⟨cC, iS, h⟩ := u_known (C := C) (T := T) (N := N) hm (ms_lay_ok ci C T N e).1 (hm _ (cx_w_ok h2))
      exact ⟨cC, iS, fun q hq => by cases hq; exact h⟩
  have hov := hts _ st_over
  obtain ⟨a0, r0⟩ := st_row (hm _ (cx_w_ok st_arr.1)) (fun C h => by cases h)
  obtain ⟨a1, r1⟩ := st_row (hm _ (cx_w_ok st_arr.2.1)) (fun C h => by cases h)
  obtain ⟨a2, r2⟩ := st_row (hm _ (cx_w_ok st_arr.2.2.1)) (fun C h => by cases h)
  obtain ⟨a3, r3⟩ := st_row (hm _ (cx_w_ok st_arr.2.2.2.1)) (fun C h => by cases h)
  obtain ⟨a4, r4⟩ := st_row (hm _ (cx_w_ok st_arr.2.2.2.2)) (fun C h => by cases h)
  obtain ⟨comp, a5, k5, f1, f2, f3, f4, f5⟩ := Cond.arrayOver_spec hov
  refine ⟨(fun ci => (hk ci).choose, fun ci => (hk ci).choose_spec.choose), fun t => match t with | 0 => a0 | 1 => a1 | 2 => a2 | 3 => a3 | 4 => a4 | _ => a5, ⟨fun ci q hq => (hk ci).choose_spec.choose_spec q hq, fun k q hq => ?_⟩, va_AO.of hov⟩
  match k, hq with
  | 0, hq => cases hq; exact r0
  | 1, hq => cases hq; exact r1
  | 2, hq => cases hq; exact r2
  | 3, hq => cases hq; exact r3
  | 4, hq => cases hq; exact r4
  | 5, hq => cases hq; exact ⟨fun n z => ⟨(fun k h => by cases h), k5, f3, comp, f4⟩, k5, comp, f3, f4, f1, f5⟩
  | k + 6, hq => simp [ms_tys] at hq
set_option maxRecDepth 100000 in
theorem st_Z {args : Array Value} {s : State} {A : Nat → Prop} (hts : ∀ w ∈ lw_tbl, w.before args s = true) (hgv : (Jvm.Cond.and given_1 narrow_1).before args s = true) (hA : ∀ a : Nat, a < s.heap.size → ¬ A a) : ∃ t1 t2 : Nat, va_Z RX1 "LEAST" "[I" (.ref t1) A s s.heap ∧ va_Z RX1 "MOST" "[I" (.ref t2) A s s.heap ∧ va_T .int t1 5 (fun j => .int (ms_lo j)) A s s.heap ∧ va_T .int t2 5 (fun j => .int (ms_hi j)) A s s.heap := by
  have hs := flat_of_before _ hgv
  obtain ⟨t1, e1, h1⟩ := va_Tof (tm := .static RX1 "LEAST" "[I") (ty := .int) (N := 5) (f := fun j => .int (ms_lo j)) (A := A) (by decide) (hs _ (by decide +kernel)) (va_eqt (z := 5) (hs _ (by decide +kernel))) (fun j hj => by
    rcases (show j = 0 ∨ j = 1 ∨ j = 2 ∨ j = 3 ∨ j = 4 by omega) with rfl | rfl | rfl | rfl | rfl
    · exact va_eqt (z := 1) (hs _ (by decide +kernel))
    · exact va_eqt (z := 1) (hs _ (by decide +kernel))
    · exact va_eqt (z := 0) (hs _ (by decide +kernel))
    · exact va_eqt (z := 0) (hs _ (by decide +kernel))
    · exact va_eqt (z := 0) (hs _ (by decide +kernel))) hA
  obtain ⟨t2, e2, h2⟩ := va_Tof (tm := .static RX1 "MOST" "[I") (ty := .int) (N := 5) (f := fun j => .int (ms_hi j)) (A := A) (by decide) (hs _ (by decide +kernel)) (va_eqt (z := 5) (hs _ (by decide +kernel))) (fun j hj => by
    rcases (show j = 0 ∨ j = 1 ∨ j = 2 ∨ j = 3 ∨ j = 4 by omega) with rfl | rfl | rfl | rfl | rfl
    · exact va_eqt (z := 12) (hs _ (by decide +kernel))
    · exact va_eqt (z := 12) (hs _ (by decide +kernel))
    · exact va_eqt (z := 1) (hs _ (by decide +kernel))
    · exact va_eqt (z := 1) (hs _ (by decide +kernel))
    · exact va_eqt (z := 20) (hs _ (by decide +kernel))) hA
  exact ⟨t1, t2, va_Zof (hts _ st_stat.1) (hts _ st_stat.2.2) e1 hA, va_Zof (hts _ st_stat.2.1) (hts _ st_stat.2.2) e2 hA, h1, h2⟩
