/-! Math.abs, max, min are the kit's rows -/
def ms_math (k : Nat) : Prop := k = 238 ∨ k = 239 ∨ k = 240
def ms_OK2 : Prop := ∀ (k : Nat) (sg : mj_S) (cs : List mj_E), ¬ ms_math k → mj_sigs[k]? = some sg → mj_cods[k]? = some cs → ms_sig sg = true ∧ cs.all (ms_chk sg.2.2.2.2.2.2.2.2.2.2 sg.2.1) = true
theorem sx_ge {x y : Int64} : 0 ≤ lg_cmp x y ↔ y ≤ x := by
  unfold lg_cmp
  by_cases h : x > y
  · rw [if_pos h]
    exact ⟨fun _ => Int64.le_of_lt h, fun _ => by decide⟩
  · rw [if_neg h]
    by_cases e : x = y
    · rw [if_pos e]
      exact ⟨fun _ => by rw [e]; exact Int64.le_refl _, fun _ => by decide⟩
    · rw [if_neg e]
      exact ⟨fun z => absurd z (by decide), fun z => absurd (Int64.lt_of_le_of_ne z (fun y => e y.symm)) h⟩
section inv
variable {B : mj_B} {ty : Option FieldType} {cs : List mj_E} {n : Nat} {Q : Option Value → mj_H → Prop} {h : mj_H} {pc : Nat} {L : mj_L} {st : List Value} {i : Instr} {nx aux : Nat} {cv : Int32}
theorem inv_pure (hr : mj_run B ty cs n Q h pc L st) (hat : mj_at cs pc = some (i, nx, aux, cv)) (ha : mj_ask i st = none) (hd : mj_dv i st = none) (hs : mj_sw i pc st = none) (hm : ∀ st' h', ¬ mj_mem i aux st h st' h') (hc : ∀ as rest, ¬ mj_call i aux st h as rest) (hrt : ∀ v, ¬ mj_ret ty i st v) : ∃ m pc' L' st', mj_pure i nx aux cv L st = some (pc', L', st') ∧ mj_run B ty cs m Q h pc' L' st' := by
  cases n with
  | zero => exact hr.elim
  | succ m =>
    obtain ⟨i', nx', aux', cv', hat', hr⟩ := hr
    cases hat.symm.trans hat'
    rcases hr with ⟨a, b, c, e, hr⟩ | ⟨q, c, e, _⟩ | ⟨q, c, e, _⟩ | ⟨t, c, e, _⟩ | ⟨c, g, e, _⟩ | ⟨a, b, r1, g, e, _⟩ | ⟨v, e, _⟩
    · exact ⟨m, a, b, c, e, hr⟩
    · rw [ha] at e; cases e
    · rw [hd] at e; cases e
    · rw [hs] at e; cases e
    · exact absurd e (hm _ _)
    · exact absurd e (hc _ _)
    · exact absurd e (hrt _)
theorem inv_ask {q : Prop} {st' : List Value} (hr : mj_run B ty cs n Q h pc L st) (hat : mj_at cs pc = some (i, nx, aux, cv)) (hp : mj_pure i nx aux cv L st = none) (ha : mj_ask i st = some (q, st')) (hd : mj_dv i st = none) (hs : mj_sw i pc st = none) (hm : ∀ st' h', ¬ mj_mem i aux st h st' h') (hc : ∀ as rest, ¬ mj_call i aux st h as rest) (hrt : ∀ v, ¬ mj_ret ty i st v) : ∃ m, (q ∧ mj_run B ty cs m Q h aux L st') ∨ (¬ q ∧ mj_run B ty cs m Q h nx L st') := by
  cases n with
  | zero => exact hr.elim
  | succ m =>
    obtain ⟨i', nx', aux', cv', hat', hr⟩ := hr
    cases hat.symm.trans hat'
    rcases hr with ⟨a, b, c, e, hr⟩ | ⟨q, c, e, hr⟩ | ⟨q, c, e, _⟩ | ⟨t, c, e, _⟩ | ⟨c, g, e, _⟩ | ⟨a, b, r1, g, e, _⟩ | ⟨v, e, _⟩
    · rw [hp] at e; cases e
    · rw [ha] at e; cases e; exact ⟨m, hr⟩
    · rw [hd] at e; cases e
    · rw [hs] at e; cases e
    · exact absurd e (hm _ _)
    · exact absurd e (hc _ _)
    · exact absurd e (hrt _)
theorem inv_ret (hr : mj_run B ty cs n Q h pc L st) (hat : mj_at cs pc = some (i, nx, aux, cv)) (hp : mj_pure i nx aux cv L st = none) (ha : mj_ask i st = none) (hd : mj_dv i st = none) (hs : mj_sw i pc st = none) (hm : ∀ st' h', ¬ mj_mem i aux st h st' h') (hc : ∀ as rest, ¬ mj_call i aux st h as rest) : ∃ v, mj_ret ty i st v ∧ Q v h := by
  cases n with
  | zero => exact hr.elim
  | succ m =>
    obtain ⟨i', nx', aux', cv', hat', hr⟩ := hr
    cases hat.symm.trans hat'
    rcases hr with ⟨a, b, c, e, hr⟩ | ⟨q, c, e, hr⟩ | ⟨q, c, e, _⟩ | ⟨t, c, e, _⟩ | ⟨c, g, e, _⟩ | ⟨a, b, r1, g, e, _⟩ | ⟨v, e, hq⟩
    · rw [hp] at e; cases e
    · rw [ha] at e; cases e
    · rw [hd] at e; cases e
    · rw [hs] at e; cases e
    · exact absurd e (hm _ _)
    · exact absurd e (hc _ _)
    · exact ⟨v, e, hq⟩
end inv
set_option maxRecDepth 20000 in
theorem sg_max : mj_sigs[239]? = some (yJ9_max_7cf53, cJ9_max_7cf53, 2, (some .int), 2, true, 99, 716, 715, 0, RJ9) ∧ mj_cods[239]? = some kJ9_max_7cf53 := ⟨rfl, rfl⟩
set_option maxRecDepth 20000 in
theorem sg_min : mj_sigs[240]? = some (yJ9_min_7cf53, cJ9_min_7cf53, 2, (some .int), 2, true, 99, 416, 415, 0, RJ9) ∧ mj_cods[240]? = some kJ9_min_7cf53 := ⟨rfl, rfl⟩
set_option maxRecDepth 20000 in
theorem sg_abs : mj_sigs[238]? = some (yJ9_abs_067f4, cJ9_abs_067f4, 2, (some .long), 1, true, 99, 653, 652, 0, RJ9) ∧ mj_cods[238]? = some kJ9_abs_067f4 := ⟨rfl, rfl⟩
theorem inv_max {d : Nat} {as : List Value} {h g : mj_H} {r : Option Value} (hb : mj_big d 239 as h r g) (hl : as.length = 2) : ∃ x y : Int32, as = [.int x, .int y] ∧ r = some (.int (if x < y then y else x)) ∧ g = h := by
  cases d with
  | zero => exact hb.elim
  | succ d =>
    obtain ⟨sg, cs, h1, h2, h3, n, hr⟩ := hb
    cases sg_max.1.symm.trans h1
    cases sg_max.2.symm.trans h2
    match as, hl with
    | [a, b], _ =>
      obtain ⟨m, p1, L1, s1, e, hr⟩ := inv_pure hr rfl rfl rfl rfl (fun _ _ z => z) (fun _ _ ⟨_, _, _, _, _, z⟩ => z) (fun _ z => z)
      cases a <;> try (cases e; done)
      rename_i x hl2
      cases b <;> try (first | (cases (show some (1, _, [Value.int x]) = some (p1, L1, s1) from e); obtain ⟨m, p1, L1, s1, e, hr⟩ := inv_pure hr rfl rfl rfl rfl (fun _ _ z => z) (fun _ _ ⟨_, _, _, _, _, z⟩ => z) (fun _ z => z); cases e; done))
      rename_i y
      refine ⟨x, y, rfl, ?_⟩
      cases (show some (1, [some (Value.int x), some (Value.int y)], [Value.int x]) = some (p1, L1, s1) from e)
      obtain ⟨m, p1, L1, s1, e, hr⟩ := inv_pure hr rfl rfl rfl rfl (fun _ _ z => z) (fun _ _ ⟨_, _, _, _, _, z⟩ => z) (fun _ z => z)
      cases (show some (2, [some (Value.int x), some (Value.int y)], [Value.int y, Value.int x]) = some (p1, L1, s1) from e)
      obtain ⟨m, ⟨hq, hr⟩ | ⟨hq, hr⟩⟩ := inv_ask hr rfl rfl rfl rfl rfl (fun _ _ z => z) (fun _ _ ⟨_, _, _, _, _, z⟩ => z) (fun _ z => z)
      · obtain ⟨m, p1, L1, s1, e, hr⟩ := inv_pure hr rfl rfl rfl rfl (fun _ _ z => z) (fun _ _ ⟨_, _, _, _, _, z⟩ => z) (fun _ z => z)
        cases (show some (10, [some (Value.int x), some (Value.int y)], [Value.int y]) = some (p1, L1, s1) from e)
        obtain ⟨v, ⟨z, t, e1, e2, _⟩, e3, e4⟩ := inv_ret hr rfl rfl rfl rfl rfl (fun _ _ z => z) (fun _ _ ⟨_, _, _, _, _, z⟩ => z)
        cases e1
        rw [if_pos hq]
        exact ⟨e3.symm.trans e2, e4.symm⟩
      · obtain ⟨m, p1, L1, s1, e, hr⟩ := inv_pure hr rfl rfl rfl rfl (fun _ _ z => z) (fun _ _ ⟨_, _, _, _, _, z⟩ => z) (fun _ z => z)
        cases (show some (6, [some (Value.int x), some (Value.int y)], [Value.int x]) = some (p1, L1, s1) from e)
        obtain ⟨m, p1, L1, s1, e, hr⟩ := inv_pure hr rfl rfl rfl rfl (fun _ _ z => z) (fun _ _ ⟨_, _, _, _, _, z⟩ => z) (fun _ z => z)
        cases (show some (10, [some (Value.int x), some (Value.int y)], [Value.int x]) = some (p1, L1, s1) from e)
        obtain ⟨v, ⟨z, t, e1, e2, _⟩, e3, e4⟩ := inv_ret hr rfl rfl rfl rfl rfl (fun _ _ z => z) (fun _ _ ⟨_, _, _, _, _, z⟩ => z)
        cases e1
        rw [if_neg hq]
        exact ⟨e3.symm.trans e2, e4.symm⟩
theorem inv_min {d : Nat} {as : List Value} {h g : mj_H} {r : Option Value} (hb : mj_big d 240 as h r g) (hl : as.length = 2) : ∃ x y : Int32, as = [.int x, .int y] ∧ r = some (.int (if y < x then y else x)) ∧ g = h := by
  cases d with
  | zero => exact hb.elim
  | succ d =>
    obtain ⟨sg, cs, h1, h2, h3, n, hr⟩ := hb
    cases sg_min.1.symm.trans h1
    cases sg_min.2.symm.trans h2
    match as, hl with
    | [a, b], _ =>
      obtain ⟨m, p1, L1, s1, e, hr⟩ := inv_pure hr rfl rfl rfl rfl (fun _ _ z => z) (fun _ _ ⟨_, _, _, _, _, z⟩ => z) (fun _ z => z)
      cases a <;> try (cases e; done)
      rename_i x hl2
      cases b <;> try (first | (cases (show some (1, _, [Value.int x]) = some (p1, L1, s1) from e); obtain ⟨m, p1, L1, s1, e, hr⟩ := inv_pure hr rfl rfl rfl rfl (fun _ _ z => z) (fun _ _ ⟨_, _, _, _, _, z⟩ => z) (fun _ z => z); cases e; done))
      rename_i y
      refine ⟨x, y, rfl, ?_⟩
      cases (show some (1, [some (Value.int x), some (Value.int y)], [Value.int x]) = some (p1, L1, s1) from e)
      obtain ⟨m, p1, L1, s1, e, hr⟩ := inv_pure hr rfl rfl rfl rfl (fun _ _ z => z) (fun _ _ ⟨_, _, _, _, _, z⟩ => z) (fun _ z => z)
      cases (show some (2, [some (Value.int x), some (Value.int y)], [Value.int y, Value.int x]) = some (p1, L1, s1) from e)
      obtain ⟨m, ⟨hq, hr⟩ | ⟨hq, hr⟩⟩ := inv_ask hr rfl rfl rfl rfl rfl (fun _ _ z => z) (fun _ _ ⟨_, _, _, _, _, z⟩ => z) (fun _ z => z)
      · obtain ⟨m, p1, L1, s1, e, hr⟩ := inv_pure hr rfl rfl rfl rfl (fun _ _ z => z) (fun _ _ ⟨_, _, _, _, _, z⟩ => z) (fun _ z => z)
        cases (show some (10, [some (Value.int x), some (Value.int y)], [Value.int y]) = some (p1, L1, s1) from e)
        obtain ⟨v, ⟨z, t, e1, e2, _⟩, e3, e4⟩ := inv_ret hr rfl rfl rfl rfl rfl (fun _ _ z => z) (fun _ _ ⟨_, _, _, _, _, z⟩ => z)
        cases e1
        rw [if_pos hq]
        exact ⟨e3.symm.trans e2, e4.symm⟩
      · obtain ⟨m, p1, L1, s1, e, hr⟩ := inv_pure hr rfl rfl rfl rfl (fun _ _ z => z) (fun _ _ ⟨_, _, _, _, _, z⟩ => z) (fun _ z => z)
        cases (show some (6, [some (Value.int x), some (Value.int y)], [Value.int x]) = some (p1, L1, s1) from e)
        obtain ⟨m, p1, L1, s1, e, hr⟩ := inv_pure hr rfl rfl rfl rfl (fun _ _ z => z) (fun _ _ ⟨_, _, _, _, _, z⟩ => z) (fun _ z => z)
        cases (show some (10, [some (Value.int x), some (Value.int y)], [Value.int x]) = some (p1, L1, s1) from e)
        obtain ⟨v, ⟨z, t, e1, e2, _⟩, e3, e4⟩ := inv_ret hr rfl rfl rfl rfl rfl (fun _ _ z => z) (fun _ _ ⟨_, _, _, _, _, z⟩ => z)
        cases e1
        rw [if_neg hq]
        exact ⟨e3.symm.trans e2, e4.symm⟩
theorem inv_abs {d : Nat} {as : List Value} {h g : mj_H} {r : Option Value} (hb : mj_big d 238 as h r g) (hl : as.length = 1) : ∃ x : Int64, as = [.long x] ∧ r = some (.long (if 0 < x then x else -x)) ∧ g = h := by
  cases d with
  | zero => exact hb.elim
  | succ d =>
    obtain ⟨sg, cs, h1, h2, h3, n, hr⟩ := hb
    cases sg_abs.1.symm.trans h1
    cases sg_abs.2.symm.trans h2
    match as, hl with
    | [a], _ =>
      obtain ⟨m, p1, L1, s1, e, hr⟩ := inv_pure hr rfl rfl rfl rfl (fun _ _ z => z) (fun _ _ ⟨_, _, _, _, _, z⟩ => z) (fun _ z => z)
      cases a <;> try (cases e; done)
      rename_i x hl2
      refine ⟨x, rfl, ?_⟩
      cases (show some (1, [some (Value.long x), none], [Value.long x]) = some (p1, L1, s1) from e)
      obtain ⟨m, p1, L1, s1, e, hr⟩ := inv_pure hr rfl rfl rfl rfl (fun _ _ z => z) (fun _ _ ⟨_, _, _, _, _, z⟩ => z) (fun _ z => z)
      cases (show some (2, [some (Value.long x), none], [Value.long 0, Value.long x]) = some (p1, L1, s1) from e)
      obtain ⟨m, p1, L1, s1, e, hr⟩ := inv_pure hr rfl rfl rfl rfl (fun _ _ z => z) (fun _ _ ⟨_, _, _, _, _, z⟩ => z) (fun _ z => z)
      cases (show some (3, [some (Value.long x), none], [Value.int (lg_cmp x 0)]) = some (p1, L1, s1) from e)
      obtain ⟨m, ⟨hq, hr⟩ | ⟨hq, hr⟩⟩ := inv_ask hr rfl rfl rfl rfl rfl (fun _ _ z => z) (fun _ _ ⟨_, _, _, _, _, z⟩ => z) (fun _ z => z)
      · obtain ⟨m, p1, L1, s1, e, hr⟩ := inv_pure hr rfl rfl rfl rfl (fun _ _ z => z) (fun _ _ ⟨_, _, _, _, _, z⟩ => z) (fun _ z => z)
        cases (show some (12, [some (Value.long x), none], [Value.long x]) = some (p1, L1, s1) from e)
        obtain ⟨v, ⟨z, e1, e2, _⟩, e3, e4⟩ := inv_ret hr rfl rfl rfl rfl rfl (fun _ _ z => z) (fun _ _ ⟨_, _, _, _, _, z⟩ => z)
        cases e1
        refine ⟨?_, e4.symm⟩
        rw [← e3, e2]
        by_cases z : 0 < x
        · rw [if_pos z]
        · have : x = 0 := Int64.le_antisymm (Int64.not_lt.mp z) (sx_ge.mp hq)
          rw [if_neg z, this]
          rfl
      · obtain ⟨m, p1, L1, s1, e, hr⟩ := inv_pure hr rfl rfl rfl rfl (fun _ _ z => z) (fun _ _ ⟨_, _, _, _, _, z⟩ => z) (fun _ z => z)
        cases (show some (7, [some (Value.long x), none], [Value.long x]) = some (p1, L1, s1) from e)
        obtain ⟨m, p1, L1, s1, e, hr⟩ := inv_pure hr rfl rfl rfl rfl (fun _ _ z => z) (fun _ _ ⟨_, _, _, _, _, z⟩ => z) (fun _ z => z)
        cases (show some (8, [some (Value.long x), none], [Value.long (-x)]) = some (p1, L1, s1) from e)
        obtain ⟨m, p1, L1, s1, e, hr⟩ := inv_pure hr rfl rfl rfl rfl (fun _ _ z => z) (fun _ _ ⟨_, _, _, _, _, z⟩ => z) (fun _ z => z)
        cases (show some (12, [some (Value.long x), none], [Value.long (-x)]) = some (p1, L1, s1) from e)
        obtain ⟨v, ⟨z, e1, e2, _⟩, e3, e4⟩ := inv_ret hr rfl rfl rfl rfl rfl (fun _ _ z => z) (fun _ _ ⟨_, _, _, _, _, z⟩ => z)
        cases e1
        refine ⟨?_, e4.symm⟩
        rw [← e3, e2, if_neg (fun z => hq (sx_ge.mpr (Int64.le_of_lt z)))]
set_option maxRecDepth 100000 in
theorem mw_max : Cond.static yJ9_max_7cf53 ∈ ms_T ∧ Cond.code yJ9_max_7cf53 cJ9_max_7cf53 2 (some .int) ∈ ms_T := ⟨ms_in_ok (wi := 715) (by decide +kernel), ms_in_ok (wi := 716) (by decide +kernel)⟩
set_option maxRecDepth 100000 in
theorem mw_min : Cond.static yJ9_min_7cf53 ∈ ms_T ∧ Cond.code yJ9_min_7cf53 cJ9_min_7cf53 2 (some .int) ∈ ms_T := ⟨ms_in_ok (wi := 415) (by decide +kernel), ms_in_ok (wi := 416) (by decide +kernel)⟩
set_option maxRecDepth 100000 in
theorem mw_abs : Cond.static yJ9_abs_067f4 ∈ ms_T ∧ Cond.code yJ9_abs_067f4 cJ9_abs_067f4 2 (some .long) ∈ ms_T := ⟨ms_in_ok (wi := 652) (by decide +kernel), ms_in_ok (wi := 653) (by decide +kernel)⟩
set_option maxRecDepth 100000 in
theorem mw_ini : Cond.initialized "java/lang/Math" ∈ ms_T := List.mem_filter.mpr ⟨by decide +kernel, by decide +kernel⟩
section msMath
variable {p : Program} {l : Launch} {e : Env} {R : Room} {s : State} {m : MethodId} {args : Array Value} {below : List Frame} {meth : Method} {c : Code} {H : Heap} {locs : List Loc} {cells slots : Nat} {Q : State → Prop}
variable {own : String} {bs : ByteArray} {pc nx aux wi nL : Nat} {i : Instr} {cv : Int32} {L : mj_L} {st : List Value} {ad : Nat → Nat} {ls : Array Slot} {D : va_G} {cA : Nat → ClassId} {N : Nat} {A : Nat → Prop} {h h' : mj_H}
theorem ms2_mathW {d : Nat} {as rest : List Value} {r : Option Value} (hc : ms_chk own bs (pc, i, nx, aux, cv, wi) = true) (hca : mj_call i aux st h as rest) (hm : ms_math aux) (hB : mj_big d aux as h r h')
    (hx : p.tables.exec = Jvm.exec) (hb : c.code = bs) (hown : s.vm.findClass own = some m.cls) (hts : ∀ w ∈ ms_T, w.before args s = true) (hml : c.maxLocals = nL) (hls : ls.size = nL) (hfr : 1 ≤ R.frames) (hlo : 21 ≤ R.locals) (hcl : 0 ≤ R.cells) (hsl : 0 ≤ R.slots)
    (k : h' = h → W p l e R s m args below meth c H locs 0 0 Q (F0 m nx ls ((r.toList ++ rest).map (ms_v ad)))) : W p l e R s m args below meth c H locs 0 0 Q (F0 m pc ls (st.map (ms_v ad))) := by
  obtain ⟨hd, hn⟩ := ms_split hc
  obtain ⟨sg, hsg, hst, hlen, hrest, hkind⟩ := hca
  have hrr : ((rest.map (ms_v ad)).map fun v => v.category).sum + 13 ≤ R.locals := by rw [ms_cats]; omega
  cases i
  case invokestatic ix =>
    simp only [ms_chk, Bool.and_eq_true, ms_mlink] at hc
    obtain ⟨-, hc⟩ := hc
    split at hc
    next e9 =>
      exfalso
      have e9 := Nat.eq_of_beq_eq_true e9
      subst e9
      rcases hm with hm | hm | hm <;> omega
    next =>
      rw [hsg] at hc
      have hlink := ms_in_ok hc
      rcases hm with rfl | rfl | rfl
      · cases sg_abs.1.symm.trans hsg
        obtain ⟨x, rfl, rfl, eg⟩ := inv_abs hB hlen
        have kk := k eg
        rw [show nx = pc + 3 from hn] at kk
        subst hst
        exact va_mabs_long hx hb (by rw [hml, hls]) hown (hts _ hlink) (hts _ mw_abs.1) (hts _ mw_ini) (hts _ mw_abs.2) hfr hrr hcl hsl hd kk
      · cases sg_max.1.symm.trans hsg
        obtain ⟨x, y, rfl, rfl, eg⟩ := inv_max hB hlen
        have kk := k eg
        rw [show nx = pc + 3 from hn] at kk
        subst hst
        exact va_mmax hx hb (by rw [hml, hls]) hown (hts _ hlink) (hts _ mw_max.1) (hts _ mw_ini) (hts _ mw_max.2) hfr hrr hcl hsl hd kk
      · cases sg_min.1.symm.trans hsg
        obtain ⟨x, y, rfl, rfl, eg⟩ := inv_min hB hlen
        have kk := k eg
        rw [show nx = pc + 3 from hn] at kk
        subst hst
        exact va_mmin hx hb (by rw [hml, hls]) hown (hts _ hlink) (hts _ mw_min.1) (hts _ mw_ini) (hts _ mw_min.2) hfr hrr hcl hsl hd kk
  case invokevirtual ix =>
    exfalso
    have hk := hkind.1
    rcases hm with rfl | rfl | rfl
    · cases sg_abs.1.symm.trans hsg; cases hk
    · cases sg_max.1.symm.trans hsg; cases hk
    · cases sg_min.1.symm.trans hsg; cases hk
  all_goals (exact hkind.elim)
end msMath
section msCall2
variable {p : Program} {l : Launch} {e : Env} {R : Room} {s : State} {m : MethodId} {args : Array Value} {below : List Frame} {meth : Method} {c : Code} {H : Heap} {locs : List Loc} {cells slots : Nat} {Q : State → Prop}
variable {own : String} {bs : ByteArray} {pc nx aux wi nL : Nat} {i : Instr} {cv : Int32} {L : mj_L} {st : List Value} {ad : Nat → Nat} {ls : Array Slot} {D : va_G} {cA : Nat → ClassId} {N : Nat} {A : Nat → Prop} {h h' : mj_H}
theorem ms2_callW {d : Nat} {as rest : List Value} {r : Option Value} (hOK : ∀ (sg : mj_S) (cs : List mj_E), mj_sigs[aux]? = some sg → mj_cods[aux]? = some cs → ms_sig sg = true) (hc : ms_chk own bs (pc, i, nx, aux, cv, wi) = true) (hca : mj_call i aux st h as rest)
    (hM : ∀ (sg : mj_S), mj_sigs[aux]? = some sg → ∀ sz, Met l sg.1 (ms_ws sg) (ms_room d) (ms_Pc D cA ad N sz as h) (ms_Qc D cA ad N sz h r h') 0 0 (va_A (ms_cells ad cA N h) sz))
    (hx : p.tables.exec = Jvm.exec) (hb : c.code = bs) (hown : s.vm.findClass own = some m.cls) (hts : ∀ w ∈ ms_T, w.before args s = true) (hml : c.maxLocals = nL) (hls : ls.size = nL) (hfr : d + 1 ≤ R.frames) (hlo : 60 * (d + 1) ≤ R.locals)
    (hA : ∀ q : Nat, s.heap.size ≤ q → A q) (hK : va_K D mj_cls (ms_tys cA) s) (hZ : ms_Z ad A s) (hR : ms_Rel D cA ad N A s.heap h H locs) (hw' : ms_wf N h') (hcell : 0 ≤ R.cells ∧ 0 ≤ R.slots)
    (hcs : ∃ cs, mj_cods[aux]? = some cs)
    (k : ∀ (H1 : Heap) (locs1 : List Loc), ms_Rel D cA ad N A s.heap h' H1 locs1 → W p l e R s m args below meth c H1 locs1 0 0 Q (F0 m nx ls ((r.toList ++ rest).map (ms_v ad)))) : W p l e R s m args below meth c H locs 0 0 Q (F0 m pc ls (st.map (ms_v ad))) := by
  obtain ⟨hd, hn⟩ := ms_split hc
  obtain ⟨hP, hD, hS, hW⟩ := hR
  obtain ⟨sg, hsg, hst, hlen, hrest, hkind⟩ := hca
  obtain ⟨cs, hcs⟩ := hcs
  have hS0 := hOK sg cs hsg hcs
  have hFc : ∀ q, va_A (ms_cells ad cA N h) H.size q → A q := by
    intro q hq
    rcases hq with ⟨j, e1, hq⟩ | hq
    · exact hD.2 j _ hq
    · exact hA q (Nat.le_trans hS.1 hq)
  have hrr : 2 * (F0 m pc ls (st.map (ms_v ad))).monitorRoom + ((rest.map (ms_v ad)).map fun v => v.category).sum ≤ 8 := lv_room (by rw [ms_cats]; exact hrest)
  simp only [ms_sig, Bool.and_eq_true, decide_eq_true_eq] at hS0
  obtain ⟨⟨⟨⟨⟨⟨⟨⟨z1, z2⟩, z3⟩, z4⟩, z5⟩, z6⟩, z7⟩, z8⟩, z9⟩ := hS0
  have hcode : Cond.code sg.1 sg.2.1 sg.2.2.1 sg.2.2.2.1 ∈ ms_T := ms_in_ok z1
  have hini : Cond.initialized sg.1.cls ∈ ms_T := List.mem_filter.mpr ⟨z7, z8⟩
  have hmL := Nat.le_of_ble_eq_true z6
  have hgood : GoodIn ms_T (ms_ws sg) := by
    intro w hw
    rcases List.mem_cons.mp hw with rfl | hw
    · exact ms_T_good _ hcode
    · exact ms_T_good _ hw
  have hroom : (ms_room d).frames + 1 ≤ R.frames ∧ 8 + (sg.2.2.1 + 11) + (ms_room d).locals ≤ R.locals := by
    refine ⟨hfr, ?_⟩
    show 8 + (sg.2.2.1 + 11) + 60 * d ≤ R.locals
    omega
  have hfin : va_Run p l e R s m args below meth c H locs 0 0 0 0 (F0 m pc ls (st.map (ms_v ad))) (rest.map (ms_v ad)) (ms_Qc D cA ad N H.size h r h' ((as.map (ms_v ad)).toArray)) (va_A (ms_cells ad cA N h) H.size) := by
    cases i
    case invokestatic ix =>
      simp only [hkind, Bool.and_eq_true, decide_eq_true_eq] at z9
      simp only [ms_chk, Bool.and_eq_true, ms_mlink] at hc
      obtain ⟨-, hc⟩ := hc
      split at hc
      next e9 =>
        exfalso
        have e9 := Nat.eq_of_beq_eq_true e9
        subst e9
        have := mj_sigs_len
        have h9 := (List.getElem?_eq_some_iff.mp hsg).1
        omega
      next =>
        rw [hsg] at hc
        have hlink := ms_in_ok hc
        refine va_runS (As := as.map (ms_v ad)) (Ts := ms_T) ⟨hx, hb, hml, hown, hts⟩ (hM sg hsg H.size) ⟨callB_of sg.2.2.2.2.1 hts hgood rfl rfl rfl (hts _ hini) (hts _ hlink) ⟨z4, z5, z9.2⟩ hroom, hts _ (ms_in_ok z9.1)⟩ ⟨ms_blind, fun U hU hWU => ⟨rfl, by rw [hU], ⟨by rw [hU]; exact hP, va_K.moved hWU.alike hK, hD.weaken (fun _ _ _ _ => trivial)⟩, hZ.at hS.2.1 hFc hWU.alike hU⟩⟩ rfl (by simpa using hlen) hls ?_ hrr hd ⟨by simpa using hcell.1, by simpa using hcell.2⟩
        show st.map (ms_v ad) = _
        rw [hst, List.map_append, List.map_reverse]
    case invokevirtual ix =>
      obtain ⟨hkind, b, bs', fs, rfl, hbc⟩ := hkind
      simp only [hkind, Bool.and_eq_true, decide_eq_true_eq] at z9
      simp only [ms_chk, Bool.and_eq_true, ms_mlink] at hc
      obtain ⟨-, hc⟩ := hc
      split at hc
      next e9 =>
        exfalso
        have e9 := Nat.eq_of_beq_eq_true e9
        subst e9
        have := mj_sigs_len
        have h9 := (List.getElem?_eq_some_iff.mp hsg).1
        omega
      next =>
        rw [hsg] at hc
        have hlink := ms_in_ok hc
        obtain ⟨⟨⟨y1, y2⟩, y3⟩, y4⟩ := z9
        split at y4
        next q hq =>
          have y4 := of_decide_eq_true y4
          have hlt : ms_re N b := hW.lt hbc ⟨(fun z => by
            simp only [Sum.inr.injEq, Prod.mk.injEq] at z
            rw [z.1] at hq
            cases hq), (fun z => by
            simp only [Sum.inr.injEq, Prod.mk.injEq] at z
            rw [z.1] at hq
            cases hq)⟩ rfl
          have he := ms_cells_at (ad := ad) (cA := cA) (h := h) hW.1 hlt
          rw [hbc] at he
          have hrv := va_recv hK hP hq he
          rw [y4] at hrv
          have hlen2 : bs'.length + 1 = sg.2.2.2.2.1 := by simpa using hlen
          have y3' : (parseMethodDescriptor sg.1.desc).map (fun d => d.parameters.length) = some bs'.length := by
            cases hz : parseMethodDescriptor sg.1.desc with
            | none => rw [hz] at y3; cases y3
            | some x =>
              rw [hz] at y3
              simp only [Option.map_some, Option.some.injEq] at y3 ⊢
              omega
          refine va_runV (As := bs'.map (ms_v ad)) (Ts := ms_T) ⟨hx, hb, hml, hown, hts⟩ (hM sg hsg H.size) ⟨callB_of bs'.length hts hgood rfl rfl rfl (hts _ hini) (hts _ hlink) ⟨z4, z5, y3'⟩ hroom, hts _ (ms_in_ok y1), hts _ (ms_in_ok y2)⟩ ⟨ms_blind, hrv, fun U hU hWU => ⟨rfl, by rw [hU], ⟨by rw [hU]; exact hP, va_K.moved hWU.alike hK, hD.weaken (fun _ _ _ _ => trivial)⟩, hZ.at hS.2.1 hFc hWU.alike hU⟩⟩ rfl (by simp) hls ?_ hrr hd ⟨by simpa using hcell.1, by simpa using hcell.2⟩
          show st.map (ms_v ad) = _
          rw [hst, List.map_append, List.reverse_cons, List.map_append, List.map_reverse, List.append_assoc]
          rfl
        next => cases y4
    all_goals (exact hkind.elim)
  have hnx : nx = pc + 3 := by
    cases i
    case invokestatic ix => exact hn
    case invokevirtual ix => exact hn
    all_goals (exact hkind.elim)
  refine ms_goes hfin hS (fun q _ z => hFc q z) hFc (fun t H1 locs1 ht hvm hBt hS1 => ?_)
  obtain ⟨hP1, hK1, hD1⟩ := hBt
  rw [ht] at hP1
  have hk := k H1 locs1 ⟨hP1, hD1.weaken (fun _ q _ z => hFc q.1 z), hS1, hw'⟩
  rw [hnx, List.map_append] at hk
  cases r with
  | none => exact hk
  | some x => exact hk
end msCall2
/-- the small machine's runs are runs of the machine -/
theorem ms2_runW (hOK : ms_OK2) (hLay : ms_lay) (hCp : ms_cpy) {d : Nat} {l : Launch} {D : va_G} {cA : Nat → ClassId} {ad : Nat → Nat} {N : Nat}
    (ih : ∀ (k : Nat) (as : List Value) (h : mj_H) (r : Option Value) (h' : mj_H), mj_big d k as h r h' → ms_wf N h → ¬ ms_math k → ∀ (sg : mj_S), mj_sigs[k]? = some sg → ∀ sz, Met l sg.1 (ms_ws sg) (ms_room d) (ms_Pc D cA ad N sz as h) (ms_Qc D cA ad N sz h r h') 0 0 (va_A (ms_cells ad cA N h) sz))
    {p : Program} {e : Env} {s : State} {m : MethodId} {args : Array Value} {below : List Frame} {meth : Method} {c : Code} {own : String} {bs : ByteArray} {nL : Nat} {A : Nat → Prop} {ty : Option FieldType} {cs : List mj_E} {r : Option Value} {h' : mj_H} {free : Addr → Prop} {Qc : Array Value → State → Outcome → State → Prop}
    (hch : cs.all (ms_chk own bs) = true) (hx : p.tables.exec = Jvm.exec) (hb : c.code = bs) (hret : meth.sig.returnType = ty) (hlocks : meth.locks = false) (hown : s.vm.findClass own = some m.cls) (hts : ∀ w ∈ ms_T, w.before args s = true) (hml : c.maxLocals = nL)
    (hA : ∀ q : Nat, s.heap.size ≤ q → A q) (hfree : ∀ q, A q → free q) (hK : va_K D mj_cls (ms_tys cA) s) (hZ : ms_Z ad A s)
    (hQ : ∀ (H : Heap) (locs : List Loc) (t : State), ms_Rel D cA ad N A s.heap h' H locs → t.heap = H → s.WarmedH t.vm → Qc args s (.returned (r.map (ms_v ad))) t) :
    ∀ (n : Nat) (h : mj_H) (pc : Nat) (L : mj_L) (st : List Value) (H : Heap) (locs : List Loc) (ls : Array Slot), mj_run (mj_big d) ty cs n (fun v g => v = r ∧ g = h') h pc L st → ms_Rel D cA ad N A s.heap h H locs → ms_L ad nL L ls →
      W p l e (ms_room (d + 1)) s m args below meth c H locs 0 0 (MQ below Qc args s 0 0 free) (F0 m pc ls (st.map (ms_v ad))) := by
  intro n
  induction n with
  | zero => intro h pc L st H locs ls hr; exact hr.elim
  | succ n ihn =>
    intro h pc L st H locs ls hr hR hl
    obtain ⟨i, nx, aux, cv, hat, hr⟩ := hr
    obtain ⟨wi, hc⟩ := mj_at_in hch hat
    rcases hr with ⟨a, b, st', e1, hr⟩ | ⟨q, st', e1, hr⟩ | ⟨q, st', e1, hq, hr⟩ | ⟨t, st', e1, hr⟩ | ⟨st', g, e1, hr⟩ | ⟨as, rest, r1, g, e1, hB1, hr⟩ | ⟨v, e1, hv, hg⟩
    · exact ms_pureW hc e1 hx hb hown hts hl (fun ls' hl' => ihn _ _ _ _ _ _ _ hr hR hl')
    · refine ms_askW hc e1 hx hb (fun hq => ?_) (fun hq => ?_)
      · rcases hr with ⟨hq', hr⟩ | ⟨hq', hr⟩
        · exact ihn _ _ _ _ _ _ _ hr hR hl
        · exact absurd hq hq'
      · rcases hr with ⟨hq', hr⟩ | ⟨hq', hr⟩
        · exact absurd hq' hq
        · exact ihn _ _ _ _ _ _ _ hr hR hl
    · exact ms_dvW hc e1 hq hx hb (ihn _ _ _ _ _ _ _ hr hR hl)
    · exact ms_swW hc e1 hx hb (ihn _ _ _ _ _ _ _ hr hR hl)
    · refine ms_memW hc e1 hLay hCp hx hb hown hts (by rw [hml, hl.2.1]) ?_ ?_ hK hZ rfl hR (fun H1 locs1 hR1 => ihn _ _ _ _ _ _ _ hr hR1 hl)
      · show 1 ≤ d + 1
        omega
      · show 60 ≤ 60 * (d + 1)
        omega
    · have hw' := mj_big_wf d aux as h r1 g hR.2.2.2 hB1
      have hcs : ∃ cs, mj_cods[aux]? = some cs := by
        cases d with
        | zero => exact hB1.elim
        | succ d =>
          obtain ⟨sg, cs2, -, h2, -⟩ := hB1
          exact ⟨cs2, h2⟩
      by_cases hm : ms_math aux
      · exact ms2_mathW hc e1 hm hB1 hx hb hown hts hml hl.2.1 (by show 1 ≤ d + 1; omega) (by show 21 ≤ 60 * (d + 1); omega) (Nat.le_refl _) (Nat.le_refl _) (fun eg => ihn _ _ _ _ _ _ _ hr (by rw [eg]; exact hR) hl)
      · exact ms2_callW (fun sg cs h1 h2 => (hOK aux sg cs hm h1 h2).1) hc e1 (fun sg hsg sz => ih aux as h r1 g hB1 hR.2.2.2 hm sg hsg sz) hx hb hown hts hml hl.2.1 (Nat.le_refl _) (Nat.le_refl _) hA hK hZ hR hw' ⟨Nat.zero_le _, Nat.zero_le _⟩ hcs (fun H1 locs1 hR1 => ihn _ _ _ _ _ _ _ hr hR1 hl)
    · obtain ⟨hd, hn⟩ := ms_split hc
      subst hv
      subst hg
      have hfr : ∀ q ∈ locs, free q.base := fun q hq => hfree _ (hR.2.2.1.2.2 q hq)
      cases i
      case ireturn =>
        obtain ⟨x, t, rfl, rfl, ht, hn2⟩ := e1
        exact W.zret hx hb (hret.trans ht) hn2 (fun t2 h2 hW2 => hQ H locs t2 hR h2 hW2) hfr hd hlocks
      case lreturn =>
        obtain ⟨x, rfl, rfl, ht⟩ := e1
        exact W.lret hx hb (hret.trans ht) (fun t2 h2 hW2 => hQ H locs t2 hR h2 hW2) hfr hd hlocks
      case return_ =>
        obtain ⟨rfl, rfl, ht⟩ := e1
        exact W.vret hx hb (hret.trans ht) (fun t2 h2 hW2 => hQ H locs t2 hR h2 hW2) hfr hd hlocks
      all_goals (exact e1.elim)
/-- a contract of the small machine is one of the machine, at any addresses -/
theorem ms2_sound (hOK : ms_OK2) (hLay : ms_lay) (hCp : ms_cpy) {l : Launch} {D : va_G} {cA : Nat → ClassId} {ad : Nat → Nat} {N : Nat} : ∀ (d k : Nat) (as : List Value) (h : mj_H) (r : Option Value) (h' : mj_H), mj_big d k as h r h' → ms_wf N h → ¬ ms_math k → ∀ (sg : mj_S), mj_sigs[k]? = some sg → ∀ sz, Met l sg.1 (ms_ws sg) (ms_room d) (ms_Pc D cA ad N sz as h) (ms_Qc D cA ad N sz h r h') 0 0 (va_A (ms_cells ad cA N h) sz) := by
  intro d
  induction d with
  | zero => intro k as h r h' q; exact q.elim
  | succ d ih =>
    intro k as h r h' q hw hm sg hsg sz
    obtain ⟨sg', cs, h1, h2, h3, n, h4⟩ := q
    cases hsg.symm.trans h1
    obtain ⟨hsig, hch⟩ := hOK k sg cs hm h1 h2
    simp only [ms_sig, Bool.and_eq_true, decide_eq_true_eq] at hsig
    obtain ⟨⟨⟨⟨⟨⟨⟨⟨z1, z2⟩, z3⟩, z4⟩, z5⟩, z6⟩, z7⟩, z8⟩, z9⟩ := hsig
    refine Met.ofW (cc := sg.2.1) (maxL := sg.2.2.1) (ret := sg.2.2.2.1) z3 rfl ?_
    intro p e s m args below meth c s₁ B hml hv
    obtain ⟨rfl, hsz, ⟨hP, hK, hD0⟩, hZ⟩ := hv
    have hts0 := atoms_spec (ws := ms_ws sg) B.pre
    have hts : ∀ w ∈ ms_T, w.before (as.map (ms_v ad)).toArray s = true := fun w hw => hts0 w (List.mem_cons_of_mem _ hw)
    have hown : s.vm.findClass sg.2.2.2.2.2.2.2.2.2.2 = some m.cls := by rw [z2]; exact findClass_of_methodNamed B.named
    subst hsz
    have hD := hD0.self (sz := s.heap.size)
    rw [lg_entry_eq]
    refine ms2_runW (r := r) (h' := h') (Qc := ms_Qc D cA ad N s.heap.size h r h') (free := va_A (ms_cells ad cA N h) s.heap.size) hOK hLay hCp ih hch B.exec B.bytes B.returns B.notSynchronized hown hts hml (A := va_A (ms_cells ad cA N h) s.heap.size) (fun q hq => Or.inr hq) (fun q hq => hq) hK hZ ?_ n h 0 (mj_ent as sg.2.2.1) [] s.heap [] _ h4 ⟨hP, hD, va_S.rf, hw⟩ (ms_L_entry h3)
    intro H locs t hR ht hWt
    obtain ⟨hP1, hD1, hS1, hw1⟩ := hR
    exact ⟨⟨rfl, by rw [ht]; exact hP1, va_K.moved hWt.alike hK, hD1⟩, hS1.F ht⟩
