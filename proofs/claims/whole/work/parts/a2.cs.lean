/-! the constructors' machine is the machine -/
abbrev cx_ad (b0 : Nat) : Nat → Nat := fun j => b0 + j
abbrev cx_A (b0 : Nat) : Nat → Prop := fun q => b0 ≤ q
def cx_W (b0 : Nat) (cA : Nat → ClassId) (cs : List cX) : va_W := cs.mapIdx fun i c => (b0 + i, ms_c (cx_ad b0) cA (cx_c c))
section cxW
variable {b0 i : Nat} {cA : Nat → ClassId} {cs : List cX} {c : cX} {D : va_G} {cl : List vw_C} {H : Heap}
theorem cx_W_at (h : cs[i]? = some c) : (cx_W b0 cA cs)[i]? = some (b0 + i, ms_c (cx_ad b0) cA (cx_c c)) := by
  unfold cx_W
  rw [List.getElem?_mapIdx, h]
  rfl
theorem cx_W_inv {q : Nat × va_E} (h : (cx_W b0 cA cs)[i]? = some q) : i < cs.length ∧ q.1 = b0 + i := by
  unfold cx_W at h
  rw [List.getElem?_mapIdx] at h
  cases e : cs[i]? with
  | none => rw [e] at h; cases h
  | some c =>
    rw [e] at h
    cases h
    exact ⟨(List.getElem?_eq_some_iff.mp e).1, rfl⟩
theorem cx_W_set : (cx_W b0 cA cs).set i (b0 + i, ms_c (cx_ad b0) cA (cx_c c)) = cx_W b0 cA (cs.set i c) := by
  unfold cx_W
  rw [List.mapIdx_set]
theorem cx_W_push : cx_W b0 cA cs ++ [(b0 + cs.length, ms_c (cx_ad b0) cA (cx_c c))] = cx_W b0 cA (cs ++ [c]) := by
  unfold cx_W
  rw [List.mapIdx_concat]
theorem cx_D : va_D (cx_A b0) (cx_W b0 cA cs) := ⟨fun i j p q hp hq e => by
  have h1 := (cx_W_inv hp).2
  have h2 := (cx_W_inv hq).2
  omega, fun k q h => by
  have h1 := (cx_W_inv h).2
  show b0 ≤ q.1
  omega⟩
theorem cx_low (hP : va_P D cl (cx_W b0 cA cs) H) (h0 : b0 ≤ H.size) : b0 + cs.length ≤ H.size := by
  rcases Nat.eq_zero_or_pos cs.length with z | z
  · omega
  · have h1 : cs[cs.length - 1]? = some (cs[cs.length - 1]'(by omega)) := List.getElem?_eq_getElem (by omega)
    have h2 := (hP _ _ (cx_W_at (b0 := b0) (cA := cA) h1)).lt
    dsimp only at h2
    omega
theorem cx_q {q0 : Nat} {x : va_E} (hP : va_P D cl (cx_W b0 cA cs ++ [(q0, x)]) H) (hD : va_D (cx_A b0) (cx_W b0 cA cs ++ [(q0, x)])) (hz : H.size ≤ b0 + cs.length + 1) : q0 = b0 + cs.length := by
  have hl : (cx_W b0 cA cs).length = cs.length := by simp [cx_W]
  have e1 : (cx_W b0 cA cs ++ [(q0, x)])[cs.length]? = some (q0, x) := by
    rw [List.getElem?_append_right (by omega), hl]
    simp
  have h1 := (hP _ _ e1).lt
  have h2 : b0 ≤ q0 := hD.2 _ _ e1
  dsimp only at h1
  rcases Nat.lt_or_ge (q0 - b0) cs.length with z | z
  · exfalso
    have e2 : (cx_W b0 cA cs ++ [(q0, x)])[q0 - b0]? = some (b0 + (q0 - b0), ms_c (cx_ad b0) cA (cx_c (cs[q0 - b0]'z))) := by
      rw [List.getElem?_append_left (by omega)]
      exact cx_W_at (List.getElem?_eq_getElem z)
    have := hD.1 _ _ _ _ e2 e1 (by dsimp only; omega)
    omega
  · omega
end cxW
theorem cx_pchk {own : String} {bs : ByteArray} {pc nx aux wi : Nat} {i : Instr} {cv : Int32} {L : mj_L} {st : List Value} {x : Nat × mj_L × List Value} (h : mj_pure i nx aux cv L st = some x) : cx_chk own bs (pc, i, nx, aux, cv, wi) = ms_chk own bs (pc, i, nx, aux, cv, wi) := by
  cases i <;> first | rfl | (cases h)
theorem cx_mem_len {i : Instr} {aux : Nat} {st st' : List Value} {cs cs' : List cX} (h : cx_mem i aux st cs = some (st', cs')) : cs'.length = cs.length := by
  unfold cx_mem at h
  repeat' (split at h)
  all_goals first | (cases h; done) | (cases h; rfl) | (cases h; simp)
theorem cx_go_len {B : Nat → List cX → Nat → Option (List cX)} {mC mS : Nat} {tb : List mj_E} (hB : ∀ k cs b cs' q, B k cs b = some cs' → cx_cnt[k]? = some q → cs'.length = cs.length + q.1) : ∀ (n c s : Nat) (cs : List cX) (pc : Nat) (L : mj_L) (st : List Value) (cs' : List cX), cx_go B mC mS tb n c s cs pc L st = some cs' → cs'.length + c = cs.length + mC := by
  intro n
  induction n with
  | zero => intro c s cs pc L st cs' h; simp only [cx_go] at h; cases h
  | succ n ih =>
    intro c s cs pc L st cs' h
    simp only [cx_go] at h
    split at h
    next => cases h
    next i nx aux cv hat =>
      split at h
      next => exact ih _ _ _ _ _ _ _ h
      next =>
        split at h
        next => exact ih _ _ _ _ _ _ _ h
        next =>
          split at h
          next st' cs2 hm =>
            have := ih _ _ _ _ _ _ _ h
            rw [cx_mem_len hm] at this
            exact this
          next =>
            split at h
            next q k r hn =>
              split at h
              next =>
                have := ih _ _ _ _ _ _ _ h
                rw [List.length_append] at this
                simp only [List.length_cons, List.length_nil] at this
                omega
              next => cases h
            next =>
              split at h
              next =>
                split at h
                next =>
                  split at h
                  next =>
                    split at h
                    next => exact ih _ _ _ _ _ _ _ h
                    next => cases h
                  next =>
                    split at h
                    next => cases h
                    next q hq =>
                      split at h
                      next =>
                        split at h
                        next cs2 h2 =>
                          have := ih _ _ _ _ _ _ _ h
                          have := hB _ _ _ _ _ h2 hq
                          omega
                        next => cases h
                      next => cases h
                next => cases h
              next =>
                split at h
                next =>
                  split at h
                  next e =>
                    cases h
                    simp only [Bool.and_eq_true] at e
                    have := Nat.eq_of_beq_eq_true e.1
                    omega
                  next => cases h
                next => cases h
              next => cases h
theorem cx_B_len : ∀ (d k : Nat) (cs : List cX) (b : Nat) (cs' : List cX) (q : Nat × Nat), cx_B d k cs b = some cs' → cx_cnt[k]? = some q → cs'.length = cs.length + q.1 := by
  intro d
  induction d with
  | zero => intro k cs b cs' q h; cases h
  | succ d ih =>
    intro k cs b cs' q h hq
    simp only [cx_B] at h
    split at h
    next => cases h
    next sg hsg =>
      split at h
      next => cases h
      next tb htb =>
        rw [hq] at h
        dsimp only at h
        split at h
        next => exact cx_go_len ih _ _ _ _ _ _ _ _ h
        next => cases h
