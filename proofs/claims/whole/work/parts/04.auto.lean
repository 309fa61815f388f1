/-! as many plain steps as there are, up to a stop -/
def mj_isin (pc : Nat) : List Nat → Bool
  | [] => false
  | x :: r => match Nat.beq x pc with
    | true => true
    | false => mj_isin pc r
def mj_gos (cs : List mj_E) (sp : List Nat) : Nat → Nat → mj_L → List Value → Nat × mj_L × List Value
  | 0, pc, L, st => (pc, L, st)
  | n + 1, pc, L, st => match mj_isin pc sp with
    | true => (pc, L, st)
    | false => match mj_at cs pc with
      | some (i, nx, aux, cv) => match mj_pure i nx aux cv L st with
        | some (pc', L', st') => mj_gos cs sp n pc' L' st'
        | none => (pc, L, st)
      | none => (pc, L, st)
def mj_gob (cs : List mj_E) (sp : List Nat) (n pc : Nat) (L : mj_L) (st : List Value) : Option (Nat × mj_L × List Value) := match mj_at cs pc with
  | some (i, nx, aux, cv) => match mj_pure i nx aux cv L st with
    | some (pc', L', st') => some (mj_gos cs sp n pc' L' st')
    | none => none
  | none => none
/-- begins where it stands -/
def mj_gon (cs : List mj_E) (sp : List Nat) (n pc : Nat) (L : mj_L) (st : List Value) : Option (Nat × mj_L × List Value) := match mj_isin pc sp with
  | true => none
  | false => mj_gob cs sp n pc L st
section mjAuto
variable {d : Nat} {ty : Option FieldType} {cs : List mj_E} {Q : Option Value → mj_H → Prop} {h : mj_H}
theorem mj_gos_ok (sp : List Nat) : ∀ (n : Nat) {pc : Nat} {L : mj_L} {st : List Value} {pc' : Nat} {L' : mj_L} {st' : List Value}, mj_gos cs sp n pc L st = (pc', L', st') → mj_Rn d ty cs Q h pc' L' st' → mj_Rn d ty cs Q h pc L st := by
  intro n
  induction n with
  | zero =>
    intro pc L st pc' L' st' h1 k
    simp only [mj_gos, Prod.mk.injEq] at h1
    obtain ⟨rfl, rfl, rfl⟩ := h1
    exact k
  | succ n ih =>
    intro pc L st pc' L' st' h1 k
    rw [mj_gos] at h1
    split at h1
    next =>
      simp only [Prod.mk.injEq] at h1
      obtain ⟨rfl, rfl, rfl⟩ := h1
      exact k
    next =>
      split at h1
      next i nx aux cv e1 =>
        split at h1
        next p2 L2 s2 e2 => exact mj_step e1 e2 (ih h1 k)
        next =>
          simp only [Prod.mk.injEq] at h1
          obtain ⟨rfl, rfl, rfl⟩ := h1
          exact k
      next =>
        simp only [Prod.mk.injEq] at h1
        obtain ⟨rfl, rfl, rfl⟩ := h1
        exact k
theorem mj_begin (sp : List Nat) (n : Nat) {pc : Nat} {L : mj_L} {st : List Value} {pc' : Nat} {L' : mj_L} {st' : List Value} (h1 : mj_gob cs sp n pc L st = some (pc', L', st')) (k : mj_Rn d ty cs Q h pc' L' st') : mj_Rn d ty cs Q h pc L st := by
  unfold mj_gob at h1
  split at h1
  next i nx aux cv e1 =>
    split at h1
    next p2 L2 s2 e2 =>
      simp only [Option.some.injEq] at h1
      exact mj_step e1 e2 (mj_gos_ok sp n h1 k)
    next => cases h1
  next => cases h1
theorem mj_auto (sp : List Nat) (n : Nat) {pc : Nat} {L : mj_L} {st : List Value} {pc' : Nat} {L' : mj_L} {st' : List Value} (h1 : mj_gon cs sp n pc L st = some (pc', L', st')) (k : mj_Rn d ty cs Q h pc' L' st') : mj_Rn d ty cs Q h pc L st := by
  unfold mj_gon at h1
  split at h1
  next => cases h1
  next => exact mj_begin sp n h1 k
end mjAuto
