section wdCopy
variable {d : Nat} {ty : Option FieldType} {cs : List mj_E} {Q : Option Value → mj_H → Prop} {S : fm_S} {pc : Nat} {L : mj_L} {ix nx a : Nat} {cv : Int32} {r : List Value}
theorem fm_cpy8 {a0 : Nat} (h0 : fm_sh a0 = .inl (0, 8)) (hs : fm_sh a = .inl (0, 8)) (h1 : mj_at cs pc = some (.invokestatic ix, nx, 9999, cv)) (hr : Nat.ble (r.map fun v => v.category).sum 8 = true) (kk : mj_Rn d ty cs Q (fm_mk (fm_row S.1 a (va_cpy (S.1 a0) (S.1 a) 0 0 8), S.2)) nx L r) : mj_Rn d ty cs Q (fm_mk S) pc L (.int 8 :: .int 0 :: .ref a :: .int 0 :: .ref a0 :: r) :=
  fm_cpy (k := 8) h0 hs (by decide) hr h1 kk
theorem fm_cpy5 {a0 : Nat} (h0 : fm_sh a0 = .inl (0, 5)) (hs : fm_sh a = .inl (0, 5)) (h1 : mj_at cs pc = some (.invokestatic ix, nx, 9999, cv)) (hr : Nat.ble (r.map fun v => v.category).sum 8 = true) (kk : mj_Rn d ty cs Q (fm_mk (fm_row S.1 a (va_cpy (S.1 a0) (S.1 a) 0 0 5), S.2)) nx L r) : mj_Rn d ty cs Q (fm_mk S) pc L (.int 5 :: .int 0 :: .ref a :: .int 0 :: .ref a0 :: r) :=
  fm_cpy (k := 5) h0 hs (by decide) hr h1 kk
end wdCopy
def wd_copy (M : Nat → Nat → Int32) (b o : Nat) : Nat → Nat → Int32 := fun a => if a = b then upd (upd (upd (M b) 10 (M o 10)) 11 (M o 11)) 12 (M o 12) else if b < a ∧ a ≤ b + 10 then va_cpy (M (o + (a - b))) (M a) 0 0 8 else M a
set_option maxRecDepth 20000 in
set_option maxHeartbeats 4000000 in
theorem t_copyFrom {b o : Nat} (hb : fm_W b) (ho : fm_W o) (hbo : b + 10 < o ∨ o + 10 < b) (S : fm_S) : mj_big 1 48 [.ref b, .ref o] (fm_mk S) none (fm_mk (wd_copy S.1 b o, S.2)) := by
  obtain ⟨hb, h0, h1, h2, h3, h4, h5, h6, h7, h8, h9⟩ := hb
  obtain ⟨ho, o0, o1, o2, o3, o4, o5, o6, o7, o8, o9⟩ := ho
  refine mj_ofB _ _ rfl rfl rfl ?_
  repeat' first
    | refine mj_auto2 [] 80 rfl ?_
    | refine fm_gR (by with_reducible assumption) rfl rfl rfl ?_
    | refine fm_gI (by with_reducible assumption) rfl rfl rfl ?_
    | refine fm_cpy8 (by with_reducible assumption) (by with_reducible assumption) rfl rfl ?_
    | refine fm_pI (by with_reducible assumption) rfl rfl rfl rfl ?_
    | refine mj_rtv rfl rfl ⟨rfl, ?_⟩
  refine congrArg fm_mk (Prod.ext ?_ rfl)
  funext a
  dsimp only [fm_u, fm_row, wd_copy]
  by_cases e0 : a = b
  · subst e0
    have q1 : ∀ j, 0 < j → ¬ a = a + j := fun j hj => by omega
    have q2 : ∀ j, 0 < j → j ≤ 10 → ¬ o = a + j := fun j _ _ => by omega
    have q3 : ¬ o = a := by omega
    simp [q1, q2, q3]
  · rw [if_neg e0, if_neg e0, if_neg e0, if_neg e0]
    by_cases e1 : b < a ∧ a ≤ b + 10
    · rw [if_pos e1]
      obtain ⟨j, hj⟩ : ∃ j, a = b + j := ⟨a - b, by omega⟩
      subst hj
      have hj : j = 1 ∨ j = 2 ∨ j = 3 ∨ j = 4 ∨ j = 5 ∨ j = 6 ∨ j = 7 ∨ j = 8 ∨ j = 9 ∨ j = 10 := by omega
      have q4 : ∀ i k, i ≤ 10 → k ≤ 10 → ¬ o + i = b + k := fun i k _ _ => by omega
      rcases hj with rfl | rfl | rfl | rfl | rfl | rfl | rfl | rfl | rfl | rfl <;> simp [q4]
    · have q5 : ∀ k, 0 < k → k ≤ 10 → ¬ a = b + k := fun k _ _ => by omega
      rw [if_neg e1]
      simp [q5]
