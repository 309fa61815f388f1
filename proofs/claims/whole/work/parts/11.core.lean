theorem mj_ofB {d k : Nat} {as : List Value} {h h' : mj_H} {r : Option Value} (sg : mj_S) (cs : List mj_E) (h1 : mj_sigs[k]? = some sg) (h2 : mj_cods[k]? = some cs) (h3 : Nat.ble (mj_ents as).length sg.2.2.1 = true)
    (q : mj_Rn d sg.2.2.2.1 cs (fun v g => v = r ∧ g = h') h 0 (mj_ent as sg.2.2.1) []) : mj_big (d + 1) k as h r h' := by
  obtain ⟨n, q⟩ := q
  exact ⟨sg, cs, h1, h2, Nat.le_of_ble_eq_true h3, n, q⟩
section mjCallB
variable {d : Nat} {ty : Option FieldType} {cs : List mj_E} {Q : Option Value → mj_H → Prop} {h : mj_H} {pc : Nat} {L : mj_L} {st : List Value}
theorem mj_csB {d' ix nx aux : Nat} {cv : Int32} {sg : mj_S} {as rest : List Value} {r : Option Value} {h' : mj_H} (hB : mj_big d' aux as h r h') (h1 : mj_at cs pc = some (.invokestatic ix, nx, aux, cv)) (hst : st = as.reverse ++ rest) (hsg : mj_sigs[aux]? = some sg) (hn : as.length = sg.2.2.2.2.1) (hr : Nat.ble (rest.map fun v => v.category).sum 8 = true) (hs : sg.2.2.2.2.2.1 = true) (hd : Nat.ble d' d = true) (kk : mj_Rn d ty cs Q h' nx L (r.toList ++ rest)) : mj_Rn d ty cs Q h pc L st :=
  mj_cs (P := fun v g => v = r ∧ g = h') h1 hsg hst hn hr hs ⟨r, h', mj_big_le (Nat.le_of_ble_eq_true hd) hB, rfl, rfl⟩ (fun r2 g2 q => by obtain ⟨rfl, rfl⟩ := q; exact kk)
theorem mj_cvB {d' ix nx aux : Nat} {cv : Int32} {sg : mj_S} {b : Nat} {bs rest : List Value} {r : Option Value} {h' : mj_H} {ci : Nat} {fs : List Value} (hB : mj_big d' aux (.ref b :: bs) h r h') (hb : h b = .inr (ci, fs)) (h1 : mj_at cs pc = some (.invokevirtual ix, nx, aux, cv)) (hst : st = (Value.ref b :: bs).reverse ++ rest) (hsg : mj_sigs[aux]? = some sg) (hn : (Value.ref b :: bs).length = sg.2.2.2.2.1) (hr : Nat.ble (rest.map fun v => v.category).sum 8 = true) (hs : sg.2.2.2.2.2.1 = false ∧ sg.2.2.2.2.2.2.1 = ci) (hd : Nat.ble d' d = true) (kk : mj_Rn d ty cs Q h' nx L (r.toList ++ rest)) : mj_Rn d ty cs Q h pc L st := by
  obtain ⟨hs, rfl⟩ := hs
  exact mj_cv (P := fun v g => v = r ∧ g = h') hb h1 hsg hst hn hr hs ⟨r, h', mj_big_le (Nat.le_of_ble_eq_true hd) hB, rfl, rfl⟩ (fun r2 g2 q => by obtain ⟨rfl, rfl⟩ := q; exact kk)
end mjCallB
theorem in_of {j : Int32} {n : Nat} (h0 : 0 ≤ j.toInt) (h1 : j.toInt < n) : vp_in j n := by
  intro h
  rcases h with h | h
  · rw [Int32.lt_iff_toInt_lt] at h
    have : (0 : Int32).toInt = 0 := rfl
    omega
  · have : j.toNatClampNeg = j.toInt.toNat := rfl
    omega
theorem in_nI {c N : Nat} (h : c < N) (hN : N < 2 ^ 31) : vp_in (nI c) N := nI_in h hN
theorem nI8_lt : ∀ k, k < 8 → ¬ (8 : Int32) ≤ nI k := by decide +kernel
theorem nI8_in : ∀ k, k < 8 → vp_in (nI k) 8 := fun k hk => in_nI hk (by decide)
theorem nI8_tn : ∀ k, k < 8 → (nI k).toNatClampNeg = k := by decide +kernel
theorem i32_ge {a b : Int32} (h : ¬ a < b) : b ≤ a := Int32.not_lt.mp h
