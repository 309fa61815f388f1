/-! the reference reads a LINE -/
section line
variable {d B b r bd p n : Nat} {g gk g' u : gr} {ts tx tx' t' : List Nat} {rw rw' : List Int64} {un un' : List gr} {M0 M M1 : Nat → Nat → Int32} {L0 ML L1 : Nat → Nat → Int64} {R0 R R1 : Nat → Nat → Option Nat} {top : Nat} {wr : Int32}
abbrev PG (a i : Nat) : Prop := (a = 219 ∧ 15 ≤ i ∧ i ≤ 16) ∨ a = 224
theorem R_line {K : wKv} {j : Nat} (hd : 5 ≤ d) (hl : tx.length ≤ 80) (ht : top < 900) (hp : p ≤ bd) (hx : ∀ c ∈ tx, c < 256) (hb : bd = min tx.length top) (hj : j < 8) (h : PS tx top p (-1) M R) (h1 : ∀ t, (rdL tx bd p).2.2 = some t → ∀ M1, PS tx top (rdL tx bd p).2.1 (-1) M1 R → fr PG M M1 → M1 224 (3 * j) = nI t.1 → M1 224 (3 * j + 1) = nI t.2.1 → M1 224 (3 * j + 2) = nI t.2.2 → (∀ i, i < 3 * j → M1 224 i = M 224 i) → K M1 ML R) (h0 : (rdL tx bd p).2.2 = none → ∀ q M1, q ≤ 80 → PS tx top q (nI (rdL tx bd p).1) M1 R → fr PG M M1 → K M1 ML R) : wV d 162 [.ref 219, .int (nI j)] M ML R K := by
  obtain ⟨d, rfl⟩ : ∃ e, d = e + 1 := ⟨d - 1, by omega⟩
  obtain ⟨a1, a2, a3⟩ := rdN_le (tx := tx) hp
  have e3 : (3 : Int32) * nI j = nI (3 * j) := nI_mul 3 j
  have e31 : (3 : Int32) * nI j + 1 = nI (3 * j + 1) := by rw [e3]; exact nI_1 _
  have e32 : (3 : Int32) * nI j + 2 = nI (3 * j + 2) := by rw [e3]; exact nI_add _ 2
  have pg : ∀ {M1 : Nat → Nat → Int32}, fr PF M M1 → fr PG M M1 := fun f => f.mono (fun a i z => Or.inl z)
  unfold rdL at h1 h0
  unfold rdL2 at h1 h0
  refine w162 (R_num (by omega) hl ht (by omega) hx hb h (fun z M1 s1 f1 => ?_) (fun z z2 M1 s1 f1 => ?_))
  · generalize rdN tx bd p = e at *
    refine R_fine (by omega) s1 ?_
    rw [if_pos rfl]
    rw [if_neg z] at h1 h0
    refine ⟨fun w => absurd w (by decide), fun _ => ?_⟩
    refine R_pass (c := 47) (by omega) hl (by omega) (by omega) hx (by decide) s1 (fun y1 y2 y3 => ?_) (fun y => ?_)
    · have s2 := PS_at (n := e.2 + 1) s1
      have f2 : fr PF M (fm_u M1 219 15 (nI (e.2 + 1))) := fr_u2 f1 (by omega)
      rw [if_neg (show ¬ bd ≤ e.2 by omega), if_pos y3] at h1 h0
      obtain ⟨b1, b2, b3⟩ := rdN_le (tx := tx) (show e.2 + 1 ≤ bd by omega)
      refine ⟨fun _ => ?_, fun w => absurd w (by decide)⟩
      refine R_num (by omega) hl ht (by omega) hx hb s2 (fun w M3 s3 f3 => ?_) (fun w w2 M3 s3 f3 => ?_)
      · generalize rdN tx bd (e.2 + 1) = q at *
        rw [if_pos w] at h1 h0
        have F3 : fr PF M M3 := f2.tr f3
        refine R_fine (by omega) s3 ?_
        rw [if_pos rfl]
        refine ⟨fun _ => ⟨fun v => ?_, fun v => ?_⟩, fun v => absurd v (by decide)⟩
        · have v2 : q.1 ≤ 12 := (nI_leI (b := 12) (by omega) (by decide)).mp v
          rw [if_pos v2] at h1 h0
          refine ⟨fun x => ?_, fun x => ?_⟩
          · have x2 : e.1 ≤ q.1 := (nI_leI (by omega) (by omega)).mp x
            rw [if_pos x2] at h1
            refine ⟨3 * j, e3, by omega, fun M5 e5 => ⟨3 * j + 1, e31, by omega, fun M6 e6 => ?_⟩⟩
            have f6 : fr PG M M6 := by
              subst e6 e5
              exact fr_u2 (fr_u2 (pg F3) (Or.inr rfl)) (Or.inr rfl)
            have s6 : PS tx top q.2 (-1) M6 R := PS_fr s3 (fun a i y => by subst e6 e5; rw [fm_u_off (by omega), fm_u_off (by omega)])
            have m0 : M6 224 (3 * j) = nI e.1 := by subst e6 e5; rw [fm_u_ix (by omega), fm_u_at]
            have m1 : M6 224 (3 * j + 1) = nI q.1 := by subst e6; rw [fm_u_at]
            have ml : ∀ i, i < 3 * j → M6 224 i = M 224 i := fun i hi => by
              subst e6 e5
              rw [fm_u_ix (by omega), fm_u_ix (by omega)]
              exact F3 224 i (by omega)
            refine R_pass (c := 101) (by omega) hl (by omega) (by omega) hx (by decide) s6 (fun u1 u2 u3 => ?_) (fun u => ?_)
            · rw [if_neg (show ¬ bd ≤ q.2 by omega), if_neg (fun v => v u3)] at h1
              refine ⟨fun v => absurd v (by decide), fun _ => ⟨3 * j + 2, e32, by omega, fun M9 e9 => ?_⟩⟩
              subst e9
              refine h1 _ rfl _ (PS_fr (PS_at s6) (fun a i y => by rw [fm_u_off (by omega)])) (fr_u2 (fr_u2 f6 (Or.inl (by omega))) (Or.inr rfl)) ?_ ?_ fm_u_at (fun i hi => ?_)
              · rw [fm_u_ix (by omega), fm_u_off (by decide)]; exact m0
              · rw [fm_u_ix (by omega), fm_u_off (by decide)]; exact m1
              · rw [fm_u_ix (by omega), fm_u_off (by decide)]; exact ml i hi
            · refine ⟨fun _ => ⟨3 * j + 2, e32, by omega, fun M8 e8 => ?_⟩, fun v => absurd rfl v⟩
              subst e8
              have fin : ∀ {x : Nat × Nat × Option (Nat × Nat × Nat)}, x = (0, q.2, some (e.1, q.1, 0)) → (∀ t, x.2.2 = some t → ∀ M1, PS tx top x.2.1 (-1) M1 R → fr PG M M1 → M1 224 (3 * j) = nI t.1 → M1 224 (3 * j + 1) = nI t.2.1 → M1 224 (3 * j + 2) = nI t.2.2 → (∀ i, i < 3 * j → M1 224 i = M 224 i) → K M1 ML R) → K (fm_u M6 224 (3 * j + 2) 0) ML R := fun {x} ex h1 => by
                subst ex
                refine h1 _ rfl _ (PS_fr s6 (fun a i y => by rw [fm_u_off (by omega)])) (fr_u2 f6 (Or.inr rfl)) ?_ ?_ fm_u_at (fun i hi => ?_)
                · rw [fm_u_ix (by omega)]; exact m0
                · rw [fm_u_ix (by omega)]; exact m1
                · rw [fm_u_ix (by omega)]; exact ml i hi
              refine fin ?_ h1
              by_cases y : bd ≤ q.2
              · rw [if_pos y]
              · rw [if_neg y, if_pos (fun v => u ⟨⟨by omega, by omega⟩, v⟩)]
          · have x2 : ¬ e.1 ≤ q.1 := fun v => x ((nI_leI (by omega) (by omega)).mpr v)
            rw [if_neg x2] at h0
            rw [h.2.2.1]
            exact R_fault (by omega) s3 (fun _ => h0 rfl q.2 _ (by omega) (PS_wr s3) (fr_u2 (pg F3) (Or.inl (by omega)))) (fun y => absurd rfl y)
        · have v2 : ¬ q.1 ≤ 12 := fun x => v ((nI_leI (b := 12) (by omega) (by decide)).mpr x)
          rw [if_neg v2] at h0
          rw [s2.2.2.1]
          exact R_fault (by omega) s3 (fun _ => h0 rfl q.2 _ (by omega) (PS_wr s3) (fr_u2 (pg F3) (Or.inl (by omega)))) (fun y => absurd rfl y)
      · generalize rdN tx bd (e.2 + 1) = q at *
        rw [if_neg (fun v => v w)] at h0
        refine R_fine (by omega) s3 ?_
        rw [if_neg (nI_nm1 (by omega))]
        refine ⟨fun v => absurd rfl v, fun _ => h0 rfl (e.2 + 1) M3 (by omega) ?_ (pg (f2.tr f3))⟩
        dsimp only
        rw [w2]
        exact s3
    · have hf : ∀ {x : Nat × Nat × Option (Nat × Nat × Nat)}, x = (e.2, e.2, none) → (x.2.2 = none → ∀ q M1, q ≤ 80 → PS tx top q (nI x.1) M1 R → fr PG M M1 → K M1 ML R) → ∀ M1, PS tx top e.2 (nI e.2) M1 R → fr PG M M1 → K M1 ML R := fun {x} ex h0 M1 s f => by
        subst ex
        exact h0 rfl e.2 M1 (by omega) s f
      refine ⟨fun v => absurd rfl v, fun _ => ?_⟩
      rw [s1.2.2.1]
      refine R_fault (by omega) s1 (fun _ => ?_) (fun y => absurd rfl y)
      have s2 := PS_wr (x := nI e.2) s1
      refine R_numN (by omega) s2 (nI_nm1 (by omega)) (R_fine (by omega) s2 ?_)
      rw [if_neg (nI_nm1 (by omega))]
      refine ⟨fun v => absurd rfl v, fun _ => hf ?_ h0 _ s2 (fr_u2 (pg f1) (Or.inl (by omega)))⟩
      by_cases x : bd ≤ e.2
      · rw [if_pos x]
      · rw [if_neg x, if_neg (fun v => y ⟨⟨by omega, by omega⟩, v⟩)]
  · generalize rdN tx bd p = e at *
    rw [if_pos z] at h0
    refine R_fine (by omega) s1 ?_
    rw [if_neg (nI_nm1 (by omega))]
    refine ⟨fun _ => R_numN (by omega) s1 (nI_nm1 (by omega)) (R_fine (by omega) s1 ?_), fun v => absurd rfl v⟩
    rw [if_neg (nI_nm1 (by omega))]
    refine ⟨fun v => absurd rfl v, fun _ => h0 rfl p M1 (by omega) ?_ (pg f1)⟩
    dsimp only
    rw [z2]
    exact s1
end line
