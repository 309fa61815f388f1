/-! flow of the class -/
section cflow
variable {fa fz : Nat → Nat} {d x u v P n B : Nat} {h : Nat → Option Nat} {T : Nat → Prop} {lo : Nat → Nat} {Q : List Nat} {M M1 Mq : Nat → Nat → Int32} {ML : Nat → Nat → Int64} {R : Nat → Nat → Option Nat}
theorem BS_part (hB : BS fa fz h x Q M) (hv : v ∈ Q) (h64 : v < 64) : v = x ∨ ∃ pl, pl < 64 ∧ h pl = some v := by
  obtain ⟨j, hj, e⟩ := gd_of hv
  have := hB.2.2.2.2.2 j hj
  rw [e] at this
  rcases this with ⟨_, w, _⟩ | ⟨j', _, _, he⟩
  · exact Or.inl w
  · rcases he with ⟨_, pl, _, _, w⟩ | ⟨pl, p1, _, p3⟩ | ⟨_, _, _, pl, _, _, _, w⟩
    · omega
    · rcases p3 with ⟨_, p4⟩ | p3
      · omega
      · exact Or.inr ⟨pl, p1, p3⟩
    · omega
theorem BS_cl (hx64 : x < 64) (hh : ∀ pl, pl < 64 → ∀ y, h pl = some y → y < 64) (hxQ : x ∈ Q) (hc : ∀ v, v ∈ Q → ∀ w, eg fa fz h v w → w ∈ Q) (hs : ∀ t, t < 8 → 128 + t ∈ Q → P ≤ occ h t) : CLs fa fz P h (fun pl => decide (64 + pl ∈ Q)) (fun t => decide (128 + t ∈ Q)) x := by
  refine ⟨fun pl hp hi => decide_eq_true (hc x hxQ _ (Or.inl ⟨hx64, pl, hp, hi, rfl⟩)), fun pl hp hm => ⟨fun y hy pl' hp' hi => decide_eq_true ?_, fun hn => decide_eq_true ?_⟩, fun t ht hm => ⟨hs t ht (of_decide_eq_true hm), fun pl hp e hn => decide_eq_true ?_⟩⟩
  · have h1 := hc _ (of_decide_eq_true hm) y (Or.inr (Or.inl ⟨pl, hp, rfl, Or.inr hy⟩))
    exact hc y h1 _ (Or.inl ⟨hh pl hp y hy, pl', hp', hi, rfl⟩)
  · exact hc _ (of_decide_eq_true hm) _ (Or.inr (Or.inl ⟨pl, hp, rfl, Or.inl ⟨hn, rfl⟩⟩))
  · exact hc _ (of_decide_eq_true hm) _ (Or.inr (Or.inr ⟨t, ht, rfl, pl, hp, e, hn, rfl⟩))
/-- what findPlace may change -/
abbrev WF (a i : Nat) : Prop := a = 57 ∨ a = 58 ∨ a = 59 ∨ a = 60 ∨ (a = 54 ∧ i = 6)
theorem C_bfs {K : wK} (hd : 2 ≤ d) (hP4 : P ≤ 4) (hx64 : x < 64) (hx : ¬ T x) (hv : VA fa fz T h) (hT : ∀ i, T i → i < 64) (hw : ∀ i, i < 64 → i = x ∨ T i → fz i ≤ 8 ∧ fa i < 900) (hlo : ∀ t, t < 8 → lo t = occ h t ∧ lo t ≤ P) (M0 : Nat → Nat → Int32) (h55 : ∀ i, i < 64 → i = x ∨ T i → M0 56 i = nI (fz i) ∧ M0 55 i = nI (fa i)) (hK1 : ∀ M1 h1 (lo1 : Nat → Nat), VA fa fz (tU T x) h1 → (∀ pl, pl < 64 → M1 57 pl = poI (h1 pl)) → (∀ t, t < 8 → M1 58 t = nI (lo1 t)) → (∀ t, t < 8 → lo1 t = occ h1 t ∧ lo1 t ≤ P) → fr WF M0 M1 → K 1 M1 ML R) (hK0 : ∀ M1, ¬ Fs fa fz P (tU T x) → (∀ pl, pl < 64 → M1 57 pl = poI (h pl)) → (∀ t, t < 8 → M1 58 t = nI (lo t)) → fr WF M0 M1 → K 0 M1 ML R) : ∀ k j Q M, j + k = 136 → j ≤ Q.length → BS fa fz h x Q M → x ∈ Q → (∀ pl, pl < 64 → M 57 pl = poI (h pl)) → (∀ t, t < 8 → M 58 t = nI (lo t)) → fr QF M0 M → (∀ j', j' < j → (∀ w, eg fa fz h (Q.getD j' 0) w → w ∈ Q) ∧ ∀ t, t < 8 → Q.getD j' 0 = 128 + t → P ≤ lo t) → H37_22 d (nI x) (nI P) (nI j) M ML R K := by
  have hh : ∀ pl, pl < 64 → ∀ y, h pl = some y → y < 64 := fun pl hp y hy => hT y (hv.1 pl y hp hy).1
  have fin : ∀ j Q M, Q.length ≤ j → BS fa fz h x Q M → x ∈ Q → (∀ pl, pl < 64 → M 57 pl = poI (h pl)) → (∀ t, t < 8 → M 58 t = nI (lo t)) → fr QF M0 M → (∀ j', j' < j → (∀ w, eg fa fz h (Q.getD j' 0) w → w ∈ Q) ∧ ∀ t, t < 8 → Q.getD j' 0 = 128 + t → P ≤ lo t) → K 0 M ML R := fun j Q M hj hB hxQ c57 c58 f hp => by
    refine hK0 M (fl_cut hv hx (BS_cl hx64 hh hxQ (fun v hv w he => ?_) (fun t ht hm => ?_))) c57 c58 (f.mono (fun a i z => by omega))
    · obtain ⟨j', hj', e⟩ := gd_of hv
      rw [← e] at he
      exact (hp j' (by omega)).1 w he
    · obtain ⟨j', hj', e⟩ := gd_of hm
      rw [← (hlo t ht).1]
      exact (hp j' (by omega)).2 t ht e
  intro k
  induction k with
  | zero =>
    intro j Q M hk hjl hB hxQ c57 c58 f hp
    have hl : Q.length ≤ 136 := by
      have := pig Q (List.range 136) hB.1 (fun z hz => List.mem_range.mpr (hB.2.1 z hz))
      rw [List.length_range] at this
      exact this
    refine h37_22 ⟨fun _ => fin j Q M (by omega) hB hxQ c57 c58 f hp, fun y => absurd (by rw [hB.2.2.1]; exact (nI_leI (by omega) (by omega)).mpr (by omega)) y⟩
  | succ k ih =>
    intro j Q M hk hjl hB hxQ c57 c58 f hp
    have hl : Q.length ≤ 136 := by
      have := pig Q (List.range 136) hB.1 (fun z hz => List.mem_range.mpr (hB.2.1 z hz))
      rw [List.length_range] at this
      exact this
    refine h37_22 ⟨fun y => ?_, fun y => ⟨fun w => absurd ((nI_leI (a := 136) (by decide) (by omega)).mp w) (by omega), fun _ => ⟨j, rfl, by omega, ?_⟩⟩⟩
    · rw [hB.2.2.1] at y
      exact fin j Q M ((nI_leI (by omega) (by omega)).mp y) hB hxQ c57 c58 f hp
    · have hj : j < Q.length := Nat.lt_of_not_le (fun w => y (by rw [hB.2.2.1]; exact (nI_leI (by omega) (by omega)).mpr w))
      have h136 := hB.2.1 _ (gd_mem hj)
      rw [hB.2.2.2.1 j hj, nI_1]
      -- on to the next
      have nxt : ∀ M1 r, BS fa fz h x (Q ++ r) M1 → (∀ w, eg fa fz h (Q.getD j 0) w → w ∈ Q ++ r) → (∀ t, t < 8 → Q.getD j 0 = 128 + t → P ≤ lo t) → fr QF M M1 → H37_22 d (nI x) (nI P) (nI (j + 1)) M1 ML R K := fun M1 r B1 hw1 hs1 f1 => by
        refine ih (j + 1) (Q ++ r) M1 (by omega) (by rw [List.length_append]; omega) B1 (List.mem_append.mpr (Or.inl hxQ)) (fun pl q => by rw [f1 57 pl (by omega)]; exact c57 pl q) (fun t q => by rw [f1 58 t (by omega)]; exact c58 t q) (f.tr f1) (fun j' hj' => ?_)
        by_cases z : j' = j
        · rw [z, gd_app hj]; exact ⟨hw1, hs1⟩
        · obtain ⟨a1, a2⟩ := hp j' (by omega)
          rw [gd_app (by omega)]
          exact ⟨fun w he => List.mem_append.mpr (Or.inl (a1 w he)), a2⟩
      generalize hu : Q.getD j 0 = u at *
      refine ⟨fun y1 => ⟨fun y2 => ?_, fun y2 => ?_⟩, fun y1 => ?_⟩
      · have u2 : 128 ≤ u := (nI_leI (a := 128) (by decide) (by omega)).mp y2
        obtain ⟨t, rfl⟩ : ∃ t, u = 128 + t := ⟨u - 128, by omega⟩
        have ht : t < 8 := by omega
        have e : nI (128 + t) - 128 = nI t := by
          have := nI_sub (a := 128 + t) (b := 128) (by omega)
          rw [Nat.add_sub_cancel_left] at this
          exact this
        rw [e]
        have hlt := (hlo t ht).2
        refine ⟨t, rfl, ht, ?_⟩
        rw [c58 t ht]
        refine ⟨fun y3 => ?_, fun y3 => ⟨t, rfl, ht, t, rfl, ht, fun M5 e5 => ?_⟩⟩
        · have hP := (nI_leI (by omega) (by omega)).mp y3
          exact C_gSlot hd ht hB hj hu c57 hh (fun M1 r B1 hw1 f1 => nxt M1 r B1 hw1 (fun t' _ e' => by rw [show t' = t by omega]; exact hP) f1)
        · have hP : lo t < P := Nat.lt_of_not_le (fun w => y3 ((nI_leI (by omega) (by omega)).mpr w))
          have e5' : M5 = fm_u M 58 t (nI (lo t + 1)) := by rw [e5, c58 t ht, nI_1]
          have f5 : fr (fun a _ => a = 58) M M5 := by rw [e5']; exact fr_u rfl
          obtain ⟨d, rfl⟩ : ∃ e, d = e + 1 := ⟨d - 1, by omega⟩
          refine w42 ?_
          have hB5 : BS fa fz h x Q M5 := by
            obtain ⟨b1, b2, b3, b4, b5, b6⟩ := hB
            exact ⟨b1, b2, by rw [f5 54 6 (by omega)]; exact b3, fun j hj => by rw [f5 60 j (by omega)]; exact b4 j hj, fun v q q2 => by rw [f5 59 v (by omega)]; exact b5 v q q2, fun j hj => by rw [f5 59 _ (by omega)]; exact b6 j hj⟩
          have lo5 : ∀ s, s < 8 → M5 58 s = nI (lo s + ei s t) := fun s hs => by
            rw [e5']
            by_cases z : s = t
            · rw [z, fm_u_at, ei, if_pos rfl]
            · rw [fm_u_ix z, ei, if_neg z]; exact c58 s hs
          have st := (C_settle (d := d) (x1 := nI (128 + t)) (K := fun M6 L6 R6 => K 1 M6 L6 R6) (lo := fun s => lo s + ei s t) (ML := ML) (R := R) hB5 hx64 hT hh hx (fun M1 h1 v1 m57 l1 fq => ?_) j hj).1 t h 0 M5 ht hu (by omega) (fun _ _ _ => rfl) hv (fun pl q => by rw [f5 57 pl (by omega)]; exact c57 pl q) (fun s hs => by rw [(hlo s hs).1]) (fun _ _ _ _ _ => rfl)
          · rw [hu] at st; exact st
          · refine hK1 M1 h1 (fun s => lo s + ei s t) v1 m57 (fun s hs => by rw [fq 58 s (by decide)]; exact lo5 s hs) (fun s hs => ⟨l1 s hs, ?_⟩) ?_
            · show lo s + ei s t ≤ P
              by_cases z : s = t
              · rw [ei, if_pos z, z]; omega
              · rw [ei, if_neg z]; exact (hlo s hs).2
            · intro a i z
              rw [fq a i (by omega), f5 a i (by omega)]
              exact f a i (by omega)
      · have u1 : 64 ≤ u := (nI_leI (a := 64) (by decide) (by omega)).mp y1
        have u2 : u < 128 := Nat.lt_of_not_le (fun w => y2 ((nI_leI (a := 128) (by decide) (by omega)).mpr w))
        obtain ⟨pl, rfl⟩ : ∃ pl, u = 64 + pl := ⟨u - 64, by omega⟩
        have e : nI (64 + pl) - 64 = nI pl := by
          have := nI_sub (a := 64 + pl) (b := 64) (by omega)
          rw [Nat.add_sub_cancel_left] at this
          exact this
        rw [e]
        exact C_gPlace hd (by omega) hB hj hu (c57 pl (by omega)) (hh pl (by omega)) (fun M1 r B1 hw1 f1 => nxt M1 r B1 hw1 (fun t' q e' => by omega) f1)
      · have u1 : u < 64 := Nat.lt_of_not_le (fun w => y1 ((nI_leI (a := 64) (by decide) (by omega)).mpr w))
        have hpr : u = x ∨ T u := by
          rcases BS_part hB (by rw [← hu]; exact gd_mem hj) u1 with w | ⟨pl, p1, p2⟩
          · exact Or.inl w
          · exact Or.inr (hv.1 pl u p1 p2).1
        obtain ⟨w1, w2⟩ := hw u u1 hpr
        obtain ⟨m1, m2⟩ := h55 u u1 hpr
        exact C_gPart hd u1 w1 w2 hB hj hu (by rw [f 56 u (by omega)]; exact m1) (by rw [f 55 u (by omega)]; exact m2) (fun M1 r B1 hw1 f1 => nxt M1 r B1 hw1 (fun t' q e' => by omega) f1)
theorem C_find {K : wK} (hd : 3 ≤ d) (hP4 : P ≤ 4) (hx64 : x < 64) (hx : ¬ T x) (hv : VA fa fz T h) (hT : ∀ i, T i → i < 64) (hw : ∀ i, i < 64 → i = x ∨ T i → fz i ≤ 8 ∧ fa i < 900) (hlo : ∀ t, t < 8 → lo t = occ h t ∧ lo t ≤ P) (h55 : ∀ i, i < 64 → i = x ∨ T i → M 56 i = nI (fz i) ∧ M 55 i = nI (fa i)) (c57 : ∀ pl, pl < 64 → M 57 pl = poI (h pl)) (c58 : ∀ t, t < 8 → M 58 t = nI (lo t)) (hK1 : ∀ M1 h1 (lo1 : Nat → Nat), VA fa fz (tU T x) h1 → (∀ pl, pl < 64 → M1 57 pl = poI (h1 pl)) → (∀ t, t < 8 → M1 58 t = nI (lo1 t)) → (∀ t, t < 8 → lo1 t = occ h1 t ∧ lo1 t ≤ P) → fr WF M M1 → K 1 M1 ML R) (hK0 : ∀ M1, ¬ Fs fa fz P (tU T x) → (∀ pl, pl < 64 → M1 57 pl = poI (h pl)) → (∀ t, t < 8 → M1 58 t = nI (lo t)) → fr WF M M1 → K 0 M1 ML R) : wI d 37 [.ref 54, .int (nI x), .int (nI P)] M ML R K := by
  obtain ⟨d, rfl⟩ : ∃ e, d = e + 1 := ⟨d - 1, by omega⟩
  refine w37 (C_fill fm_s59 (by decide) (by omega) (-2) (fun M1 z1 f1 M2 e2 => ?_))
  have f2 : fr QF M M2 := by
    subst e2
    exact fr_u2 (f1.mono (fun a i z => Or.inl z)) (Or.inr (Or.inr ⟨rfl, rfl⟩))
  have B0 : BS fa fz h x [] M2 := by
    refine ⟨List.nodup_nil, fun v q => (by cases q), ?_, fun j q => absurd q (by simp), fun v q _ => ?_, fun j q => absurd q (by simp)⟩
    · subst e2; exact fm_u_at
    · subst e2; rw [fm_u_off (by decide)]; exact z1 v q
  refine C_reach0 (Q := []) (by omega) B0 (by omega) (Or.inl ⟨rfl, rfl, rfl⟩) (fun M3 r B3 hm f3 => ?_)
  rw [List.nil_append] at B3 hm
  have F := f2.tr f3
  exact C_bfs (by omega) hP4 hx64 hx hv hT hw hlo M h55 hK1 hK0 136 0 r M3 (by omega) (Nat.zero_le _) B3 hm (fun pl q => by rw [F 57 pl (by omega)]; exact c57 pl q) (fun t q => by rw [F 58 t (by omega)]; exact c58 t q) F (fun j' q => absurd q (by omega))
end cflow
