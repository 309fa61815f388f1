/-! the class looks for a way -/
def eg (fa fz : Nat → Nat) (h : Nat → Option Nat) (u v : Nat) : Prop := (u < 64 ∧ ∃ pl, pl < 64 ∧ fl_in fa fz u pl ∧ v = 64 + pl) ∨ (∃ pl, pl < 64 ∧ u = 64 + pl ∧ ((h pl = none ∧ v = 128 + pl % 8) ∨ h pl = some v)) ∨ (∃ t, t < 8 ∧ u = 128 + t ∧ ∃ pl, pl < 64 ∧ pl % 8 = t ∧ ¬ h pl = none ∧ v = 64 + pl)
def BS (fa fz : Nat → Nat) (h : Nat → Option Nat) (x : Nat) (Q : List Nat) (M : Nat → Nat → Int32) : Prop := Q.Nodup ∧ (∀ v, v ∈ Q → v < 136) ∧ M 54 6 = nI Q.length ∧ (∀ j, j < Q.length → M 60 j = nI (Q.getD j 0)) ∧ (∀ v, v < 136 → ¬ v ∈ Q → M 59 v = -2) ∧ (∀ j, j < Q.length → (j = 0 ∧ Q.getD j 0 = x ∧ M 59 (Q.getD j 0) = -1) ∨ (∃ j', j' < j ∧ M 59 (Q.getD j 0) = nI (Q.getD j' 0) ∧ eg fa fz h (Q.getD j' 0) (Q.getD j 0)))
abbrev QF (a i : Nat) : Prop := a = 59 ∨ a = 60 ∨ (a = 54 ∧ i = 6)
section bfs
variable {fa fz : Nat → Nat} {d x u v P : Nat} {h : Nat → Option Nat} {Q Q1 : List Nat} {M M1 : Nat → Nat → Int32} {ML : Nat → Nat → Int64} {R : Nat → Nat → Option Nat}
theorem gd_mem {j : Nat} (hj : j < Q.length) : Q.getD j 0 ∈ Q := by
  rw [List.getD_eq_getElem?_getD, List.getElem?_eq_getElem hj, Option.getD_some]
  exact List.getElem_mem hj
theorem gd_of (hv : v ∈ Q) : ∃ j, j < Q.length ∧ Q.getD j 0 = v := by
  obtain ⟨j, hj, e⟩ := List.getElem_of_mem hv
  exact ⟨j, hj, by rw [List.getD_eq_getElem?_getD, List.getElem?_eq_getElem hj, Option.getD_some]; exact e⟩
theorem gd_app {r : List Nat} {j : Nat} (hj : j < Q.length) : (Q ++ r).getD j 0 = Q.getD j 0 := by
  rw [List.getD_eq_getElem?_getD, List.getD_eq_getElem?_getD, List.getElem?_append_left hj]
theorem gd_last : (Q ++ [v]).getD Q.length 0 = v := by
  rw [List.getD_eq_getElem?_getD]
  simp
theorem gd_inj (hn : Q.Nodup) {i j : Nat} (hi : i < Q.length) (hj : j < Q.length) (e : Q.getD i 0 = Q.getD j 0) : i = j := by
  rw [List.getD_eq_getElem?_getD, List.getD_eq_getElem?_getD, List.getElem?_eq_getElem hi, List.getElem?_eq_getElem hj, Option.getD_some, Option.getD_some] at e
  exact (List.getElem_inj hn).mp e
theorem BS_seen (hB : BS fa fz h x Q M) (hv : v ∈ Q) : ¬ M 59 v = -2 := by
  obtain ⟨b1, b2, b3, b4, b5, b6⟩ := hB
  obtain ⟨j, hj, e⟩ := gd_of hv
  have := b6 j hj
  rw [e] at this
  rcases this with ⟨_, _, w⟩ | ⟨j', hj', w, _⟩
  · rw [w]; decide
  · rw [w]
    have h1 := b2 _ (gd_mem (show j' < Q.length by omega))
    have k : ∀ n, n < 136 → ¬ nI n = -2 := by decide +kernel
    exact k _ h1
theorem BS_len (hB : BS fa fz h x Q M) (hv : v < 136) (hn : ¬ v ∈ Q) : Q.length < 136 := by
  have := pig (v :: Q) (List.range 136) (List.nodup_cons.mpr ⟨hn, hB.1⟩) (fun z hz => by
    rcases List.mem_cons.mp hz with rfl | hz
    · exact List.mem_range.mpr hv
    · exact List.mem_range.mpr (hB.2.1 z hz))
  rw [List.length_cons, List.length_range] at this
  exact this
theorem BS_add (hB : BS fa fz h x Q M) (hv : v < 136) (hn : ¬ v ∈ Q) {a : Int32} (ha : (Q.length = 0 ∧ v = x ∧ a = -1) ∨ (∃ j', j' < Q.length ∧ a = nI (Q.getD j' 0) ∧ eg fa fz h (Q.getD j' 0) v)) : BS fa fz h x (Q ++ [v]) (fm_u (fm_u (fm_u M 59 v a) 60 Q.length (nI v)) 54 6 (nI (Q.length + 1))) := by
  obtain ⟨b1, b2, b3, b4, b5, b6⟩ := hB
  have e59 : ∀ k, fm_u (fm_u (fm_u M 59 v a) 60 Q.length (nI v)) 54 6 (nI (Q.length + 1)) 59 k = fm_u M 59 v a 59 k := fun k => by rw [fm_u_off (by decide), fm_u_off (by decide)]
  refine ⟨List.nodup_append.mpr ⟨b1, by simp, ?_⟩, fun w hw => ?_, ?_, fun j hj => ?_, fun w hw hw2 => ?_, fun j hj => ?_⟩
  · intro a ha b hb
    have : b = v := by simpa using hb
    rw [this]
    exact fun e => hn (by rw [← e]; exact ha)
  · rcases List.mem_append.mp hw with hw | hw
    · exact b2 w hw
    · have : w = v := by simpa using hw
      rw [this]; exact hv
  · rw [fm_u_at, List.length_append, List.length_singleton]
  · rw [List.length_append, List.length_singleton] at hj
    rw [fm_u_off (by decide)]
    by_cases z : j = Q.length
    · rw [z, fm_u_at, gd_last]
    · rw [fm_u_ix z, fm_u_off (by decide), gd_app (by omega)]
      exact b4 j (by omega)
  · have n1 : ¬ w ∈ Q := fun y => hw2 (List.mem_append.mpr (Or.inl y))
    have n2 : ¬ w = v := fun y => hw2 (List.mem_append.mpr (Or.inr (by rw [y]; simp)))
    rw [e59, fm_u_ix n2]
    exact b5 w hw n1
  · rw [List.length_append, List.length_singleton] at hj
    rw [e59]
    by_cases z : j = Q.length
    · rw [z, gd_last, fm_u_at]
      rcases ha with ⟨a1, a2, a3⟩ | ⟨j', a1, a2, a3⟩
      · exact Or.inl ⟨a1, a2, a3⟩
      · exact Or.inr ⟨j', a1, by rw [gd_app a1]; exact a2, by rw [gd_app a1]; exact a3⟩
    · have hj2 : j < Q.length := by omega
      rw [gd_app hj2, fm_u_ix (fun e => hn (by rw [← e]; exact gd_mem hj2))]
      rcases b6 j hj2 with w | ⟨j', a1, a2, a3⟩
      · exact Or.inl w
      · exact Or.inr ⟨j', a1, by rw [gd_app (by omega)]; exact a2, by rw [gd_app (by omega)]; exact a3⟩
/-- reach -/
theorem C_reach0 {K : wKv} {a : Int32} (hd : 1 ≤ d) (hB : BS fa fz h x Q M) (hv : v < 136) (ha : (Q.length = 0 ∧ v = x ∧ a = -1) ∨ (∃ j', j' < Q.length ∧ a = nI (Q.getD j' 0) ∧ eg fa fz h (Q.getD j' 0) v)) (hK : ∀ M1 r, BS fa fz h x (Q ++ r) M1 → v ∈ Q ++ r → fr QF M M1 → K M1 ML R) : wV d 38 [.ref 54, .int (nI v), .int a] M ML R K := by
  obtain ⟨d, rfl⟩ : ∃ e, d = e + 1 := ⟨d - 1, by omega⟩
  refine w38 ⟨v, rfl, hv, ?_⟩
  by_cases z : v ∈ Q
  · exact ⟨fun _ => hK M [] (by rw [List.append_nil]; exact hB) (by rw [List.append_nil]; exact z) fr.rfl, fun y => absurd y (BS_seen hB z)⟩
  · have hl := BS_len hB hv z
    refine ⟨fun y => absurd (hB.2.2.2.2.1 v hv z) y, fun _ => ⟨fun y => ?_, fun _ => ⟨v, rfl, hv, fun M2 e2 => ⟨Q.length, ?_, hl, fun M3 e3 M4 e4 => ?_⟩⟩⟩⟩
    · rw [hB.2.2.1] at y
      exact absurd ((nI_leI (a := 136) (by decide) (by omega)).mp y) (by omega)
    · rw [e2, fm_u_off (by decide)]; exact hB.2.2.1
    · have e4' : M4 = fm_u (fm_u (fm_u M 59 v a) 60 Q.length (nI v)) 54 6 (nI (Q.length + 1)) := by
        rw [e4, e3, e2, fm_u_off (by decide), fm_u_off (by decide), hB.2.2.1, nI_1]
      refine hK M4 [v] (by rw [e4']; exact BS_add hB hv z ha) (by simp) ?_
      rw [e4']
      exact fr_u2 (fr_u2 (fr_u (Or.inl rfl)) (Or.inr (Or.inl rfl))) (Or.inr (Or.inr ⟨rfl, rfl⟩))
theorem C_reach {K : wKv} {jj : Nat} (hd : 1 ≤ d) (hB : BS fa fz h x Q M) (hv : v < 136) (hj : jj < Q.length) (he : eg fa fz h (Q.getD jj 0) v) (hK : ∀ M1 r, BS fa fz h x (Q ++ r) M1 → v ∈ Q ++ r → fr QF M M1 → K M1 ML R) : wV d 38 [.ref 54, .int (nI v), .int (nI (Q.getD jj 0))] M ML R K :=
  C_reach0 hd hB hv (Or.inr ⟨jj, hj, rfl, he⟩) hK
/-- goOnFromPart -/
theorem C_gPart1 {K : wKv} {jj : Nat} (hd : 1 ≤ d) (hu : u < 64) (hz : fz u ≤ 8) : ∀ k s Q M, fz u ≤ s + k → fa u ≤ s → s < 1000 → BS fa fz h x Q M → jj < Q.length → Q.getD jj 0 = u → M 56 u = nI (fz u) → (∀ pl, pl < 64 → fl_in fa fz u pl → pl % 8 < s → 64 + pl ∈ Q) → (∀ M1 r, BS fa fz h x (Q ++ r) M1 → (∀ pl, pl < 64 → fl_in fa fz u pl → 64 + pl ∈ Q ++ r) → fr QF M M1 → K M1 ML R) → H39_14 d (nI u) (nI (u / 8 * 8)) (nI s) M ML R K := by
  intro k
  induction k with
  | zero =>
    intro s Q M hk hf hs hB hj hQ hM hw hK
    refine h39_14 ⟨u, rfl, hu, ?_⟩
    rw [hM]
    refine ⟨fun _ => hK M [] (by rw [List.append_nil]; exact hB) (fun pl hp hi => by rw [List.append_nil]; exact hw pl hp hi (by have := hi.2.2; omega)) fr.rfl, fun y => absurd ((nI_leI (by omega) (by omega)).mpr (by omega)) y⟩
  | succ k ih =>
    intro s Q M hk hf hs hB hj hQ hM hw hK
    refine h39_14 ⟨u, rfl, hu, ?_⟩
    rw [hM]
    refine ⟨fun y => ?_, fun y => ⟨fun w => ?_, fun _ => ?_⟩⟩
    · have y2 := (nI_leI (by omega) (by omega)).mp y
      exact hK M [] (by rw [List.append_nil]; exact hB) (fun pl hp hi => by rw [List.append_nil]; exact hw pl hp hi (by have := hi.2.2; omega)) fr.rfl
    · exact absurd ((nI_leI (a := 8) (by decide) (by omega)).mp w) (by have := Nat.lt_of_not_le (fun w => y ((nI_leI (by omega) (by omega)).mpr w)); omega)
    · have y2 : s < fz u := Nat.lt_of_not_le (fun w => y ((nI_leI (by omega) (by omega)).mpr w))
      have ev : (64 : Int32) + nI (u / 8 * 8) + nI s = nI (64 + (u / 8 * 8 + s)) := by
        rw [show (64 : Int32) + nI (u / 8 * 8) = nI (64 + u / 8 * 8) from nI_add 64 _, nI_add, Nat.add_assoc]
      have hin : fl_in fa fz u (u / 8 * 8 + s) := ⟨by omega, by omega, by omega⟩
      rw [ev, nI_1]
      have e := C_reach (K := fun M2 L2 R2 => H39_14 d (nI u) (nI (u / 8 * 8)) (nI (s + 1)) M2 L2 R2 K) (ML := ML) (R := R) hd hB (show 64 + (u / 8 * 8 + s) < 136 by omega) hj (by rw [hQ]; exact Or.inl ⟨hu, _, by omega, hin, rfl⟩) (fun M1 r B1 hm f1 => ?_)
      · rw [hQ] at e; exact e
      · refine ih (s + 1) (Q ++ r) M1 (by omega) (by omega) (by omega) B1 (by rw [List.length_append]; omega) (by rw [gd_app hj]; exact hQ) (by rw [f1 56 u (by omega)]; exact hM) (fun pl hp hi h8 => ?_) (fun M2 r2 B2 hw2 f2 => ?_)
        · by_cases z : pl % 8 = s
          · have : pl = u / 8 * 8 + s := by have := hi.1; omega
            rw [this]; exact hm
          · exact List.mem_append.mpr (Or.inl (hw pl hp hi (by omega)))
        · rw [List.append_assoc] at B2 hw2
          exact hK M2 (r ++ r2) B2 hw2 (f1.tr f2)
theorem C_gPart {K : wKv} {jj : Nat} (hd : 2 ≤ d) (hu : u < 64) (hz : fz u ≤ 8) (hf : fa u < 900) (hB : BS fa fz h x Q M) (hj : jj < Q.length) (hQ : Q.getD jj 0 = u) (hM : M 56 u = nI (fz u)) (hM2 : M 55 u = nI (fa u)) (hK : ∀ M1 r, BS fa fz h x (Q ++ r) M1 → (∀ v, eg fa fz h u v → v ∈ Q ++ r) → fr QF M M1 → K M1 ML R) : wV d 39 [.ref 54, .int (nI u)] M ML R K := by
  obtain ⟨d, rfl⟩ : ∃ e, d = e + 1 := ⟨d - 1, by omega⟩
  have e8 : nI u - (nI u - nI u / 8 * 8) = nI (u / 8 * 8) := by
    rw [show nI u / 8 = nI (u / 8) from nI_div (b := 8) (by omega) (by decide), show nI (u / 8) * 8 = nI (u / 8 * 8) from nI_mul _ 8, nI_sub (by omega), nI_sub (by omega)]
    congr 1
    omega
  refine w39 ⟨u, rfl, hu, ?_⟩
  rw [e8, hM2]
  refine C_gPart1 (by omega) hu hz 8 (fa u) Q M (by omega) (Nat.le_refl _) (by omega) hB hj hQ hM (fun pl _ hi w => absurd hi.2.1 (by omega)) (fun M1 r B1 hw f1 => hK M1 r B1 (fun v he => ?_) f1)
  rcases he with ⟨_, pl, h1, h2, h3⟩ | ⟨pl, h1, h2, _⟩ | ⟨t, h1, h2, _⟩
  · rw [h3]; exact hw pl h1 h2
  · omega
  · omega
/-- goOnFromPlace -/
def poI (o : Option Nat) : Int32 := match o with
  | none => -1
  | some i => nI i
theorem C_gPlace {K : wKv} {jj pl : Nat} (hd : 2 ≤ d) (hp : pl < 64) (hB : BS fa fz h x Q M) (hj : jj < Q.length) (hQ : Q.getD jj 0 = 64 + pl) (hM : M 57 pl = poI (h pl)) (hy : ∀ y, h pl = some y → y < 64) (hK : ∀ M1 r, BS fa fz h x (Q ++ r) M1 → (∀ v, eg fa fz h (64 + pl) v → v ∈ Q ++ r) → fr QF M M1 → K M1 ML R) : wV d 40 [.ref 54, .int (nI pl)] M ML R K := by
  obtain ⟨d, rfl⟩ : ∃ e, d = e + 1 := ⟨d - 1, by omega⟩
  have e64 : (64 : Int32) + nI pl = nI (Q.getD jj 0) := by rw [hQ]; exact nI_add 64 _
  have e8 : (128 : Int32) + (nI pl - nI pl / 8 * 8) = nI (128 + pl % 8) := by
    rw [show nI pl / 8 = nI (pl / 8) from nI_div (b := 8) (by omega) (by decide), show nI (pl / 8) * 8 = nI (pl / 8 * 8) from nI_mul _ 8, nI_sub (by omega), show (128 : Int32) + nI (pl - pl / 8 * 8) = nI (128 + (pl - pl / 8 * 8)) from nI_add 128 _]
    congr 1
    omega
  refine w40 ⟨pl, rfl, hp, ?_⟩
  rw [hM, e64, e8]
  cases e : h pl with
  | none =>
    refine ⟨fun y => absurd rfl y, fun _ => C_reach (by omega) hB (by omega) hj (by rw [hQ]; exact Or.inr (Or.inl ⟨pl, hp, rfl, Or.inl ⟨e, rfl⟩⟩)) (fun M1 r B1 hm f1 => hK M1 r B1 (fun v he => ?_) f1)⟩
    rcases he with ⟨h1, _⟩ | ⟨pl', h1, h2, h3⟩ | ⟨t, h1, h2, _⟩
    · omega
    · have : pl' = pl := by omega
      subst this
      rcases h3 with h3 | h3
      · rw [h3.2]; exact hm
      · rw [e] at h3; cases h3
    · omega
  | some y =>
    have hy64 := hy y e
    refine ⟨fun _ => ⟨pl, rfl, hp, ?_⟩, fun w => absurd w (nI_nm1 (by omega))⟩
    rw [hM, e]
    refine C_reach (by omega) hB (by omega) hj (by rw [hQ]; exact Or.inr (Or.inl ⟨pl, hp, rfl, Or.inr e⟩)) (fun M1 r B1 hm f1 => hK M1 r B1 (fun v he => ?_) f1)
    rcases he with ⟨h1, _⟩ | ⟨pl', h1, h2, h3⟩ | ⟨t, h1, h2, _⟩
    · omega
    · have : pl' = pl := by omega
      subst this
      rcases h3 with h3 | h3
      · rw [e] at h3; cases h3.1
      · rw [e] at h3; cases h3; exact hm
    · omega
/-- goOnFromSlot -/
theorem C_gSlot1 {K : wKv} {jj t : Nat} (hd : 1 ≤ d) (ht : t < 8) : ∀ k q Q M, q + k = 8 → BS fa fz h x Q M → jj < Q.length → Q.getD jj 0 = 128 + t → (∀ pl, pl < 64 → M 57 pl = poI (h pl)) → (∀ pl, pl < 64 → ∀ y, h pl = some y → y < 64) → (∀ pl, pl < 64 → pl % 8 = t → pl / 8 < q → ¬ h pl = none → 64 + pl ∈ Q) → (∀ M1 r, BS fa fz h x (Q ++ r) M1 → (∀ v, eg fa fz h (128 + t) v → v ∈ Q ++ r) → fr QF M M1 → K M1 ML R) → H41_2 d (nI t) (nI q) M ML R K := by
  intro k
  induction k with
  | zero =>
    intro q Q M hk hB hj hQ hM hy hw hK
    refine h41_2 ⟨fun _ => hK M [] (by rw [List.append_nil]; exact hB) (fun v he => ?_) fr.rfl, fun y => absurd ((nI_leI (a := 8) (by decide) (by omega)).mpr (by omega)) y⟩
    rw [List.append_nil]
    rcases he with ⟨h1, _⟩ | ⟨pl, h1, h2, _⟩ | ⟨t', h1, h2, pl, h3, h4, h5, h6⟩
    · omega
    · omega
    · rw [h6]; exact hw pl h3 (by omega) (by omega) h5
  | succ k ih =>
    intro q Q M hk hB hj hQ hM hy hw hK
    have ix : nI q * 8 + nI t = nI (8 * q + t) := by
      rw [show nI q * 8 = nI (q * 8) from nI_mul q 8, nI_add, Nat.mul_comm]
    have hpl : 8 * q + t < 64 := by omega
    refine h41_2 ⟨fun y => absurd ((nI_leI (a := 8) (by decide) (by omega)).mp y) (by omega), fun _ => ⟨8 * q + t, ix, hpl, ?_⟩⟩
    rw [hM _ hpl, nI_1, ix]
    cases e : h (8 * q + t) with
    | none =>
      refine ⟨fun _ => ih (q + 1) Q M (by omega) hB hj hQ hM hy (fun pl hp h1 h2 h3 => ?_) hK, fun w => absurd rfl w⟩
      by_cases z : pl / 8 = q
      · have : pl = 8 * q + t := by omega
        rw [this] at h3; exact absurd e h3
      · exact hw pl hp h1 (by omega) h3
    | some y =>
      have hy64 := hy _ hpl y e
      refine ⟨fun w => absurd w (nI_nm1 (by omega)), fun _ => ?_⟩
      rw [show (128 : Int32) + nI t = nI (Q.getD jj 0) by rw [hQ]; exact nI_add 128 t, show (64 : Int32) + nI (8 * q + t) = nI (64 + (8 * q + t)) from nI_add 64 _]
      refine C_reach (by omega) hB (by omega) hj (by rw [hQ]; exact Or.inr (Or.inr ⟨t, ht, rfl, 8 * q + t, hpl, by omega, by rw [e]; exact fun w => (by cases w), rfl⟩)) (fun M1 r B1 hm f1 => ?_)
      refine ih (q + 1) (Q ++ r) M1 (by omega) B1 (by rw [List.length_append]; omega) (by rw [gd_app hj]; exact hQ) (fun pl hp => by rw [f1 57 pl (by omega)]; exact hM pl hp) hy (fun pl hp h1 h2 h3 => ?_) (fun M2 r2 B2 hw2 f2 => ?_)
      · by_cases z : pl / 8 = q
        · have : pl = 8 * q + t := by omega
          rw [this]; exact hm
        · exact List.mem_append.mpr (Or.inl (hw pl hp h1 (by omega) h3))
      · rw [List.append_assoc] at B2 hw2
        exact hK M2 (r ++ r2) B2 hw2 (f1.tr f2)
theorem C_gSlot {K : wKv} {jj t : Nat} (hd : 2 ≤ d) (ht : t < 8) (hB : BS fa fz h x Q M) (hj : jj < Q.length) (hQ : Q.getD jj 0 = 128 + t) (hM : ∀ pl, pl < 64 → M 57 pl = poI (h pl)) (hy : ∀ pl, pl < 64 → ∀ y, h pl = some y → y < 64) (hK : ∀ M1 r, BS fa fz h x (Q ++ r) M1 → (∀ v, eg fa fz h (128 + t) v → v ∈ Q ++ r) → fr QF M M1 → K M1 ML R) : wV d 41 [.ref 54, .int (nI t)] M ML R K := by
  obtain ⟨d, rfl⟩ : ∃ e, d = e + 1 := ⟨d - 1, by omega⟩
  exact w41 (C_gSlot1 (by omega) ht 8 0 Q M (by omega) hB hj hQ hM hy (fun pl _ _ w => absurd w (by omega)) hK)
end bfs
