section order2
variable {d B : Nat} {g gk : gr} {ts tx : List Nat} {rw : List Int64} {un : List gr} {kp : Nat → Option gr} {he sa : List (Nat × Nat)} {M0 M : Nat → Nat → Int32} {L0 ML : Nat → Nat → Int64} {R0 R : Nat → Nat → Option Nat}
def q_or (g : gr) (ts : List Nat) : List Nat := g_or g ts (bc (g_w g (-1))) (g_w g (-1))
theorem q_or_len : (q_or g ts).length = bc (g_w g (-1)) := (g_or_all _ _ (g_w_lt g (-1)) rfl).1
theorem C_order1 (hd : 4 ≤ d) (hts : tsok ts) (hg : gok g B) (hB : B < 2 ^ 20) {N : Nat} (hN : N ≤ 8) : ∀ c w k, w < 256 → bc w = c → k + c = N → (∀ j, j < 8 → w.testBit j = true → 0 < g j) → ∀ {acc : List Int64} {M : Nat → Nat → Int32} {ML : Nat → Nat → Int64}, acc.length = k → BC g ts acc M0 L0 M ML → H93_23 d (nI w) (nI N) (nI k) M ML R (CQ (nI N) (acc ++ (g_or g ts c w).map nL) M0 L0 R) := by
  intro c
  induction c with
  | zero =>
    intro w k hw hc hk hp acc M ML ha h
    refine h93_23 ⟨fun _ => ?_, fun z => absurd ((nI_leI (by omega) (by omega)).mpr (by omega)) z⟩
    rw [g_or, List.map_nil, List.append_nil]
    exact h.q
  | succ c ih =>
    intro w k hw hc hk hp acc M ML ha h
    refine h93_23 ⟨fun z => absurd ((nI_leI (by omega) (by omega)).mp z) (by omega), fun _ => ?_⟩
    obtain ⟨j, e, hj, hb⟩ := g_pk_ne (g := g) (ts := ts) hw (fun z => by subst z; revert hc; rw [show bc 0 = 0 by decide]; intro h; omega)
    have h2 := bc_out w hw j hj hb
    refine C_first fm_W1 fm_T40 hd h.1 hg (by omega) h.2.1 hts hw hp ?_
    rw [e, g_or, e]
    dsimp only [ov]
    refine B_add (by omega) h (by omega) _ (fun M1 L1 h1 _ _ => ?_)
    rw [bt_out w hw j hj, nI_1, List.map_cons, show acc ++ nL j :: List.map nL (g_or g ts c (w &&& (255 - 1 <<< j))) = (acc ++ [nL j]) ++ List.map nL (g_or g ts c (w &&& (255 - 1 <<< j))) by simp]
    exact ih _ (k + 1) (bt_al hw) (by omega) (by omega) (fun i hi hb => hp i hi (by rw [Nat.testBit_and] at hb; simp at hb; exact hb.1)) (by simp; omega) h1
theorem C_order (hd : 4 ≤ d) (h : IC g un kp tx ts rw he sa M ML R) (hs : SO g un kp ts B) (hB : B < 2 ^ 20) : wI (d + 1) 93 [.ref 0] M ML R (CQ (nI (bc (g_w g (-1)))) ((q_or g ts).map nL) M ML R) := by
  refine w93 (B_clear (by omega) h.b (fun M1 h1 _ => ?_))
  refine C_rset fm_W1 (by omega) h1.1 hs.1 (by omega) (-1) ?_
  refine R_bc (by omega) (g_w_lt g (-1)) ?_
  have := C_order1 (R := R) hd hs.2.2.2 hs.1 hB (bc_le (g_w g (-1))) _ (g_w g (-1)) 0 (g_w_lt g (-1)) rfl (by omega) (fun j hj hb => g_w_p hj hb) (acc := []) rfl h1
  rw [List.nil_append] at this
  exact this
theorem R_layOrder {K : wK} (hd : 6 ≤ d) (h : BR g ts rw M0 L0 R0 M ML R) (hts : tsok ts) (hg : gok g B) (hB : B < 2 ^ 20) (hK : ∀ M1, BR g ts rw M0 L0 R0 M1 ML R → (∀ j, j < (q_or g ts).length → M1 223 j = nI ((q_or g ts).getD j 0)) → fr (fun a _ => a = 223) M M1 → K (nI (q_or g ts).length) M1 ML R) : wI d 150 [.ref 219, .ref 220, .int (-1)] M ML R K := by
  have ht := h.2.1
  have ha := h.1
  have lo := m_lo ha hg (by omega) ht.2.2.2 hts (kept := -1) (bc (g_w g (-1))) 9 (g_w g (-1)) 0 0 (M 223) (g_w_lt g (-1)) rfl (by have := bc_le (g_w g (-1)); omega) (by have := bc_le (g_w g (-1)); omega) (by decide) (fun j hj => by simp)
  rw [Nat.zero_add, nI_0] at lo
  have hgk : ∀ k, k < 8 → ¬ M 220 k = 0 → md_gok (M 220) k (nx (M 220) k) := fun k hk h0 => by
    have h00 : 0 < g k := by
      rcases Nat.eq_zero_or_pos (g k) with z | z
      · rw [ha k (by omega), z] at h0
        exact absurd nI_0 h0
      · exact z
    have hn := g_nx_lt2 hg (by omega) hk
    rw [nx, m_nx ha hk]
    exact (m_gp ha hg (by omega) hk h00 hn.1 (by omega)).2
  have t := t_mlayOrder fm_N220 (by decide) M ML R 244 ts.length ⟨ht.1, fm_s244, ht.2.2.1, hts.1⟩ hgk (-1) _ lo
  dsimp only at t
  rw [q_or_len] at hK
  have f : fr (fun a _ => a = 223) M (fm_row M 223 (fun j => if 0 ≤ j ∧ j < bc (g_w g (-1)) then nI ((g_or g ts (bc (g_w g (-1))) (g_w g (-1))).getD (j - 0) 0) else M 223 j)) := fr_row (fun _ => rfl)
  refine wI_of t hd (hK _ (h.f (f.mono (fun a i z => by omega))) (fun j hj => ?_) f)
  rw [fm_row_row, if_pos ⟨by omega, hj⟩, Nat.sub_zero]
  rfl
theorem R_order1 (hd : 1 ≤ d) (l : List Nat) (hl : l.length ≤ 8) : ∀ n k, k + n = l.length → ∀ {acc : List Int64} {M : Nat → Nat → Int32} {ML : Nat → Nat → Int64}, acc.length = k → (∀ j, j < l.length → M 223 j = nI (l.getD j 0)) → BR g ts acc M0 L0 R0 M ML R → H189_22 d (nI l.length) (nI k) M ML R (RQ (nI l.length) (acc ++ (l.drop k).map nL) M0 L0 R0) := by
  intro n
  induction n with
  | zero =>
    intro k hk acc M ML ha hj h
    refine h189_22 ⟨fun _ => ?_, fun z => absurd ((nI_leI (by omega) (by omega)).mpr (by omega)) z⟩
    rw [List.drop_eq_nil_of_le (by omega), List.map_nil, List.append_nil]
    exact h.q
  | succ n ih =>
    intro k hk acc M ML ha hj h
    refine h189_22 ⟨fun z => absurd ((nI_leI (by omega) (by omega)).mp z) (by omega), fun _ => ⟨k, rfl, by omega, ?_⟩⟩
    rw [hj k (by omega)]
    refine B_tell hd h (by omega) _ (fun M1 L1 h1 f1 _ => ?_)
    have hk2 : k < l.length := by omega
    rw [nI_1, List.drop_eq_getElem_cons hk2, List.map_cons, ← getD_lt l k hk2, show acc ++ nL (l.getD k 0) :: List.map nL (l.drop (k + 1)) = (acc ++ [nL (l.getD k 0)]) ++ List.map nL (l.drop (k + 1)) by simp]
    exact ih (k + 1) (by omega) (by simp; omega) (fun j h => by rw [f1 223 j (by omega)]; exact hj j h) h1
theorem R_order (hd : 6 ≤ d) (h : IR g un kp tx ts rw he sa M ML R) (hs : SO g un kp ts B) (hB : B < 2 ^ 20) : wI (d + 1) 189 [.ref 219] M ML R (RQ (nI (bc (g_w g (-1)))) ((q_or g ts).map nL) M ML R) := by
  have hb := h.b.u (a := 219) (i := 5) (x := 0) (by omega)
  have hl := bc_le (g_w g (-1))
  refine w189 (fun M1 e1 => ?_)
  subst e1
  refine R_layOrder hd hb hs.2.2.2 hs.1 hB (fun M2 h2 j2 _ M3 e3 => ?_)
  subst e3
  have := R_order1 (d := d) (by omega) (q_or g ts) (by rw [q_or_len]; exact hl) (q_or g ts).length 0 (by omega) (acc := []) rfl (fun j hj => by rw [fm_u_off (by decide)]; exact j2 j hj) h2.z
  rw [List.nil_append, List.drop_zero] at this
  rw [← q_or_len (g := g) (ts := ts)]
  exact this
/-! ahead -/
def q_al (q : Nat) (l : List Nat) : List Nat := l.takeWhile (fun j => decide (¬ j = q))
theorem q_al_y (q : Nat) (l : List Nat) : q_al q (q :: l) = [] := by simp [q_al]
theorem q_al_n {q j : Nat} (l : List Nat) (h : ¬ j = q) : q_al q (j :: l) = j :: q_al q l := by simp [q_al, h]
theorem C_ahead1 (hd : 4 ≤ d) (hts : tsok ts) (hg : gok g B) (hB : B < 2 ^ 20) {q : Nat} (hq : q < 8) : ∀ c w k, w < 256 → bc w = c → k + c ≤ 8 → w.testBit q = true → (∀ j, j < 8 → w.testBit j = true → 0 < g j) → ∀ {acc : List Int64} {M : Nat → Nat → Int32} {ML : Nat → Nat → Int64}, acc.length = k → BC g ts acc M0 L0 M ML → H95_45 d (nI q) (nI w) (nI k) M ML R (CQ (nI (k + (q_al q (g_or g ts c w)).length)) (acc ++ (q_al q (g_or g ts c w)).map nL) M0 L0 R) := by
  intro c
  induction c with
  | zero =>
    intro w k hw hc hk ht hp acc M ML ha h
    have := bc_0 w hw hc
    subst this
    simp at ht
  | succ c ih =>
    intro w k hw hc hk ht hp acc M ML ha h
    refine h95_45 ⟨fun z => absurd ((nI_leI (a := 8) (by decide) (by omega)).mp z) (by omega), fun _ => ?_⟩
    obtain ⟨j, e, hj, hb⟩ := g_pk_ne (g := g) (ts := ts) hw (fun z => by subst z; simp at ht)
    have h2 := bc_out w hw j hj hb
    refine C_first fm_W1 fm_T40 hd h.1 hg (by omega) h.2.1 hts hw hp ?_
    rw [e, g_or, e]
    dsimp only [ov]
    by_cases z : j = q
    · subst z
      rw [q_al_y, List.map_nil, List.append_nil]
      exact ⟨fun _ => h.q, fun y => absurd rfl y⟩
    · rw [q_al_n _ z]
      refine ⟨fun y => absurd (nI_inj8 hj hq y) z, fun _ => ⟨fun _ => ?_, fun y => absurd y (nI_nm1 (by omega))⟩⟩
      refine B_add (by omega) h (by omega) _ (fun M1 L1 h1 _ _ => ?_)
      rw [bt_out w hw j hj, nI_1, List.map_cons, List.length_cons, show ∀ x : List Nat, acc ++ nL j :: List.map nL x = (acc ++ [nL j]) ++ List.map nL x from fun x => by simp, show k + ((q_al q (g_or g ts c (w &&& (255 - 1 <<< j)))).length + 1) = k + 1 + (q_al q (g_or g ts c (w &&& (255 - 1 <<< j)))).length by omega]
      exact ih (w &&& (255 - 1 <<< j)) (k + 1) (bt_al hw) (by omega) (by omega) (by rw [Nat.testBit_and, bt_tb j hj q hq, ht, decide_eq_true (show ¬ q = j from fun y => z y.symm)]; rfl) (fun i hi hb => hp i hi (by rw [Nat.testBit_and] at hb; simp at hb; exact hb.1)) (by simp; omega) h1
theorem g_w_rd {q : Nat} (hq : q < 8) : (g_w g (-1)).testBit q = g_rd g q := by
  rw [g_w, bm_8 _ hq]
  simp [nI_nm1 (show q < 2 ^ 31 by omega)]
theorem C_ahead (hd : 4 ≤ d) (h : IC g un kp tx ts rw he sa M ML R) (hs : SO g un kp ts B) (hB : B < 2 ^ 20) (t : Int32) : (∀ q, q < 8 → t = nI q → 0 < g q → wI (d + 1) 95 [.ref 0, .int t] M ML R (if g_rd g q = true then CQ (nI (q_al q (q_or g ts)).length) ((q_al q (q_or g ts)).map nL) M ML R else CQ (-2) rw M ML R)) ∧ (¬ th g t → wI (d + 1) 95 [.ref 0, .int t] M ML R (CQ (-1) rw M ML R)) := by
  constructor
  · rintro q hq rfl h0
    refine w95 (C_th fm_W1 (by omega) h.2.1 hs.1 _ (fun q' hq' e h0' => ⟨fun _ => ?_, fun z => absurd z (by decide)⟩) (fun z => absurd ((th_nI hq).mpr h0) z))
    refine C_rdy fm_W1 (by omega) h.2.1 hs.1 (by omega) hq ?_
    by_cases z : g_rd g q = true
    · rw [if_pos z, if_pos z]
      refine ⟨fun _ => ?_, fun y => absurd y (by decide)⟩
      refine B_clear (by omega) h.b (fun M1 h1 _ => ?_)
      refine C_rset fm_W1 (by omega) h1.1 hs.1 (by omega) (-1) ?_
      have := C_ahead1 (R := R) hd hs.2.2.2 hs.1 hB hq _ (g_w g (-1)) 0 (g_w_lt g (-1)) rfl (by have := bc_le (g_w g (-1)); omega) (by rw [g_w_rd hq]; exact z) (fun j hj hb => g_w_p hj hb) (acc := []) rfl h1
      rw [List.nil_append, Nat.zero_add] at this
      exact this
    · rw [if_neg z, if_neg z]
      exact ⟨fun y => absurd rfl y, fun _ => h.b.q⟩
  · intro z
    exact w95 (C_th fm_W1 (by omega) h.2.1 hs.1 _ (fun q' hq' e h0' => absurd ⟨q', hq', e, h0'⟩ z) (fun _ => ⟨fun y => absurd rfl y, fun _ => h.b.q⟩))
theorem R_ahead1 (hd : 1 ≤ d) (l : List Nat) (hl : l.length ≤ 8) (hl8 : ∀ j ∈ l, j < 8) {q : Nat} (hq : q < 8) : ∀ n k, k + n = l.length → q ∈ l.drop k → ∀ {acc : List Int64} {M : Nat → Nat → Int32} {ML : Nat → Nat → Int64}, acc.length = k → (∀ j, j < l.length → M 223 j = nI (l.getD j 0)) → BR g ts acc M0 L0 R0 M ML R → H192_44 d (nI q) M ML R (RQ (nI (k + (q_al q (l.drop k)).length)) (acc ++ (q_al q (l.drop k)).map nL) M0 L0 R0) := by
  intro n
  induction n with
  | zero =>
    intro k hk hm
    rw [List.drop_eq_nil_of_le (by omega)] at hm
    cases hm
  | succ n ih =>
    intro k hk hm acc M ML ha hj h
    have hk2 : k < l.length := by omega
    have e4 : M 219 4 = nI k := by rw [h.2.2.1.1, ha]
    have hlk := hl8 _ (List.getElem_mem hk2)
    refine h192_44 ⟨k, e4, by omega, ?_⟩
    rw [List.drop_eq_getElem_cons hk2] at hm
    rw [hj k hk2, getD_lt l k hk2, e4, List.drop_eq_getElem_cons hk2]
    by_cases z : l[k] = q
    · rw [z, q_al_y, List.map_nil, List.append_nil]
      exact ⟨fun _ => h.q, fun y => absurd rfl y⟩
    · rw [q_al_n _ z]
      refine ⟨fun y => absurd (nI_inj8 hlk hq y) z, fun _ => ⟨k, rfl, by omega, ?_⟩⟩
      rw [hj k hk2, getD_lt l k hk2]
      refine B_tell hd h (by omega) _ (fun M1 L1 h1 f1 _ => ?_)
      rw [List.map_cons, List.length_cons, show ∀ x : List Nat, acc ++ nL l[k] :: List.map nL x = (acc ++ [nL l[k]]) ++ List.map nL x from fun x => by simp, show ∀ x : Nat, k + (x + 1) = (k + 1) + x from fun x => by omega]
      refine ih (k + 1) (by omega) ?_ (by simp; omega) (fun j h => by rw [f1 223 j (by omega)]; exact hj j h) h1
      rcases List.mem_cons.mp hm with y | y
      · exact absurd y.symm z
      · exact y
theorem R_ahead (hd : 6 ≤ d) (h : IR g un kp tx ts rw he sa M ML R) (hs : SO g un kp ts B) (hB : B < 2 ^ 20) (t : Int32) : (∀ q, q < 8 → t = nI q → 0 < g q → wI (d + 1) 192 [.ref 219, .int t] M ML R (if g_rd g q = true then RQ (nI (q_al q (q_or g ts)).length) ((q_al q (q_or g ts)).map nL) M ML R else RQ (-2) rw M ML R)) ∧ (¬ th g t → wI (d + 1) 192 [.ref 219, .int t] M ML R (RQ (-1) rw M ML R)) := by
  have hb := h.b.u (a := 219) (i := 5) (x := 0) (by omega)
  constructor
  · rintro q hq rfl h0
    refine w192 (fun M1 e1 => ?_)
    subst e1
    refine R_task (by omega) hb.1 hs.1 _ (fun q' hq' e h0' => ⟨fun _ => ?_, fun z => absurd z (by decide)⟩) (fun z => absurd ((th_nI hq).mpr h0) z)
    refine R_rdy fm_N220 (by omega) hb.1 hs.1 (by omega) hq ?_
    by_cases z : g_rd g q = true
    · rw [if_pos z, if_pos z]
      refine ⟨fun _ => ?_, fun y => absurd y (by decide)⟩
      refine R_layOrder hd hb hs.2.2.2 hs.1 hB (fun M2 h2 j2 _ M3 e3 => ?_)
      subst e3
      have := R_ahead1 (d := d) (by omega) (q_or g ts) (by rw [q_or_len]; exact bc_le _) (fun j hj => (g_or_mem _ _ j hj).1) hq (q_or g ts).length 0 (by omega) (by rw [List.drop_zero]; exact g_or_in hq _ _ (g_w_lt g (-1)) rfl (by rw [g_w_rd hq]; exact z)) (acc := []) rfl (fun j hj => by rw [fm_u_off (by decide)]; exact j2 j hj) h2.z
      rw [List.nil_append, List.drop_zero, Nat.zero_add] at this
      exact this
    · rw [if_neg z, if_neg z]
      exact ⟨fun y => absurd rfl y, fun _ => hb.q⟩
  · intro z
    refine w192 (fun M1 e1 => ?_)
    subst e1
    exact R_task (by omega) hb.1 hs.1 _ (fun q' hq' e h0' => absurd ⟨q', hq', e, h0'⟩ z) (fun _ => ⟨fun y => absurd rfl y, fun _ => hb.q⟩)
end order2
