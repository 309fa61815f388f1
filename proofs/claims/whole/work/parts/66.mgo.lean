theorem bc_out : ∀ w, w < 256 → ∀ j, j < 8 → w.testBit j = true → bc (w &&& (255 - 1 <<< j)) + 1 = bc w := by decide +kernel
theorem bc_0 : ∀ w, w < 256 → bc w = 0 → w = 0 := by decide +kernel
theorem m_has {w : Nat} (hw : w < 256) {k : Nat} (hk : k < 8) : md_has (nI w) (nI k) = if w.testBit k = true then 1 else 0 := by
  rw [md_has, bt_get w hw k hk]
  by_cases h : w.testBit k = true
  · rw [if_pos h, if_neg (by decide)]
  · rw [if_neg h, if_pos (by decide)]
theorem bl_app : ∀ (l : List Nat) (x : Nat), bl (l ++ [x]) = bl l ||| 1 <<< x := by
  intro l x
  induction l with
  | nil => simp [bl]
  | cons j r ih => rw [List.cons_append, bl, bl, ih, Nat.or_assoc]
section mgo2
variable {a f : Nat → Int32} {g : gr} {B : Nat} {ts : List Nat}
theorem m_ah (hr : rr a g) (hg : gok g B) (hB : B < 2 ^ 21) (ht : ∀ k, k < ts.length → f k = nI (ts.getD k 0)) (hts : tsok ts) {p q : Nat} (hp : p < 8) (hq : q < 8) (p0 : 0 < g p) (q0 : 0 < g q) : ∀ n k, k + n = ts.length → md_ah a f p q n k = if g_ah g p q (ts.drop k) = true then 1 else 0 := by
  intro n
  induction n with
  | zero =>
    intro k hk
    rw [List.drop_eq_nil_of_le (by omega), md_ah, g_ah]
    by_cases h : p < q
    · rw [if_neg (fun z => absurd ((nI_leI (by omega) (by omega)).mp z) (by omega)), if_pos (by simp [h])]
    · rw [if_pos ((nI_leI (by omega) (by omega)).mpr (by omega)), if_neg (by simp [h])]
  | succ n ih =>
    intro k hk
    have hkl : k < ts.length := by omega
    rw [List.drop_eq_getElem_cons hkl, md_ah, g_ah, ht k hkl, getD_lt ts k hkl]
    obtain ⟨s1, s2⟩ := m_lead hr hg hB hp hq p0 q0 (hts.2 _ (List.getElem_mem hkl))
    by_cases h : g_ld g ts[k] p q = 0
    · rw [if_pos (s1.mpr h), if_pos h, ih (k + 1) (by omega)]
    · rw [if_neg (fun z => h (s1.mp z)), if_neg h]
      by_cases h2 : g_ld g ts[k] p q ≤ 0
      · rw [if_pos (s2.mpr h2), if_neg (by simp; omega)]
      · rw [if_neg (fun z => h2 (s2.mp z)), if_pos (by simp; omega)]
theorem m_ps (hr : rr a g) (hg : gok g B) (hB : B < 2 ^ 21) (ht : ∀ k, k < ts.length → f k = nI (ts.getD k 0)) (hts : tsok ts) {kept : Int32} {tk w : Nat} (htk : tk < 256) (hw : ∀ j, j < 8 → w.testBit j = ((g_w g kept).testBit j && !tk.testBit j)) : ∀ k, k ≤ 8 → md_ps a f ts.length kept (nI tk) k = g_pk g ts w k := by
  intro k
  induction k with
  | zero => intro _; rfl
  | succ k ih =>
    intro hk
    have ih := ih (by omega)
    have hwk := hw k (by omega)
    have hgp : ∀ j, j < 8 → w.testBit j = true → 0 < g j := fun j hj h => by
      rw [hw j hj] at h
      simp at h
      exact g_w_p hj h.1
    rw [g_w, bm_8 _ (show k < 8 by omega)] at hwk
    rw [md_ps, g_pk, m_has htk (by omega), m_rdy hr hg hB (by omega), ih]
    by_cases h1 : nI k = kept
    · rw [if_pos h1, if_neg (by rw [hwk]; simp [h1])]
    · rw [if_neg h1]
      by_cases h2 : tk.testBit k = true
      · rw [if_pos h2, if_pos (by decide), if_neg (by rw [hwk]; simp [h2])]
      · rw [if_neg h2, if_neg (fun z => z rfl)]
        by_cases h3 : g_rd g k = true
        · have hb : w.testBit k = true := by rw [hwk]; simp [h1, h2, h3]
          rw [if_pos h3, if_pos (by decide), if_pos hb]
          cases hz : g_pk g ts w k with
          | none => rfl
          | some j =>
            have hj := g_pk_some k j hz
            dsimp only
            rw [m_ah hr hg hB ht hts (by omega) (by omega) (hgp k (by omega) hb) (hgp j (by omega) hj.2) ts.length 0 (by omega), List.drop_zero]
            by_cases h4 : g_ah g k j ts = true
            · rw [if_pos h4, if_pos h4, if_neg (by decide)]
            · rw [if_neg h4, if_neg h4, if_pos rfl]
        · rw [if_neg h3, if_neg (fun z => z rfl), if_neg (by rw [hwk]; simp [h3])]
theorem g_pk_0 : g_pk g ts 0 8 = none := by
  cases hz : g_pk g ts 0 8 with
  | none => rfl
  | some j => have := (g_pk_some 8 j hz).2; simp at this
theorem g_pk_ne {w : Nat} (hw : w < 256) (h : ¬ w = 0) : ∃ j, g_pk g ts w 8 = some j ∧ j < 8 ∧ w.testBit j = true := by
  cases hz : g_pk g ts w 8 with
  | none => exact absurd ((bt_z hw).mpr (g_pk_none 8 hz)) h
  | some j => exact ⟨j, rfl, g_pk_some 8 j hz⟩
/-- the order of all those of w -/
theorem g_or_all : ∀ c w, w < 256 → bc w = c → (g_or g ts c w).length = c ∧ ∀ P, g_or g ts P w = (g_or g ts c w).take P := by
  intro c
  induction c with
  | zero =>
    intro w hw h
    have := bc_0 w hw h
    subst this
    refine ⟨rfl, fun P => ?_⟩
    cases P with
    | zero => rfl
    | succ P =>
      have e : g_or g ts (P + 1) 0 = [] := by rw [g_or, g_pk_0]
      rw [e]
      rfl
  | succ c ih =>
    intro w hw h
    obtain ⟨j, e, hj, hb⟩ := g_pk_ne (g := g) (ts := ts) hw (fun z => by subst z; revert h; rw [show bc 0 = 0 by decide]; intro h; omega)
    have h2 := bc_out w hw j hj hb
    obtain ⟨i1, i2⟩ := ih (w &&& (255 - 1 <<< j)) (bt_al hw) (by omega)
    have e2 : ∀ n, g_or g ts (n + 1) w = j :: g_or g ts n (w &&& (255 - 1 <<< j)) := fun n => by rw [g_or, e]
    refine ⟨by rw [e2, List.length_cons, i1], fun P => ?_⟩
    cases P with
    | zero => rfl
    | succ P => rw [e2, e2, List.take_succ_cons, i2 P]
theorem m_lo (hr : rr a g) (hg : gok g B) (hB : B < 2 ^ 21) (ht : ∀ k, k < ts.length → f k = nI (ts.getD k 0)) (hts : tsok ts) {kept : Int32} : ∀ c m w tk n ln, w < 256 → bc w = c → n + c ≤ 8 → c < m → tk < 256 → (∀ j, j < 8 → w.testBit j = ((g_w g kept).testBit j && !tk.testBit j)) → md_lo a f ts.length kept m (nI tk) n ln = some (n + c, fun j => if n ≤ j ∧ j < n + c then nI ((g_or g ts c w).getD (j - n) 0) else ln j) := by
  intro c
  induction c with
  | zero =>
    intro m w tk n ln hw h _ hm htk hwt
    obtain ⟨m, rfl⟩ : ∃ k, m = k + 1 := ⟨m - 1, by omega⟩
    have := bc_0 w hw h
    subst this
    rw [md_lo, m_ps hr hg hB ht hts htk hwt 8 (by omega), g_pk_0]
    dsimp only
    congr 2
    funext j
    rw [if_neg (by omega)]
  | succ c ih =>
    intro m w tk n ln hw h hn hm htk hwt
    obtain ⟨m, rfl⟩ : ∃ k, m = k + 1 := ⟨m - 1, by omega⟩
    obtain ⟨j, e, hj, hb⟩ := g_pk_ne (g := g) (ts := ts) hw (fun z => by subst z; revert h; rw [show bc 0 = 0 by decide]; intro h; omega)
    have h2 := bc_out w hw j hj hb
    rw [md_lo, m_ps hr hg hB ht hts htk hwt 8 (by omega), e]
    dsimp only
    rw [if_pos (by omega), bt_or tk htk j hj, ih m (w &&& (255 - 1 <<< j)) (tk ||| 1 <<< j) (n + 1) _ (bt_al hw) (by omega) (by omega) (by omega) (bt_lt htk (bt_o8 j hj)) (fun i hi => by
      rw [Nat.testBit_and, bt_tb j hj i hi, hwt i hi, Nat.testBit_or, bt_1]
      by_cases z : i = j <;> simp [z]), g_or, e]
    congr 2
    · omega
    · funext i
      by_cases z1 : n + 1 ≤ i ∧ i < n + 1 + c
      · rw [if_pos z1, if_pos (by omega), show i - n = (i - (n + 1)) + 1 by omega, List.getD_cons_succ]
      · rw [if_neg z1]
        by_cases z2 : i = n
        · subst z2
          rw [if_pos (by omega), Nat.sub_self, List.getD_cons_zero, upd_same]
        · rw [if_neg (by omega), upd_ne z2]
theorem m_bits {ln : Nat → Int32} {l : List Nat} (hl : ∀ j ∈ l, j < 8) (h : ∀ j, j < l.length → ln j = nI (l.getD j 0)) : ∀ k, k ≤ l.length → md_bits ln k = nI (bl (l.take k)) := by
  intro k
  induction k with
  | zero => intro _; rfl
  | succ k ih =>
    intro hk
    have hk2 : k < l.length := by omega
    rw [md_bits, ih (by omega), h k hk2, getD_lt l k hk2, List.take_succ_eq_append_getElem hk2, bl_app]
    exact bt_or _ (bl_lt _ (fun j hj => hl j (List.mem_of_mem_take hj))) _ (hl _ (List.getElem_mem hk2))
theorem m_d2 {w : Nat} (hw : w < 256) : ∀ k, k ≤ 8 → ∀ x, md_d2 a (nI w) k x = if 32 ≤ x ∧ x < 32 + k ∧ w.testBit (x - 32) = true then a x + 1 else a x := by
  intro k
  induction k with
  | zero => intro _ x; rw [if_neg (by omega)]; rfl
  | succ k ih =>
    intro hk x
    have ih := ih (by omega)
    rw [md_d2, m_has hw (by omega)]
    by_cases h : w.testBit k = true
    · rw [if_pos h, if_neg (by decide)]
      by_cases e : x = 32 + k
      · subst e
        rw [upd_same, ih, if_neg (by omega), if_pos ⟨by omega, by omega, by rw [show 32 + k - 32 = k by omega]; exact h⟩]
      · rw [upd_ne e, ih]
        by_cases z : 32 ≤ x ∧ x < 32 + k ∧ w.testBit (x - 32) = true
        · rw [if_pos z, if_pos ⟨z.1, by omega, z.2.2⟩]
        · rw [if_neg z, if_neg (fun y => z ⟨y.1, by omega, y.2.2⟩)]
    · rw [if_neg h, if_pos rfl, ih]
      by_cases z : 32 ≤ x ∧ x < 32 + k ∧ w.testBit (x - 32) = true
      · rw [if_pos z, if_pos ⟨z.1, by omega, z.2.2⟩]
      · rw [if_neg z, if_neg (fun y => z ⟨y.1, by
          rcases Nat.lt_or_ge x (32 + k) with q | q
          · exact q
          · have e : x - 32 = k := by omega
            rw [e] at y
            exact absurd y.2.2 h, y.2.2⟩)]
theorem m_d2r (hr : rr a g) {w : Nat} (hw : w < 256) : rr (md_d2 a (nI w) 8) (g_d2 g w) := by
  intro k hk
  rw [m_d2 hw 8 (by omega), g_d2]
  by_cases z : 32 ≤ k ∧ k < 32 + 8 ∧ w.testBit (k - 32) = true
  · rw [if_pos z, if_pos ⟨z.1, by omega, z.2.2⟩, hr k hk, nI_1]
  · rw [if_neg z, if_neg (fun y => z ⟨y.1, by omega, y.2.2⟩), hr k hk]
theorem m_ms (hr : rr a g) (hg : gok g B) (hB : B < 2 ^ 21) {w : Nat} (hw : w < 256) : ∀ k, k ≤ 8 → md_ms (md_d2 a (nI w) 8) k = nI (g_ms (g_d2 g w) k) := by
  intro k
  induction k with
  | zero => intro _; rfl
  | succ k ih =>
    intro hk
    have ih := ih (by omega)
    have hk8 : k < 8 := by omega
    have h2 := m_d2r hr hw
    have lo : ∀ x, x < 32 → md_d2 a (nI w) 8 x = a x := fun x hx => by rw [m_d2 hw 8 (by omega), if_neg (by omega)]
    have e1 : md_th (md_d2 a (nI w) 8) k = md_th a k := by rw [md_th, md_th, lo _ (by omega)]
    have e2 : ∀ i, md_dl (md_d2 a (nI w) 8) k i = md_dl a k i := fun i => by rw [md_dl, md_dl, lo _ (by omega), lo _ (by omega), lo _ (by omega)]
    have e3 : md_d2 a (nI w) 8 (32 + k) + 1 = nI (g_nx (g_d2 g w) k) := by rw [h2 _ (by omega), nI_1]
    have e4 : md_d2 a (nI w) 8 41 + 1 = nI (g 41 + 1) := by rw [h2 _ (by omega), nI_1, g_d2_lo (by omega)]
    have hn := g_nx_lt2 hg hB hk8
    have hd : g_nx (g_d2 g w) k ≤ g_nx g k + 1 := by
      show g_d2 g w (32 + k) + 1 ≤ _
      rw [g_d2_dn hk8]
      unfold g_nx
      split <;> omega
    have h4 := hg.2.2.1
    rw [md_ms, ih, e1, m_th hr hg hk8, e2, e3, e4]
    show _ = nI (bm _ (k + 1))
    rw [bm]
    have lo2 : g_d2 g w k = g k := g_d2_lo (by omega)
    have e5 : g_d2 g w 41 = g 41 := g_d2_lo (by omega)
    rw [lo2, e5]
    by_cases h : 0 < g k
    · have b := g_dl_lt (i := g_nx (g_d2 g w) k) hg (by omega) hk8 (by omega)
      have e6 : g_dl (g_d2 g w) k (g_nx (g_d2 g w) k) = g_dl g k (g_nx (g_d2 g w) k) := (g_cg (g_d2_lo (by omega)) (g_d2_lo (by omega)) (g_d2_lo (by omega)) _).2.1
      rw [if_pos h, if_neg (by decide), m_dl hr hg (by omega) hk8 h (by omega), e6]
      by_cases h3 : g_dl g k (g_nx (g_d2 g w) k) = g 41 + 1
      · rw [h3, if_neg (fun z => z rfl), if_pos (by simp [h])]
        exact bt_or _ (bm_lt _ k (by omega)) k hk8
      · rw [if_pos (fun z => h3 ((nI_eq (by omega) (by omega)).mp z)), if_neg (by simp [h3])]
        rfl
    · rw [if_neg h, if_pos rfl, if_neg (by simp [h])]
      rfl
theorem m_gs (hr : rr a g) (hg : gok g B) (hB : B < 2 ^ 21) {w : Nat} (hw : w < 256) : rr (md_gs a (nI w)) (g_st g w) := by
  have h2 := m_d2r hr hw
  intro k hk
  rw [md_gs, m_ms hr hg hB hw 8 (by omega), h2 42 (by omega), h2 41 (by omega)]
  by_cases e : k = 41
  · subst e
    rw [upd_same, nI_1, g_d2_lo (by omega), g_st_41]
  · rw [upd_ne e]
    by_cases e2 : k = 42
    · subst e2
      rw [upd_same, show jd_bc (nI (g_ms (g_d2 g w) 8)) = nI (bc (g_ms (g_d2 g w) 8)) from bt_bc _ (bm_lt _ 8 (by omega)), nI_add, g_d2_lo (by omega), g_st_42]
    · rw [upd_ne e2, h2 k hk, g_st_d2 (by omega)]
end mgo2
/-- a SLOT goes by in the reference's row -/
theorem m_go {d r tt B : Nat} {M : Nat → Nat → Int32} {ML : Nat → Nat → Int64} {R : Nat → Nat → Option Nat} {g : gr} {ts : List Nat} {K : wK} (hd : 7 ≤ d) (hr : fm_N r) (hr2 : ¬ r = 223) (ht : md_ti (M, ML, R) tt ts.length) (htt : ∀ k, k < ts.length → M tt k = nI (ts.getD k 0)) (hts : tsok ts) (ha : rr (M r) g) (hg : gok g B) (hB : B < 2 ^ 21) (kept : Int32)
    (hK : ∀ M1, (∀ c, ¬ c = 219 → ¬ c = 223 → ¬ c = r → M1 c = M c) → (∀ i, ¬ i = 22 → ¬ i = 23 → M1 219 i = M 219 i) → M1 219 22 = nI (bc (g_w g kept)) → M1 219 23 = nI (g_ms (g_d2 g (g_rn g ts kept)) 8) → rr (M1 r) (g_go g ts kept) → K (nI (g_rn g ts kept)) M1 ML R) : wI d 172 [.ref 219, .ref r, .int kept] M ML R K := by
  have hr3 : ¬ r = 219 := fun q => by subst q; have z : fm_sh 219 = .inl (0, 43) := hr; rw [fm_s219] at z; cases z
  have lo := m_lo ha hg hB htt hts (kept := kept) (bc (g_w g kept)) 9 (g_w g kept) 0 0 (M 223) (g_w_lt g kept) rfl (by have := bc_le (g_w g kept); omega) (by have := bc_le (g_w g kept); omega) (by decide) (fun j hj => by simp)
  rw [Nat.zero_add, nI_0] at lo
  obtain ⟨o1, o2⟩ := g_or_all (g := g) (ts := ts) (bc (g_w g kept)) (g_w g kept) (g_w_lt g kept) rfl
  have hw : md_w (M r) (fun j => if 0 ≤ j ∧ j < bc (g_w g kept) then nI ((g_or g ts (bc (g_w g kept)) (g_w g kept)).getD (j - 0) 0) else M 223 j) (bc (g_w g kept)) (g 40) = nI (g_rn g ts kept) := by
    rw [md_w, m_bits (l := g_or g ts (bc (g_w g kept)) (g_w g kept)) (fun j hj => (g_or_mem _ _ j hj).1) (fun j hj => by rw [o1] at hj; rw [if_pos ⟨by omega, hj⟩, Nat.sub_zero]) _ (by rw [o1]; omega), g_rn, o2 (g 40)]
    congr 2
    rcases Nat.le_total (bc (g_w g kept)) (g 40) with q | q
    · rw [Nat.min_eq_left q, List.take_of_length_le (by omega), List.take_of_length_le (by omega)]
    · rw [Nat.min_eq_right q]
  have hgk : ∀ k, k < 8 → ¬ M r k = 0 → md_gok (M r) k (nx (M r) k) := fun k hk h0 => by
    have h00 : 0 < g k := by
      rcases Nat.eq_zero_or_pos (g k) with z | z
      · rw [ha k (by omega), z] at h0
        exact absurd nI_0 h0
      · exact z
    have hn := g_nx_lt2 hg hB hk
    rw [nx, m_nx ha hk]
    exact (m_gp ha hg (by omega) hk h00 hn.1 (by omega)).2
  have t := t_mgoSlot hr hr2 M ML R tt ts.length (g 40) ht (by have := hg.2.1; omega) (ha 40 (by omega)) hgk kept _ lo (bc_le _)
  dsimp only at t
  rw [hw] at t
  refine wI_of t hd (hK _ (fun c h1 h2 h3 => ?_) (fun i h1 h2 => ?_) ?_ ?_ ?_)
  · rw [md_gsM, fm_row_off h3, fm_u_off h1, fm_u_off h1, fm_row_off h2]
  · rw [md_gsM, fm_row_off (fun z => hr3 z.symm), fm_u_ix h2, fm_u_ix h1, fm_row_off (by decide)]
  · rw [md_gsM, fm_row_off (fun z => hr3 z.symm), fm_u_ix (by decide), fm_u_at]
  · rw [md_gsM, fm_row_off (fun z => hr3 z.symm), fm_u_at, m_ms ha hg hB (g_rn_lt g ts kept) 8 (by omega)]
  · rw [md_gsM, fm_row_row]
    exact m_gs ha hg hB (g_rn_lt g ts kept)
