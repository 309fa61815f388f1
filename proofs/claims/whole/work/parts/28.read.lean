theorem wd_lf_in (M : Nat → Nat → Int32) (b : Nat) : ∀ n k, k + n = 8 → wd_lf M b n k = -1 ∨ vp_in (wd_lf M b n k) 8 := by
  intro n
  induction n with
  | zero => intro k _; exact Or.inl rfl
  | succ n ih =>
    intro k hk
    rw [wd_lf]
    split
    · exact ih (k + 1) (by omega)
    · exact Or.inr (nI8_in k (by omega))
theorem wd_lf_cg {M M' : Nat → Nat → Int32} {b : Nat} (h : M' (b + 2) = M (b + 2)) : ∀ n k, wd_lf M' b n k = wd_lf M b n k := by
  intro n
  induction n with
  | zero => intro k; rfl
  | succ n ih => intro k; rw [wd_lf, wd_lf, h, ih]
/-- a line from p on: the fault or -1, where it ends, the TASK -/
def rl2 (f : Nat → Int32) (bd p : Nat) (e : Int32) (pe : Nat) : Int32 × Nat × Option (Int32 × Int32 × Int32) :=
  if e = 0 then (nI pe, pe, none) else if bd ≤ pe then (nI pe, pe, none) else if f pe = 47 then
    (if ¬ (rn f bd (pe + 1)).1 = 0 then
      (if (rn f bd (pe + 1)).1 ≤ 12 then
        (if e ≤ (rn f bd (pe + 1)).1 then
          (if bd ≤ (rn f bd (pe + 1)).2 then (-1, (rn f bd (pe + 1)).2, some (e, (rn f bd (pe + 1)).1, 0)) else if ¬ f (rn f bd (pe + 1)).2 = 101 then (-1, (rn f bd (pe + 1)).2, some (e, (rn f bd (pe + 1)).1, 0)) else (-1, (rn f bd (pe + 1)).2 + 1, some (e, (rn f bd (pe + 1)).1, 1)))
        else (nI p, (rn f bd (pe + 1)).2, none))
      else (nI (pe + 1), (rn f bd (pe + 1)).2, none))
    else (nI (rn f bd (pe + 1)).2, (rn f bd (pe + 1)).2, none))
  else (nI pe, pe, none)
def rl (f : Nat → Int32) (bd p : Nat) (lf : Int32) : Int32 × Nat × Option (Int32 × Int32 × Int32) := if ¬ lf = -1 then rl2 f bd p (rn f bd p).1 (rn f bd p).2 else rl2 f bd p 0 p
def rl_M (M : Nat → Nat → Int32) (b : Nat) (lf : Int32) (r : Int32 × Nat × Option (Int32 × Int32 × Int32)) : Nat → Nat → Int32 := match r.2.2 with
  | none => fm_u M 38 2 (nI r.2.1)
  | some t => wd_entM (fm_u M 38 2 (nI r.2.1)) b lf.toNatClampNeg t.1 t.2.1 t.2.2
set_option maxRecDepth 20000 in
set_option maxHeartbeats 1000000 in
theorem t_readLine_2 {b : Nat} (hw : fm_W b) (hb38 : b + 10 < 38) (M : Nat → Nat → Int32) (ML : Nat → Nat → Int64) (R : Nat → Nat → Option Nat) (n p bd : Nat) (lf : Int32) (hn : n ≤ 80) (hs : M 38 1 = nI n) (hb : M 38 3 = nI bd) (hbd : bd ≤ n) (e : Int32) (pe : Nat) (hpe : pe ≤ bd) (he : 0 ≤ e.toInt ∧ e.toInt ≤ 99) (hlf : ¬ e = 0 → vp_in lf 8) :
    mj_Rn 4 (some .int) kX5_readLine (fun v g => v = some (.int (rl2 (M 39) bd p e pe).1) ∧ g = fm_mk (rl_M M b lf (rl2 (M 39) bd p e pe), ML, R)) (fm_mk (fm_u M 38 2 (nI pe), ML, R)) 23 [some (.ref 38), some (.ref b), some (.int lf), some (.int (nI p)), none, none, none, none] [.int e] := by
  have h39 : ∀ x, fm_u M 38 2 x 39 = M 39 := fun x => fm_u_off (by decide)
  have kr := fun q hq => t_readNumber (fm_u M 38 2 (nI q)) ML R n q bd hn (by rw [fm_u_ix (by decide)]; exact hs) fm_u_at (by rw [fm_u_ix (by decide)]; exact hb) hbd hq
  have ke := fun q e' p' ea ht he' hp' => t_enter hw (fm_u M 38 2 (nI q), ML, R) lf e' p' ea ht he' hp'
  have hw := hw.1
  have stop : ∀ L, mj_Rn 4 (some .int) kX5_readLine (fun v g => v = some (.int (nI pe)) ∧ g = fm_mk (fm_u M 38 2 (nI pe), ML, R)) (fm_mk (fm_u M 38 2 (nI pe), ML, R)) 55 [some (.ref 38), some (.ref b), some (.int lf), some (.int (nI p)), L, none, none, none] [] := by
    intro L
    refine mj_auto8 [] 50 rfl ?_
    refine fn_gI fm_s38 rfl rfl rfl ?_
    rw [fm_u_at]
    exact mj_rt rfl rfl rfl ⟨rfl, rfl⟩
  refine mj_auto8 [55] 50 rfl ?_
  refine mj_if rfl rfl (fun c1 => ?_) (fun c1 => ?_)
  · rw [rl2, if_pos c1]
    exact stop _
  rw [rl2, if_neg c1]
  refine mj_auto8 [55] 50 rfl ?_
  refine fn_gI fm_s38 rfl rfl rfl ?_
  refine mj_auto8 [55] 50 rfl ?_
  refine fn_gI fm_s38 rfl rfl rfl ?_
  rw [fm_u_at, fm_u_ix (show ¬ 3 = 2 by decide), hb]
  refine mj_if rfl rfl (fun c2 => ?_) (fun c2 => ?_)
  · rw [if_pos ((nI_leI (by omega) (by omega)).mp c2)]
    exact stop _
  have hpe2 : ¬ bd ≤ pe := fun q => c2 ((nI_leI (by omega) (by omega)).mpr q)
  rw [if_neg hpe2]
  refine mj_auto8 [55] 50 rfl ?_
  refine fn_gR fm_s38 rfl rfl rfl ?_
  refine mj_auto8 [55] 50 rfl ?_
  refine fn_gI fm_s38 rfl rfl rfl ?_
  rw [fm_u_at]
  refine fn_ldc fm_s39 rfl (in_nI (by omega) (by omega)) ?_
  rw [nI_clamp (by omega), h39]
  refine mj_auto8 [55] 50 rfl ?_
  refine mj_if rfl rfl (fun c3 => ?_) (fun c3 => ?_)
  rotate_left
  · rw [if_neg c3]
    exact stop _
  rw [if_pos c3]
  refine mj_auto8 [] 50 rfl ?_
  refine fn_gI fm_s38 rfl rfl rfl ?_
  rw [fm_u_at]
  refine mj_auto8 [] 50 rfl ?_
  rw [nI_1]
  refine fn_pI fm_s38 rfl rfl rfl rfl ?_
  rw [fm_u_u]
  refine mj_auto8 [] 50 rfl ?_
  refine fn_gI fm_s38 rfl rfl rfl ?_
  rw [fm_u_at]
  refine mj_auto8 [] 50 rfl ?_
  have kr := kr (pe + 1) (by omega)
  rw [h39, fm_u_u] at kr
  have hq := rn_ge (M 39) bd (pe + 1) (by omega)
  generalize rn (M 39) bd (pe + 1) = z at kr hq ⊢
  obtain ⟨w, q⟩ := z
  dsimp only at kr hq ⊢
  refine mj_cvB kr (fm_o fm_s38) rfl rfl rfl rfl rfl ⟨rfl, rfl⟩ rfl ?_
  refine mj_auto8 [] 50 rfl ?_
  refine mj_if rfl rfl (fun c4 => ?_) (fun c4 => ?_)
  rotate_left
  · rw [if_neg c4]
    refine mj_auto8 [] 50 rfl ?_
    refine fn_gI fm_s38 rfl rfl rfl ?_
    rw [fm_u_at]
    exact mj_rt rfl rfl rfl ⟨rfl, rfl⟩
  rw [if_pos c4]
  refine mj_auto8 [] 50 rfl ?_
  refine mj_if rfl rfl (fun c5 => ?_) (fun c5 => ?_)
  rotate_left
  · rw [if_neg c5]
    refine mj_auto8 [] 50 rfl ?_
    exact mj_rt rfl rfl rfl ⟨rfl, rfl⟩
  rw [if_pos c5]
  refine mj_auto8 [] 50 rfl ?_
  refine mj_if rfl rfl (fun c6 => ?_) (fun c6 => ?_)
  rotate_left
  · rw [if_neg c6]
    refine mj_auto8 [] 50 rfl ?_
    exact mj_rt rfl rfl rfl ⟨rfl, rfl⟩
  rw [if_pos c6]
  have hw1 : 1 ≤ w := by
    rw [Int32.le_iff_toInt_le] at c6 ⊢
    have e1 : (1 : Int32).toInt = 1 := rfl
    have e0 : ¬ e.toInt = 0 := fun z => c1 (Int32.toInt_inj.mp z)
    omega
  refine mj_auto8 [] 50 rfl ?_
  refine fn_gI fm_s38 rfl rfl rfl ?_
  refine mj_auto8 [] 50 rfl ?_
  refine fn_gI fm_s38 rfl rfl rfl ?_
  rw [fm_u_at, fm_u_ix (show ¬ 3 = 2 by decide), hb]
  have late : mj_Rn 4 (some .int) kX5_readLine (fun v g => v = some (.int (-1)) ∧ g = fm_mk (rl_M M b lf (-1, q, some (e, w, 0)), ML, R)) (fm_mk (fm_u M 38 2 (nI q), ML, R)) 140 [some (.ref 38), some (.ref b), some (.int lf), some (.int (nI p)), some (.int e), some (.int (nI (pe + 1))), some (.int w), none] [] := by
    refine mj_auto8 [] 50 rfl ?_
    refine mj_if rfl rfl (fun c => ?_) (fun c => absurd rfl c)
    refine mj_auto8 [] 50 rfl ?_
    refine mj_if rfl rfl (fun c => ?_) (fun c => absurd rfl c)
    refine mj_auto8 [] 50 rfl ?_
    refine mj_cvB (ke q e w 0 (hlf c1) ⟨he.1, by omega⟩ hw1) (fm_o hw) rfl rfl rfl rfl rfl ⟨rfl, rfl⟩ rfl ?_
    refine mj_auto8 [] 50 rfl ?_
    exact mj_rt rfl rfl rfl ⟨rfl, rfl⟩
  refine mj_if rfl rfl (fun c7 => ?_) (fun c7 => ?_)
  · rw [if_pos ((nI_leI (by omega) (by omega)).mp c7)]
    exact late
  have hq2 : ¬ bd ≤ q := fun z => c7 ((nI_leI (by omega) (by omega)).mpr z)
  rw [if_neg hq2]
  refine mj_auto8 [] 50 rfl ?_
  refine fn_gR fm_s38 rfl rfl rfl ?_
  refine mj_auto8 [] 50 rfl ?_
  refine fn_gI fm_s38 rfl rfl rfl ?_
  rw [fm_u_at]
  refine fn_ldc fm_s39 rfl (in_nI (by omega) (by omega)) ?_
  rw [nI_clamp (by omega), h39]
  refine mj_auto8 [] 50 rfl ?_
  refine mj_if rfl rfl (fun c8 => ?_) (fun c8 => ?_)
  · rw [if_pos c8]
    exact late
  rw [if_neg c8]
  refine mj_auto8 [] 50 rfl ?_
  refine mj_if rfl rfl (fun c => absurd c (by decide)) (fun c => ?_)
  refine mj_auto8 [] 50 rfl ?_
  refine fn_gI fm_s38 rfl rfl rfl ?_
  rw [fm_u_at]
  refine mj_auto8 [] 50 rfl ?_
  rw [nI_1]
  refine fn_pI fm_s38 rfl rfl rfl rfl ?_
  rw [fm_u_u]
  refine mj_auto8 [] 50 rfl ?_
  refine mj_if rfl rfl (fun c => absurd c (by decide)) (fun c => ?_)
  refine mj_auto8 [] 50 rfl ?_
  refine mj_cvB (ke (q + 1) e w 1 (hlf c1) ⟨he.1, by omega⟩ hw1) (fm_o hw) rfl rfl rfl rfl rfl ⟨rfl, rfl⟩ rfl ?_
  refine mj_auto8 [] 50 rfl ?_
  exact mj_rt rfl rfl rfl ⟨rfl, rfl⟩
set_option maxRecDepth 20000 in
theorem t_readLine {b : Nat} (hw : fm_W b) (hb38 : b + 10 < 38) (M : Nat → Nat → Int32) (ML : Nat → Nat → Int64) (R : Nat → Nat → Option Nat) (n p bd : Nat) (hn : n ≤ 80) (hs : M 38 1 = nI n) (hp : M 38 2 = nI p) (hb : M 38 3 = nI bd) (hbd : bd ≤ n) (hpb : p ≤ bd) :
    mj_big 5 26 [.ref 38, .ref b] (fm_mk (M, ML, R)) (some (.int (rl (M 39) bd p (wd_lf M b 8 0)).1)) (fm_mk (rl_M M b (wd_lf M b 8 0) (rl (M 39) bd p (wd_lf M b 8 0)), ML, R)) := by
  have k1 := t_leastFree hw (M, ML, R)
  have k2 := t_readNumber M ML R n p bd hn hs hp hb hbd hpb
  have hlf := wd_lf_in M b 8 0 rfl
  dsimp only at k1
  generalize wd_lf M b 8 0 = lf at k1 hlf ⊢
  refine mj_ofB _ _ rfl rfl rfl ?_
  refine mj_auto8 [] 50 rfl ?_
  refine mj_cvB k1 (fm_o hw.1) rfl rfl rfl rfl rfl ⟨rfl, rfl⟩ rfl ?_
  refine mj_auto8 [] 50 rfl ?_
  refine fn_gI fm_s38 rfl rfl rfl ?_
  rw [hp]
  refine mj_auto8 [] 50 rfl ?_
  refine mj_if rfl rfl (fun c1 => ?_) (fun c1 => ?_)
  · rw [rl, if_pos c1]
    refine mj_auto8 [] 50 rfl ?_
    refine mj_cvB k2 (fm_o fm_s38) rfl rfl rfl rfl rfl ⟨rfl, rfl⟩ rfl ?_
    exact t_readLine_2 hw hb38 M ML R n p bd lf hn hs hb hbd _ _ (rn_ge (M 39) bd p hpb).2 (rn_bd (M 39) bd p) (fun _ => hlf.resolve_left c1)
  · rw [rl, if_neg c1]
    have q := t_readLine_2 hw hb38 M ML R n p bd lf hn hs hb hbd 0 p hpb (by decide) (fun h => absurd rfl h)
    rw [fm_u_self hp] at q
    refine mj_steps (pc' := 23) (L' := [some (.ref 38), some (.ref b), some (.int lf), some (.int (nI p)), none, none, none, none]) (st' := [.int 0]) 2 rfl ?_
    exact q
