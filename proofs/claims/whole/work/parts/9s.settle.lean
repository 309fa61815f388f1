/-! the class's way is gone -/
section settle
variable {fa fz : Nat → Nat} {d x u v P : Nat} {h : Nat → Option Nat} {T : Nat → Prop} {lo : Nat → Nat} {Q : List Nat} {M M1 Mq : Nat → Nat → Int32} {ML : Nat → Nat → Int64} {R : Nat → Nat → Option Nat}
theorem C_settle {K : wKv} {x1 : Int32} (hB : BS fa fz h x Q Mq) (hx64 : x < 64) (hT : ∀ i, T i → i < 64) (hh : ∀ pl, pl < 64 → ∀ y, h pl = some y → y < 64) (hx : ¬ T x) (hK : ∀ M1 h1, VA fa fz (tU T x) h1 → (∀ pl, pl < 64 → M1 57 pl = poI (h1 pl)) → (∀ s, s < 8 → lo s = occ h1 s) → (∀ a i, ¬ a = 57 → M1 a i = Mq a i) → K M1 ML R) : ∀ j, j < Q.length →
    (∀ t b k M, t < 8 → Q.getD j 0 = 128 + t → k + j < 136 → (∀ a i, ¬ a = 57 → M a i = Mq a i) → VA fa fz T b → (∀ pl, pl < 64 → M 57 pl = poI (b pl)) → (∀ s, s < 8 → lo s = occ b s + ei s t) → (∀ j', j' < j → ∀ pl, pl < 64 → Q.getD j' 0 = 64 + pl → b pl = h pl) → H42_4 d x1 (nI (Q.getD j 0)) (nI k) M ML R K) ∧
    (∀ pl b k M, pl < 64 → Q.getD j 0 = 64 + pl → k + j < 136 → (∀ a i, ¬ a = 57 → M a i = Mq a i) → VA fa fz T b → b pl = none → (∀ pl', pl' < 64 → ¬ pl' = pl → M 57 pl' = poI (b pl')) → (∀ s, s < 8 → lo s = occ b s + ei s (pl % 8)) → (∀ j', j' < j → ∀ pl, pl < 64 → Q.getD j' 0 = 64 + pl → b pl = h pl) → H42_4 d x1 (nI (Q.getD j 0)) (nI k) M ML R K) ∧
    (∀ y pl b k M, y < 64 → Q.getD j 0 = y → pl < 64 → k + j < 136 → (∀ a i, ¬ a = 57 → M a i = Mq a i) → VA fa fz T b → b pl = none → fl_in fa fz y pl → (∀ pl', pl' < 64 → M 57 pl' = poI (up b pl (some y) pl')) → (∀ s, s < 8 → lo s = occ b s + ei s (pl % 8)) → (∀ j', j' < j → ∀ pl, pl < 64 → Q.getD j' 0 = 64 + pl → b pl = h pl) → (∀ j', j' < j → ¬ Q.getD j' 0 = 64 + pl) → H42_4 d x1 (nI (Q.getD j 0)) (nI k) M ML R K) := by
  intro j
  induction j using Nat.strongRecOn with
  | ind j IH =>
    intro hj
    have h136 := hB.2.1 _ (gd_mem hj)
    have hp := hB.2.2.2.2.2 j hj
    refine ⟨fun t b k M ht hn hk hM hv h57 hlo ha => ?_, fun pl b k M hpl hn hk hM hv hb h57 hlo ha => ?_, fun y pl b k M hy hn hpl hk hM hv hb hin h57 hlo ha hnp => ?_⟩
    · rw [hn] at hp ⊢
      refine h42_4 ⟨fun w => absurd ((nI_leI (a := 136) (by decide) (by omega)).mp w) (by omega), fun _ => ⟨fun w => absurd w (nI_nm1 (by omega)), fun _ => ⟨128 + t, rfl, by omega, fun w => absurd ((nI_ltI (b := 64) (by omega) (by decide)).mp w) (by omega), fun _ => ⟨fun _ => ?_, fun w => absurd ((nI_leI (a := 128) (by decide) (by omega)).mpr (by omega)) w⟩⟩⟩⟩
      rw [hM 59 _ (by decide), nI_1]
      rcases hp with ⟨_, w, _⟩ | ⟨j', hj', e, he⟩
      · omega
      · rw [e]
        rcases he with ⟨_, pl, _, _, w⟩ | ⟨pl, p1, p2, p3⟩ | ⟨_, _, _, pl, _, _, _, w⟩
        · omega
        · rcases p3 with ⟨p3, p4⟩ | p3
          · exact (IH j' hj' (by omega)).2.1 pl b (k + 1) M p1 p2 (by omega) hM hv (by rw [ha j' hj' pl p1 p2]; exact p3) (fun pl' q _ => h57 pl' q) (fun s hs => by rw [show pl % 8 = t by omega]; exact hlo s hs) (fun j'' q => ha j'' (by omega))
          · have := hh pl p1 _ p3; omega
        · omega
    · rw [hn] at hp ⊢
      have e64 : nI (64 + pl) - 64 = nI pl := by
        rw [show nI (64 + pl) - 64 = nI (64 + pl - 64) from nI_sub (b := 64) (by omega)]
        congr 1
        omega
      refine h42_4 ⟨fun w => absurd ((nI_leI (a := 136) (by decide) (by omega)).mp w) (by omega), fun _ => ⟨fun w => absurd w (nI_nm1 (by omega)), fun _ => ⟨64 + pl, rfl, by omega, fun w => absurd ((nI_ltI (b := 64) (by omega) (by decide)).mp w) (by omega), fun _ => ⟨fun w => absurd ((nI_leI (a := 128) (by decide) (by omega)).mp w) (by omega), fun _ => ?_⟩⟩⟩⟩
      rw [hM 59 _ (by decide), nI_1, e64]
      rcases hp with ⟨_, w, _⟩ | ⟨j', hj', e, he⟩
      · omega
      · rw [e]
        rcases he with ⟨p1, pl', p2, p3, p4⟩ | ⟨pl', p1, p2, p3⟩ | ⟨t, p1, p2, pl', p3, p4, p5, p6⟩
        · have : pl' = pl := by omega
          subst this
          refine ⟨fun w => absurd ((nI_leI (a := 64) (by decide) (by omega)).mp w) (by omega), fun _ => ⟨pl', rfl, hpl, fun M3 e3 => ?_⟩⟩
          refine (IH j' hj' (by omega)).2.2 (Q.getD j' 0) pl' b (k + 1) M3 p1 rfl p2 (by omega) (fun a i q => ?_) hv hb p3 (fun pl'' q => ?_) hlo (fun j'' q => ha j'' (by omega)) (fun j'' q w => ?_)
          · rw [e3, fm_u_off q]; exact hM a i q
          · rw [e3]
            by_cases z : pl'' = pl'
            · rw [z, fm_u_at, up_at]; rfl
            · rw [fm_u_ix z, up_ne z]; exact h57 pl'' q z
          · have := gd_inj hB.1 (show j'' < Q.length by omega) hj (w.trans hn.symm)
            omega
        · rcases p3 with ⟨_, p4⟩ | p3
          · omega
          · have := hh pl' p1 _ p3; omega
        · have : pl' = pl := by omega
          subst this
          refine ⟨fun _ => ⟨pl', rfl, hpl, fun M2 e2 => ?_⟩, fun w => absurd ((nI_leI (a := 64) (by decide) (by omega)).mpr (by omega)) w⟩
          refine (IH j' hj' (by omega)).1 t b (k + 1) M2 p1 p2 (by omega) (fun a i q => ?_) hv (fun pl'' q => ?_) (fun s hs => by rw [← p4]; exact hlo s hs) (fun j'' q => ha j'' (by omega))
          · rw [e2, fm_u_off q]; exact hM a i q
          · rw [e2]
            by_cases z : pl'' = pl'
            · rw [z, fm_u_at, hb]; rfl
            · rw [fm_u_ix z]; exact h57 pl'' q z
    · rw [hn] at hp ⊢
      refine h42_4 ⟨fun w => absurd ((nI_leI (a := 136) (by decide) (by omega)).mp w) (by omega), fun _ => ⟨fun w => absurd w (nI_nm1 (by omega)), fun _ => ⟨y, rfl, by omega, fun _ => ?_, fun w => absurd ((nI_ltI (b := 64) (by omega) (by decide)).mpr (by omega)) w⟩⟩⟩
      rw [hM 59 _ (by decide), nI_1]
      rcases hp with ⟨_, w, e⟩ | ⟨j', hj', e, he⟩
      · rw [e]
        have kk : K M ML R := by
          refine hK M (up b pl (some y)) ?_ h57 (fun s hs => ?_) hM
          · rw [w]; rw [w] at hin
            exact VA_put hv hpl hb hx hin
          · rw [occ_put hpl hb hs]; exact hlo s hs
        exact h42_4 ⟨fun _ => kk, fun _ => ⟨fun _ => kk, fun q => absurd rfl q⟩⟩
      · rw [e]
        rcases he with ⟨_, pl', _, _, w⟩ | ⟨pl', p1, p2, p3⟩ | ⟨_, _, _, pl', _, _, _, w⟩
        · omega
        · rcases p3 with ⟨_, p4⟩ | p3
          · omega
          · have hby : b pl' = some y := by rw [ha j' hj' pl' p1 p2]; exact p3
            have ne : ¬ pl' = pl := fun w => by rw [w, hb] at hby; cases hby
            have hTy := (hv.1 pl' y p1 hby).1
            have bn : up b pl' none pl = none := by rw [up_ne (fun w => ne w.symm)]; exact hb
            have v2 := VA_ct (tUM hTy) (VA_put (VA_out hv p1 hby) hpl bn (fun w => w.2 rfl) hin)
            refine (IH j' hj' (by omega)).2.1 pl' (up (up b pl' none) pl (some y)) (k + 1) M p1 p2 (by omega) hM v2 (by rw [up_ne ne, up_at]) (fun pl'' q w => ?_) (fun s hs => ?_) (fun j'' q pl'' q2 q3 => ?_)
            · rw [h57 pl'' q]
              by_cases z : pl'' = pl
              · rw [z, up_at, up_at]
              · rw [up_ne z, up_ne z, up_ne w]
            · have a1 := hlo s hs
              have a2 := occ_out p1 hby hs
              rw [occ_put hpl bn hs]
              omega
            · have z1 : ¬ pl'' = pl := fun w => hnp j'' (by omega) (by rw [q3, w])
              have z2 : ¬ pl'' = pl' := fun w => by
                have := gd_inj hB.1 (show j'' < Q.length by omega) (show j' < Q.length by omega) (by rw [q3, p2, w])
                omega
              rw [up_ne z1, up_ne z2]
              exact ha j'' (by omega) pl'' q2 q3
        · omega
end settle
