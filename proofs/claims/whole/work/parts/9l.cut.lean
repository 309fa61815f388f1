/-! flows: PARTS (numbers below 64, 8 of each TASK), places (64, a TASK in a SLOT), SLOTS -/
theorem pig : ∀ (l l' : List Nat), l.Nodup → (∀ x, x ∈ l → x ∈ l') → l.length ≤ l'.length := by
  intro l
  induction l with
  | nil => intro l' _ _; exact Nat.zero_le _
  | cons a l ih =>
    intro l' hn hs
    have hn2 := List.nodup_cons.mp hn
    have ha : a ∈ l' := hs a (by simp)
    have h1 := ih (l'.erase a) hn2.2 (fun x hx => (List.mem_erase_of_ne (fun e => hn2.1 (by rw [← e]; exact hx))).mpr (hs x (by simp [hx])))
    rw [List.length_erase_of_mem ha] at h1
    have h2 := List.length_pos_of_mem ha
    rw [List.length_cons]
    omega
def sl8 (t : Nat) : List Nat := (List.range 8).map (fun q => 8 * q + t)
def cs (p : Nat → Bool) (t : Nat) : Nat := (sl8 t).countP p
def PL : List Nat := (List.range 8).flatMap sl8
theorem PL_nd : PL.Nodup := by decide +kernel
theorem PL_in : ∀ pl, pl < 64 → pl ∈ PL := by decide +kernel
theorem PL_lt : ∀ pl, pl ∈ PL → pl < 64 := by decide +kernel
theorem sl8_in {t pl : Nat} (ht : t < 8) : pl ∈ sl8 t ↔ pl < 64 ∧ pl % 8 = t := by
  unfold sl8
  rw [List.mem_map]
  constructor
  · rintro ⟨q, hq, rfl⟩
    have := List.mem_range.mp hq
    omega
  · rintro ⟨h1, h2⟩
    exact ⟨pl / 8, List.mem_range.mpr (by omega), by omega⟩
theorem cs_le {p p' : Nat → Bool} {t : Nat} (ht : t < 8) (h : ∀ pl, pl < 64 → pl % 8 = t → p pl = true → p' pl = true) : cs p t ≤ cs p' t :=
  List.countP_mono_left (fun x hx hp => h x ((sl8_in ht).mp hx).1 ((sl8_in ht).mp hx).2 hp)
theorem ct_le {p p' : Nat → Bool} : ∀ l : List Nat, (∀ t, t ∈ l → cs p t ≤ cs p' t) → (l.flatMap sl8).countP p ≤ (l.flatMap sl8).countP p' := by
  intro l
  induction l with
  | nil => intro _; exact Nat.le_refl _
  | cons a l ih =>
    intro h
    rw [List.flatMap_cons, List.countP_append, List.countP_append]
    exact Nat.add_le_add (h a (by simp)) (ih (fun t ht => h t (by simp [ht])))
def fl_in (fa fz : Nat → Nat) (i pl : Nat) : Prop := pl / 8 = i / 8 ∧ fa i ≤ pl % 8 ∧ pl % 8 < fz i
/-- those of T lie each in one place -/
def VA (fa fz : Nat → Nat) (T : Nat → Prop) (h : Nat → Option Nat) : Prop := (∀ pl i, pl < 64 → h pl = some i → T i ∧ fl_in fa fz i pl) ∧ (∀ i, T i → ∃ pl, pl < 64 ∧ h pl = some i) ∧ (∀ pl pl' i, pl < 64 → pl' < 64 → h pl = some i → h pl' = some i → pl = pl')
def occ (h : Nat → Option Nat) (t : Nat) : Nat := cs (fun pl => (h pl).isSome) t
/-- those of T can all be run -/
def Fs (fa fz : Nat → Nat) (P : Nat) (T : Nat → Prop) : Prop := ∃ h, VA fa fz T h ∧ ∀ t, t < 8 → occ h t ≤ P
def tU (T : Nat → Prop) (x : Nat) : Nat → Prop := fun i => T i ∨ i = x
/-- a search that ended without a way -/
def CLs (fa fz : Nat → Nat) (P : Nat) (h : Nat → Option Nat) (m s : Nat → Bool) (x : Nat) : Prop := (∀ pl, pl < 64 → fl_in fa fz x pl → m pl = true) ∧ (∀ pl, pl < 64 → m pl = true → (∀ y, h pl = some y → ∀ pl', pl' < 64 → fl_in fa fz y pl' → m pl' = true) ∧ (h pl = none → s (pl % 8) = true)) ∧ (∀ t, t < 8 → s t = true → P ≤ occ h t ∧ ∀ pl, pl < 64 → pl % 8 = t → ¬ h pl = none → m pl = true)
theorem isSome_ne {α : Type} {o : Option α} : o.isSome = true ↔ ¬ o = none := by cases o <;> simp
theorem fl_cut {fa fz : Nat → Nat} {P x : Nat} {T : Nat → Prop} {h : Nat → Option Nat} {m s : Nat → Bool} (hv : VA fa fz T h) (hx : ¬ T x) (hc : CLs fa fz P h m s x) : ¬ Fs fa fz P (tU T x) := by
  rintro ⟨h2, v2, o2⟩
  obtain ⟨c1, c2, c3⟩ := hc
  have ex : ∀ y, ∃ pl, tU T x y → pl < 64 ∧ h2 pl = some y := fun y => by
    by_cases z : tU T x y
    · obtain ⟨pl, h1, h2⟩ := v2.2.1 y z
      exact ⟨pl, fun _ => ⟨h1, h2⟩⟩
    · exact ⟨0, fun w => absurd w z⟩
  obtain ⟨f, hf⟩ := Classical.axiomOfChoice ex
  have Ym : ∀ y, y = x ∨ (∃ pl, pl < 64 ∧ m pl = true ∧ h pl = some y) → tU T x y ∧ ∀ pl', pl' < 64 → fl_in fa fz y pl' → m pl' = true := fun y hy => by
    rcases hy with rfl | ⟨pl, h1, h2, h3⟩
    · exact ⟨Or.inr rfl, c1⟩
    · exact ⟨Or.inl (hv.1 pl y h1 h3).1, (c2 pl h1 h2).1 y h3⟩
  obtain ⟨p2, hp2⟩ : ∃ p2 : Nat → Bool, ∀ pl, p2 pl = true ↔ ∃ y, h2 pl = some y ∧ (y = x ∨ (∃ pl, pl < 64 ∧ m pl = true ∧ h pl = some y)) :=
    ⟨fun pl => @decide (∃ y, h2 pl = some y ∧ (y = x ∨ (∃ pl, pl < 64 ∧ m pl = true ∧ h pl = some y))) (Classical.propDecidable _), fun pl => @decide_eq_true_iff _ (Classical.propDecidable _)⟩
  have p2m : ∀ pl, pl < 64 → p2 pl = true → m pl = true := fun pl hpl hp => by
    obtain ⟨y, e, hy⟩ := (hp2 pl).mp hp
    exact (Ym y hy).2 pl hpl (v2.1 pl y hpl e).2
  -- one more than there is room for
  have k1 : PL.countP (fun pl => m pl && (h pl).isSome) + 1 ≤ PL.countP p2 := by
    rw [List.countP_eq_length_filter, List.countP_eq_length_filter]
    have hin : ∀ pl, pl ∈ PL.filter (fun pl => m pl && (h pl).isSome) → ∃ y, pl < 64 ∧ m pl = true ∧ h pl = some y := fun pl hpl => by
      obtain ⟨a1, a2⟩ := List.mem_filter.mp hpl
      rw [Bool.and_eq_true] at a2
      obtain ⟨y, e⟩ := Option.isSome_iff_exists.mp a2.2
      exact ⟨y, PL_lt pl a1, a2.1, e⟩
    have nd : (f x :: (PL.filter (fun pl => m pl && (h pl).isSome)).map (fun pl => f ((h pl).getD 0))).Nodup := by
      refine List.nodup_cons.mpr ⟨fun hm => ?_, ?_⟩
      · obtain ⟨pl, hpl, e⟩ := List.mem_map.mp hm
        obtain ⟨y, a1, a2, a3⟩ := hin pl hpl
        rw [a3, Option.getD_some] at e
        have hTy := (hv.1 pl y a1 a3).1
        have b1 := (hf y (Or.inl hTy)).2
        rw [e, (hf x (Or.inr rfl)).2] at b1
        have : x = y := Option.some.inj b1
        rw [this] at hx
        exact hx hTy
      · refine List.pairwise_map.mpr (List.Pairwise.imp_of_mem (fun {a b} ha hb hab e => hab ?_) (List.Pairwise.filter _ PL_nd))
        obtain ⟨y, a1, a2, a3⟩ := hin a ha
        obtain ⟨y', b1, b2, b3⟩ := hin b hb
        rw [a3, b3, Option.getD_some, Option.getD_some] at e
        have d1 := (hf y (Or.inl (hv.1 a y a1 a3).1)).2
        rw [e, (hf y' (Or.inl (hv.1 b y' b1 b3).1)).2] at d1
        have : y' = y := Option.some.inj d1
        rw [this] at b3
        exact hv.2.2 a b y a1 b1 a3 b3
    have := pig _ (PL.filter p2) nd (fun z hz => by
      rcases List.mem_cons.mp hz with rfl | hz
      · exact List.mem_filter.mpr ⟨PL_in _ (hf x (Or.inr rfl)).1, (hp2 _).mpr ⟨x, (hf x (Or.inr rfl)).2, Or.inl rfl⟩⟩
      · obtain ⟨pl, hpl, e⟩ := List.mem_map.mp hz
        obtain ⟨y, a1, a2, a3⟩ := hin pl hpl
        rw [a3, Option.getD_some] at e
        have hTy := (hv.1 pl y a1 a3).1
        rw [← e]
        exact List.mem_filter.mpr ⟨PL_in _ (hf y (Or.inl hTy)).1, (hp2 _).mpr ⟨y, (hf y (Or.inl hTy)).2, Or.inr ⟨pl, a1, a2, a3⟩⟩⟩)
    rw [List.length_cons, List.length_map] at this
    exact this
  have k2 : PL.countP p2 ≤ PL.countP (fun pl => m pl && (h pl).isSome) := ct_le _ (fun t ht => by
    have ht8 := List.mem_range.mp ht
    by_cases z : s t = true
    · obtain ⟨d1, d2⟩ := c3 t ht8 z
      have e1 : cs p2 t ≤ occ h2 t := cs_le ht8 (fun pl _ _ hp => by
        obtain ⟨y, e, _⟩ := (hp2 pl).mp hp
        rw [e]; rfl)
      have e2 : occ h t ≤ cs (fun pl => m pl && (h pl).isSome) t := cs_le ht8 (fun pl a1 a2 hp => by
        rw [Bool.and_eq_true]
        exact ⟨d2 pl a1 a2 (isSome_ne.mp hp), hp⟩)
      exact Nat.le_trans e1 (Nat.le_trans (o2 t ht8) (Nat.le_trans d1 e2))
    · refine cs_le ht8 (fun pl a1 a2 hp => ?_)
      have hm := p2m pl a1 hp
      rw [Bool.and_eq_true]
      refine ⟨hm, isSome_ne.mpr (fun e => z ?_)⟩
      rw [← a2]
      exact (c2 pl a1 hm).2 e)
  omega
