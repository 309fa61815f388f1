def up (h : Nat → Option Nat) (pl : Nat) (v : Option Nat) : Nat → Option Nat := fun k => if k = pl then v else h k
def upb (m : Nat → Bool) (pl : Nat) : Nat → Bool := fun k => if k = pl then true else m k
def tM (T : Nat → Prop) (y : Nat) : Nat → Prop := fun i => T i ∧ ¬ i = y
def ei (t s : Nat) : Nat := if t = s then 1 else 0
section upd
variable {fa fz : Nat → Nat} {P x y pl : Nat} {T T' : Nat → Prop} {h h' : Nat → Option Nat} {m : Nat → Bool} {v : Option Nat}
theorem up_at : up h pl v pl = v := if_pos rfl
theorem up_ne {k : Nat} (e : ¬ k = pl) : up h pl v k = h k := if_neg e
theorem upb_at : upb m pl pl = true := if_pos rfl
theorem upb_ne {k : Nat} (e : ¬ k = pl) : upb m pl k = m k := if_neg e
theorem upb_le {k : Nat} (e : m k = true) : upb m pl k = true := by
  by_cases z : k = pl
  · rw [z]; exact upb_at
  · rw [upb_ne z]; exact e
theorem upb_f {k : Nat} (e : upb m pl k = false) : ¬ k = pl ∧ m k = false := by
  by_cases z : k = pl
  · rw [z, upb_at] at e; cases e
  · rw [upb_ne z] at e; exact ⟨z, e⟩
theorem ct_1 {p p' : Nat → Bool} (h0 : p pl = false) (h1 : p' pl = true) : ∀ l : List Nat, l.Nodup → (∀ k, k ∈ l → ¬ k = pl → p' k = p k) → l.countP p' = l.countP p + (if pl ∈ l then 1 else 0) := by
  intro l
  induction l with
  | nil => intro _ _; rfl
  | cons a l ih =>
    intro hn hd
    have hn2 := List.nodup_cons.mp hn
    have i := ih hn2.2 (fun k hk => hd k (by simp [hk]))
    by_cases z : a = pl
    · subst z
      rw [if_neg hn2.1] at i
      rw [List.countP_cons_of_pos h1, List.countP_cons_of_neg (by rw [h0]; decide), i, if_pos (by simp)]
    · have e := hd a (by simp) z
      have e2 : (if pl ∈ a :: l then 1 else 0) = (if pl ∈ l then 1 else 0) := by
        have : pl ∈ a :: l ↔ pl ∈ l := by
          rw [List.mem_cons]
          exact ⟨fun w => w.resolve_left (fun w => z w.symm), Or.inr⟩
        simp only [this]
      rw [e2, List.countP_cons, List.countP_cons, i, e]
      omega
theorem sl8_nd : ∀ t, t < 8 → (sl8 t).Nodup := by decide +kernel
theorem cs_1 {p p' : Nat → Bool} (hpl : pl < 64) (h0 : p pl = false) (h1 : p' pl = true) (hd : ∀ k, ¬ k = pl → p' k = p k) {t : Nat} (ht : t < 8) : cs p' t = cs p t + ei t (pl % 8) := by
  unfold cs ei
  rw [ct_1 h0 h1 _ (sl8_nd t ht) (fun k _ => hd k)]
  congr 1
  have : pl ∈ sl8 t ↔ t = pl % 8 := by
    rw [sl8_in ht]
    exact ⟨fun w => w.2.symm, fun w => ⟨hpl, w.symm⟩⟩
  simp only [this]
theorem occ_put (hpl : pl < 64) (h0 : h pl = none) {t : Nat} (ht : t < 8) : occ (up h pl (some y)) t = occ h t + ei t (pl % 8) :=
  cs_1 hpl (by rw [h0]; rfl) (by rw [up_at]; rfl) (fun k hk => by rw [up_ne hk]) ht
theorem occ_out (hpl : pl < 64) (h0 : h pl = some y) {t : Nat} (ht : t < 8) : occ h t = occ (up h pl none) t + ei t (pl % 8) :=
  cs_1 hpl (by rw [up_at]; rfl) (by rw [h0]; rfl) (fun k hk => by rw [up_ne hk]) ht
theorem occ_cg (e : ∀ pl, pl < 64 → h pl = h' pl) {t : Nat} (ht : t < 8) : occ h t = occ h' t :=
  Nat.le_antisymm (cs_le ht (fun pl hp _ w => by rw [← e pl hp]; exact w)) (cs_le ht (fun pl hp _ w => by rw [e pl hp]; exact w))
theorem VA_cg (e : ∀ pl, pl < 64 → h pl = h' pl) (hv : VA fa fz T h) : VA fa fz T h' := by
  obtain ⟨a, b, c⟩ := hv
  refine ⟨fun pl i h1 h2 => a pl i h1 (by rw [e pl h1]; exact h2), fun i hi => ?_, fun pl pl' i h1 h2 h3 h4 => c pl pl' i h1 h2 (by rw [e pl h1]; exact h3) (by rw [e pl' h2]; exact h4)⟩
  obtain ⟨pl, h1, h2⟩ := b i hi
  exact ⟨pl, h1, by rw [← e pl h1]; exact h2⟩
theorem VA_ct (e : ∀ i, T i ↔ T' i) (hv : VA fa fz T h) : VA fa fz T' h := by
  obtain ⟨a, b, c⟩ := hv
  exact ⟨fun pl i h1 h2 => ⟨(e i).mp (a pl i h1 h2).1, (a pl i h1 h2).2⟩, fun i hi => b i ((e i).mpr hi), c⟩
theorem VA_out (hv : VA fa fz T h) (hpl : pl < 64) (hy : h pl = some y) : VA fa fz (tM T y) (up h pl none) := by
  obtain ⟨a, b, c⟩ := hv
  have ne : ∀ {k i : Nat}, up h pl none k = some i → ¬ k = pl ∧ h k = some i := fun {k i} w => by
    by_cases z : k = pl
    · rw [z, up_at] at w; cases w
    · rw [up_ne z] at w; exact ⟨z, w⟩
  refine ⟨fun k i hk hi => ?_, fun i hi => ?_, fun k k' i hk hk' hi hi' => c k k' i hk hk' (ne hi).2 (ne hi').2⟩
  · obtain ⟨z, w⟩ := ne hi
    refine ⟨⟨(a k i hk w).1, fun e => z ?_⟩, (a k i hk w).2⟩
    rw [e] at w
    exact c k pl y hk hpl w hy
  · obtain ⟨k, hk, w⟩ := b i hi.1
    refine ⟨k, hk, ?_⟩
    rw [up_ne (fun e => hi.2 ?_)]
    · exact w
    · rw [e, hy] at w; exact (Option.some.inj w).symm
theorem VA_put (hv : VA fa fz T h) (hpl : pl < 64) (h0 : h pl = none) (hx : ¬ T x) (hw : fl_in fa fz x pl) : VA fa fz (tU T x) (up h pl (some x)) := by
  obtain ⟨a, b, c⟩ := hv
  have ne : ∀ {k i : Nat}, up h pl (some x) k = some i → (k = pl ∧ i = x) ∨ (¬ k = pl ∧ h k = some i) := fun {k i} w => by
    by_cases z : k = pl
    · rw [z, up_at] at w; exact Or.inl ⟨z, (Option.some.inj w).symm⟩
    · rw [up_ne z] at w; exact Or.inr ⟨z, w⟩
  refine ⟨fun k i hk hi => ?_, fun i hi => ?_, fun k k' i hk hk' hi hi' => ?_⟩
  · rcases ne hi with ⟨z, w⟩ | ⟨z, w⟩
    · rw [z, w]; exact ⟨Or.inr rfl, hw⟩
    · exact ⟨Or.inl (a k i hk w).1, (a k i hk w).2⟩
  · rcases hi with hi | hi
    · obtain ⟨k, hk, w⟩ := b i hi
      refine ⟨k, hk, ?_⟩
      rw [up_ne (fun e => by rw [e, h0] at w; cases w)]
      exact w
    · rw [hi]; exact ⟨pl, hpl, up_at⟩
  · rcases ne hi with ⟨z, w⟩ | ⟨z, w⟩
    · rcases ne hi' with ⟨z', w'⟩ | ⟨z', w'⟩
      · rw [z, z']
      · rw [w] at w'; exact absurd (a k' x hk' w').1 hx
    · rcases ne hi' with ⟨z', w'⟩ | ⟨z', w'⟩
      · rw [w'] at w; exact absurd (a k x hk w).1 hx
      · exact c k k' i hk hk' w w'
theorem tUM (hy : T y) (i : Nat) : tU (tM T y) y i ↔ T i := by
  unfold tU tM
  constructor
  · rintro (w | w)
    · exact w.1
    · rw [w]; exact hy
  · intro w
    by_cases z : i = y
    · exact Or.inr z
    · exact Or.inl ⟨w, z⟩
def um (m : Nat → Bool) : Nat := (List.range 64).countP (fun k => !m k)
theorem um_up (hpl : pl < 64) (h0 : m pl = false) : um m = um (upb m pl) + 1 := by
  unfold um
  rw [ct_1 (pl := pl) (p := fun k => !upb m pl k) (p' := fun k => !m k) (by rw [upb_at]; rfl) (by rw [h0]; rfl) _ List.nodup_range (fun k _ hk => by rw [upb_ne hk]), if_pos (List.mem_range.mpr hpl)]
theorem um_le {m' : Nat → Bool} (e : ∀ k, k < 64 → m k = true → m' k = true) : um m' ≤ um m := by
  unfold um
  refine List.countP_mono_left (fun k hk w => ?_)
  cases z : m k with
  | false => rfl
  | true => rw [e k (List.mem_range.mp hk) z] at w; cases w
theorem um_64 : um m ≤ 64 := by
  unfold um
  have := List.countP_le_length (p := fun k => !m k) (l := List.range 64)
  rw [List.length_range] at this
  exact this
end upd
